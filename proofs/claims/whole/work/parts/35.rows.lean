abbrev rmX3_has : Room := { frames := 0, cells := 0, slots := 0, locals := 0 }
theorem hdX3_has : yX3_has.cls = RX3 ∧ yX3_has.cls ≠ "java/lang/invoke/MethodHandle" ∧ yX3_has.cls ≠ "java/lang/invoke/VarHandle" ∧ (parseMethodDescriptor yX3_has.desc).map (fun d => d.parameters.length) = some 1 := by decide +kernel
def fX3_has (RW : RowV) (p0 : Int32) : Option Int32 := if p0 < 0 then (some (0 : Int32)) else (if (Int32.ofNat RW.len) ≤ p0 then (some (0 : Int32)) else (some (1 : Int32)))
set_option maxHeartbeats 1000000 in
set_option maxRecDepth 100000 in
theorem ctX3_has (l : Launch) (D : va_G) (K : Nat → ClassId) (jW : Nat) (aW : Nat → Nat) (RW : RowV) (p0 : Int32) (o : Int32) (hf : fX3_has RW p0 = some o) (sz : Nat) : Met l yX3_has wsX3_has rmX3_has (ht_Pre D K [.ref jW, .int p0] (wRo K jW aW RW.sort RW.items RW.len) sz) (ht_Qi D K (wRo K jW aW RW.sort RW.items RW.len) o (va_A (wRo K jW aW RW.sort RW.items RW.len) sz)) 0 0 (va_A (wRo K jW aW RW.sort RW.items RW.len) sz) := by
  refine ht_enter (Qf := ht_Qi D K (wRo K jW aW RW.sort RW.items RW.len) o) (cc := cX3_has) (maxL := 2) (rt := (some .boolean)) (by decide) rfl (Nat.le_of_ble_eq_true rfl) ?_ sz
  intro p e s m below meth c A Q H locs ls hQ hx hb hr hlk hmn hml hown hts hA hK hP hD hS hl
  have hown : s.vm.findClass RX3 = some m.cls := hown
  have hF : CallFix p m c cX3_has 2 s ([.ref jW, .int p0] : List Value).toArray wsX3_has RX3 := ⟨hx, hb, hml, hown, hts⟩
  have hl : lv_has ls 2 [(0, .ref jW), (1, .int p0)] := hl
  have iw3 : ∀ w ∈ u_ws RX3 TX3 2, w ∈ wsX3_has := by decide +kernel
  have kw1 := hts (.fieldLink RX3 24 "HeldTongues$SheetRow" "items" "[J") (by decide +kernel)
  delta fX3_has at hf
  refine lv_iload_n hx hb dX3_has_0 rfl (lv_at hl 1 rfl) ?_
  refine lv_if_lt (tgt := 17) hx hb dX3_has_1 (by decide) (fun c_1 => ?_) (fun c_1 => ?_)
  · replace hf := ht_t c_1 hf
    refine lv_iconst (v := 0) hx hb dX3_has_17 (by decide) ?_
    have ho := Option.some.inj hf
    subst ho; subst hQ
    exact ht_iret hx hb hr hlk (show narrow .boolean (.int (0 : Int32)) = .int (0 : Int32) from rfl) hK hP hD hS dX3_has_18
  · replace hf := ht_f c_1 hf
    refine lv_iload_n hx hb dX3_has_4 rfl (lv_at hl 1 rfl) ?_
    refine lv_aload_n hx hb dX3_has_5 rfl (lv_at hl 0 rfl) ?_
    refine va_get (D := D) (ci := 3) (v := .ref (aW 0)) (C := RX3) (T := TX3) (N := 2) hx hb hts iw3 hown hK hP 0 rfl rfl 1 (by decide) kw1 (fun _ h9 => h9) rfl dX3_has_6 ?_
    refine va_alen (v := (Int32.ofNat RW.len)) hx hb hK hP 1 2 rfl rfl rfl dX3_has_9 ?_
    refine lv_icmp_ge (tgt := 17) hx hb dX3_has_10 (by decide) (fun c_2 => ?_) (fun c_2 => ?_)
    · replace hf := ht_t c_2 hf
      refine lv_iconst (v := 0) hx hb dX3_has_17 (by decide) ?_
      have ho := Option.some.inj hf
      subst ho; subst hQ
      exact ht_iret hx hb hr hlk (show narrow .boolean (.int (0 : Int32)) = .int (0 : Int32) from rfl) hK hP hD hS dX3_has_18
    · replace hf := ht_f c_2 hf
      refine lv_iconst (v := 1) hx hb dX3_has_13 (by decide) ?_
      refine lv_goto (tgt := 18) hx hb dX3_has_14 (by decide) ?_
      have ho := Option.some.inj hf
      subst ho; subst hQ
      exact ht_iret hx hb hr hlk (show narrow .boolean (.int (1 : Int32)) = .int (1 : Int32) from rfl) hK hP hD hS dX3_has_18
abbrev rmX3_narrowed : Room := { frames := 0, cells := 0, slots := 0, locals := 0 }
theorem hdX3_narrowed : yX3_narrowed.cls = RX3 ∧ yX3_narrowed.cls ≠ "java/lang/invoke/MethodHandle" ∧ yX3_narrowed.cls ≠ "java/lang/invoke/VarHandle" ∧ (parseMethodDescriptor yX3_narrowed.desc).map (fun d => d.parameters.length) = some 1 := by decide +kernel
def fX3_narrowed (RW : RowV) (p0 : Int32) : Option Int64 := ht_nm RW.sort (fun sw_1 => if sw_1 = 0 then (some p0.toInt8.toInt32.toInt64) else if sw_1 = 1 then (some p0.toInt16.toInt32.toInt64) else (some p0.toInt64))
set_option maxHeartbeats 1000000 in
set_option maxRecDepth 100000 in
theorem ctX3_narrowed (l : Launch) (D : va_G) (K : Nat → ClassId) (jW : Nat) (aW : Nat → Nat) (RW : RowV) (p0 : Int32) (o : Int64) (hf : fX3_narrowed RW p0 = some o) (sz : Nat) : Met l yX3_narrowed wsX3_narrowed rmX3_narrowed (ht_Pre D K [.ref jW, .int p0] (wRo K jW aW RW.sort RW.items RW.len) sz) (ht_Ql D K (wRo K jW aW RW.sort RW.items RW.len) o (va_A (wRo K jW aW RW.sort RW.items RW.len) sz)) 0 0 (va_A (wRo K jW aW RW.sort RW.items RW.len) sz) := by
  refine ht_enter (Qf := ht_Ql D K (wRo K jW aW RW.sort RW.items RW.len) o) (cc := cX3_narrowed) (maxL := 2) (rt := (some .long)) (by decide) rfl (Nat.le_of_ble_eq_true rfl) ?_ sz
  intro p e s m below meth c A Q H locs ls hQ hx hb hr hlk hmn hml hown hts hA hK hP hD hS hl
  have hown : s.vm.findClass RX3 = some m.cls := hown
  have hF : CallFix p m c cX3_narrowed 2 s ([.ref jW, .int p0] : List Value).toArray wsX3_narrowed RX3 := ⟨hx, hb, hml, hown, hts⟩
  have hl : lv_has ls 2 [(0, .ref jW), (1, .int p0)] := hl
  have iw3 : ∀ w ∈ u_ws RX3 TX3 2, w ∈ wsX3_narrowed := by decide +kernel
  have kw1 := hts (.fieldLink RX3 9 "HeldTongues$SheetRow" "sort" "I") (by decide +kernel)
  delta fX3_narrowed at hf
  refine lv_aload_n hx hb dX3_narrowed_0 rfl (lv_at hl 0 rfl) ?_
  refine va_get (D := D) (ci := 3) (v := .int RW.sort) (C := RX3) (T := TX3) (N := 2) hx hb hts iw3 hown hK hP 0 rfl rfl 0 (by decide) kw1 (fun _ h9 => h9) rfl dX3_narrowed_1 ?_
  obtain ⟨sw_1, esw_1, hf⟩ := ht_nm_ob hf
  rw [← esw_1]
  by_cases c_2 : sw_1 = 0
  · replace hf := ht_t c_2 hf
    refine lv_lookup (off := 28) (tgt := 32) hx hb dX3_narrowed_4 rfl (by rw [c_2]; try rfl) (by decide) ?_
    refine lv_iload_n hx hb dX3_narrowed_32 rfl (lv_at hl 1 rfl) ?_
    refine lv_i2b hx hb dX3_narrowed_33 rfl ?_
    refine lv_i2l hx hb dX3_narrowed_34 rfl ?_
    have ho := Option.some.inj hf
    subst ho; subst hQ
    exact ht_lret hx hb hr hlk hK hP hD hS dX3_narrowed_35
  replace hf := ht_f c_2 hf
  by_cases c_3 : sw_1 = 1
  · replace hf := ht_t c_3 hf
    refine lv_lookup (off := 32) (tgt := 36) hx hb dX3_narrowed_4 rfl (by rw [c_3]; try rfl) (by decide) ?_
    refine lv_iload_n hx hb dX3_narrowed_36 rfl (lv_at hl 1 rfl) ?_
    refine lv_i2s hx hb dX3_narrowed_37 rfl ?_
    refine lv_i2l hx hb dX3_narrowed_38 rfl ?_
    have ho := Option.some.inj hf
    subst ho; subst hQ
    exact ht_lret hx hb hr hlk hK hP hD hS dX3_narrowed_39
  replace hf := ht_f c_3 hf
  refine lv_lookup (off := 36) (tgt := 40) hx hb dX3_narrowed_4 rfl ((lv_osw c_2 (a := 0) rfl).trans ((lv_osw c_3 (a := 1) rfl).trans rfl)) (by decide) ?_
  refine lv_iload_n hx hb dX3_narrowed_40 rfl (lv_at hl 1 rfl) ?_
  refine lv_i2l hx hb dX3_narrowed_41 rfl ?_
  have ho := Option.some.inj hf
  subst ho; subst hQ
  exact ht_lret hx hb hr hlk hK hP hD hS dX3_narrowed_42
abbrev rmX7_voiceFits : Room := { frames := 4, cells := 0, slots := 0, locals := 89 }
theorem hdX7_voiceFits : yX7_voiceFits.cls = RX7 ∧ yX7_voiceFits.cls ≠ "java/lang/invoke/MethodHandle" ∧ yX7_voiceFits.cls ≠ "java/lang/invoke/VarHandle" ∧ (parseMethodDescriptor yX7_voiceFits.desc).map (fun d => d.parameters.length) = some 3 := by decide +kernel
def fX7_voiceFits_b78 (RN : TownV) (RT : TownV) (RW : RowV) (k24 : Int32 → Int32 → AI → AI → AI → AI → AI → AI → AI → Int32 → Int32 → Int32 → Int32 → Int32 → Option (Int32 × AI × AI × AI × AI × AI × AI × AI × Int32 × Int32 × Int32 × Int32 × Int32)) (x2 : Int32) (x4 : Int32) (vT_laws : AI) (vT_kind : AI) (vT_need : AI) (vT_saved : AI) (vT_voice : AI) (vT_partner : AI) (vT_speaks : AI) (vT_count : Int32) (vT_day : Int32) (vT_heard : Int32) (vT_geese : Int32) (vT_z : Int32) : Option (Int32 × AI × AI × AI × AI × AI × AI × AI × Int32 × Int32 × Int32 × Int32 × Int32) := ht_nm (x4 + (1 : Int32)) (fun x4_1 => k24 x2 x4_1 vT_laws vT_kind vT_need vT_saved vT_voice vT_partner vT_speaks vT_count vT_day vT_heard vT_geese vT_z)
def fX7_voiceFits_b24 (RN : TownV) (RT : TownV) (RW : RowV) (k24 : Int32 → Int32 → AI → AI → AI → AI → AI → AI → AI → Int32 → Int32 → Int32 → Int32 → Int32 → Option (Int32 × AI × AI × AI × AI × AI × AI × AI × Int32 × Int32 × Int32 × Int32 × Int32)) (x2 : Int32) (x4 : Int32) (vT_laws : AI) (vT_kind : AI) (vT_need : AI) (vT_saved : AI) (vT_voice : AI) (vT_partner : AI) (vT_speaks : AI) (vT_count : Int32) (vT_day : Int32) (vT_heard : Int32) (vT_geese : Int32) (vT_z : Int32) : Option (Int32 × AI × AI × AI × AI × AI × AI × AI × Int32 × Int32 × Int32 × Int32 × Int32) := if (Int32.ofNat RW.len) ≤ x4 then (some ((1 : Int32), vT_laws, vT_kind, vT_need, vT_saved, vT_voice, vT_partner, vT_speaks, vT_count, vT_day, vT_heard, vT_geese, vT_z)) else (ht_bn (fX6_passDay (vT_laws, vT_kind, vT_need, vT_saved, vT_voice, vT_partner, vT_speaks, vT_count, vT_day, vT_heard, vT_geese, vT_z)) (fun o_3 => ht_gd (ht_ix x4 RW.len) (ht_nm (RW.items x4.toNatClampNeg) (fun x5_5 => if (lg_cmp x5_5 (-1 : Int64)) = 0 then (fX7_voiceFits_b78 RN RT RW k24 x2 x4 vT_laws vT_kind o_3.2.1 o_3.2.2.1 vT_voice vT_partner o_3.2.2.2.1 vT_count o_3.2.2.2.2.1 o_3.2.2.2.2.2.1 o_3.2.2.2.2.2.2 vT_z) else (ht_gd (ht_ix x2 8) (if (lg_cmp x5_5 ((o_3.2.1 x2.toNatClampNeg).toInt64)) = 0 then (fX7_voiceFits_b78 RN RT RW k24 x2 x4 vT_laws vT_kind o_3.2.1 o_3.2.2.1 vT_voice vT_partner o_3.2.2.2.1 vT_count o_3.2.2.2.2.1 o_3.2.2.2.2.2.1 o_3.2.2.2.2.2.2 vT_z) else (some ((0 : Int32), vT_laws, vT_kind, o_3.2.1, o_3.2.2.1, vT_voice, vT_partner, o_3.2.2.2.1, vT_count, o_3.2.2.2.2.1, o_3.2.2.2.2.2.1, o_3.2.2.2.2.2.2, vT_z))))))))
def fX7_voiceFits (RN : TownV) (RT : TownV) (RW : RowV) (p1 : Int32) (p2 : Int32) : Option (Int32 × AI × AI × AI × AI × AI × AI × AI × Int32 × Int32 × Int32 × Int32 × Int32) := ht_bn (fX6_copyFrom RT RN) (fun o_9 => ht_gd (ht_ix p1 8) (ht_nm (upd o_9.2.2.2.2.1 p1.toNatClampNeg p2) (fun vT_voice_11 => ht_lp14 (fX7_voiceFits_b24 RN RT RW) FU p1 (0 : Int32) o_9.1 o_9.2.1 o_9.2.2.1 o_9.2.2.2.1 vT_voice_11 o_9.2.2.2.2.2.1 o_9.2.2.2.2.2.2.1 o_9.2.2.2.2.2.2.2.1 o_9.2.2.2.2.2.2.2.2.1 o_9.2.2.2.2.2.2.2.2.2.1 o_9.2.2.2.2.2.2.2.2.2.2.1 o_9.2.2.2.2.2.2.2.2.2.2.2)))
set_option maxHeartbeats 1000000 in
set_option maxRecDepth 100000 in
theorem ctX7_voiceFits (l : Launch) (D : va_G) (K : Nat → ClassId) (jS : Nat) (jN : Nat) (aN : Nat → Nat) (jT : Nat) (aT : Nat → Nat) (jW : Nat) (aW : Nat → Nat) (RN : TownV) (RT : TownV) (RW : RowV) (p1 : Int32) (p2 : Int32) (o : (Int32 × AI × AI × AI × AI × AI × AI × AI × Int32 × Int32 × Int32 × Int32 × Int32)) (hf : fX7_voiceFits RN RT RW p1 p2 = some o) (sz : Nat) : Met l yX7_voiceFits wsX7_voiceFits rmX7_voiceFits (ht_Pre D K [.ref jS, .ref jW, .int p1, .int p2] (wTr K jS jN jT ++ (wTw K jN aN RN.laws RN.kind RN.need RN.saved RN.voice RN.partner RN.speaks RN.count RN.day RN.heard RN.geese RN.z ++ (wTw K jT aT RT.laws RT.kind RT.need RT.saved RT.voice RT.partner RT.speaks RT.count RT.day RT.heard RT.geese RT.z ++ (wRo K jW aW RW.sort RW.items RW.len)))) sz) (ht_Qi D K (wTr K jS jN jT ++ (wTw K jN aN RN.laws RN.kind RN.need RN.saved RN.voice RN.partner RN.speaks RN.count RN.day RN.heard RN.geese RN.z ++ (wTw K jT aT o.2.1 o.2.2.1 o.2.2.2.1 o.2.2.2.2.1 o.2.2.2.2.2.1 o.2.2.2.2.2.2.1 o.2.2.2.2.2.2.2.1 o.2.2.2.2.2.2.2.2.1 o.2.2.2.2.2.2.2.2.2.1 o.2.2.2.2.2.2.2.2.2.2.1 o.2.2.2.2.2.2.2.2.2.2.2.1 o.2.2.2.2.2.2.2.2.2.2.2.2 ++ (wRo K jW aW RW.sort RW.items RW.len)))) o.1 (va_A (wTr K jS jN jT ++ (wTw K jN aN RN.laws RN.kind RN.need RN.saved RN.voice RN.partner RN.speaks RN.count RN.day RN.heard RN.geese RN.z ++ (wTw K jT aT RT.laws RT.kind RT.need RT.saved RT.voice RT.partner RT.speaks RT.count RT.day RT.heard RT.geese RT.z ++ (wRo K jW aW RW.sort RW.items RW.len)))) sz)) 0 0 (va_A (wTr K jS jN jT ++ (wTw K jN aN RN.laws RN.kind RN.need RN.saved RN.voice RN.partner RN.speaks RN.count RN.day RN.heard RN.geese RN.z ++ (wTw K jT aT RT.laws RT.kind RT.need RT.saved RT.voice RT.partner RT.speaks RT.count RT.day RT.heard RT.geese RT.z ++ (wRo K jW aW RW.sort RW.items RW.len)))) sz) := by
  refine ht_enter (Qf := ht_Qi D K (wTr K jS jN jT ++ (wTw K jN aN RN.laws RN.kind RN.need RN.saved RN.voice RN.partner RN.speaks RN.count RN.day RN.heard RN.geese RN.z ++ (wTw K jT aT o.2.1 o.2.2.1 o.2.2.2.1 o.2.2.2.2.1 o.2.2.2.2.2.1 o.2.2.2.2.2.2.1 o.2.2.2.2.2.2.2.1 o.2.2.2.2.2.2.2.2.1 o.2.2.2.2.2.2.2.2.2.1 o.2.2.2.2.2.2.2.2.2.2.1 o.2.2.2.2.2.2.2.2.2.2.2.1 o.2.2.2.2.2.2.2.2.2.2.2.2 ++ (wRo K jW aW RW.sort RW.items RW.len)))) o.1) (cc := cX7_voiceFits) (maxL := 7) (rt := (some .boolean)) (by decide) rfl (Nat.le_of_ble_eq_true rfl) ?_ sz
  intro p e s m below meth c A Q H locs ls hQ hx hb hr hlk hmn hml hown hts hA hK hP hD hS hl
  have hown : s.vm.findClass RX7 = some m.cls := hown
  have hF : CallFix p m c cX7_voiceFits 7 s ([.ref jS, .ref jW, .int p1, .int p2] : List Value).toArray wsX7_voiceFits RX7 := ⟨hx, hb, hml, hown, hts⟩
  have hl : lv_has ls 7 [(0, .ref jS), (1, .ref jW), (2, .int p1), (3, .int p2)] := hl
  have iw3 : ∀ w ∈ u_ws RX3 TX3 2, w ∈ wsX7_voiceFits := by decide +kernel
  have kw1 := hts (.fieldLink RX7 57 "HeldTongues$SheetRow" "items" "[J") (by decide +kernel)
  have iw7 : ∀ w ∈ u_ws RX7 TX7 2, w ∈ wsX7_voiceFits := by decide +kernel
  have kw3 := hts (.fieldLink RX7 15 "HeldTongues$Trials" "tried" "LHeldTongues$Town;") (by decide +kernel)
  have kw4 := hts (.constantLong RX7 63 (-1)) (by decide +kernel)
  have iw6 : ∀ w ∈ u_ws RX6 TX6 12, w ∈ wsX7_voiceFits := by decide +kernel
  have kw6 := hts (.fieldLink RX7 28 "HeldTongues$Town" "need" "[I") (by decide +kernel)
  have kw7 := hts (.fieldLink RX7 9 "HeldTongues$Trials" "now" "LHeldTongues$Town;") (by decide +kernel)
  have kw8 := hts (.fieldLink RX7 50 "HeldTongues$Town" "voice" "[I") (by decide +kernel)
  have b78 : ∀ (k24 : Int32 → Int32 → AI → AI → AI → AI → AI → AI → AI → Int32 → Int32 → Int32 → Int32 → Int32 → Option (Int32 × AI × AI × AI × AI × AI × AI × AI × Int32 × Int32 × Int32 × Int32 × Int32)) (hk24 : ∀ (x2 : Int32) (x4 : Int32) (vT_laws : AI) (vT_kind : AI) (vT_need : AI) (vT_saved : AI) (vT_voice : AI) (vT_partner : AI) (vT_speaks : AI) (vT_count : Int32) (vT_day : Int32) (vT_heard : Int32) (vT_geese : Int32) (vT_z : Int32) (H : Heap) (locs : List Loc) (ls : Array Slot), k24 x2 x4 vT_laws vT_kind vT_need vT_saved vT_voice vT_partner vT_speaks vT_count vT_day vT_heard vT_geese vT_z = some o → va_P D vwCl (wTr K jS jN jT ++ (wTw K jN aN RN.laws RN.kind RN.need RN.saved RN.voice RN.partner RN.speaks RN.count RN.day RN.heard RN.geese RN.z ++ (wTw K jT aT vT_laws vT_kind vT_need vT_saved vT_voice vT_partner vT_speaks vT_count vT_day vT_heard vT_geese vT_z ++ (wRo K jW aW RW.sort RW.items RW.len)))) H → va_D A (wTr K jS jN jT ++ (wTw K jN aN RN.laws RN.kind RN.need RN.saved RN.voice RN.partner RN.speaks RN.count RN.day RN.heard RN.geese RN.z ++ (wTw K jT aT vT_laws vT_kind vT_need vT_saved vT_voice vT_partner vT_speaks vT_count vT_day vT_heard vT_geese vT_z ++ (wRo K jW aW RW.sort RW.items RW.len)))) → va_S A s.heap H locs → lv_has ls 7 [(0, .ref jS), (1, .ref jW), (2, .int x2), (4, .int x4)] → W p l e (headSpec wsX7_voiceFits rmX7_voiceFits).room s m ([.ref jS, .ref jW, .int p1, .int p2] : List Value).toArray below meth c H locs 0 0 Q (F0 m 24 ls [])) (x2 : Int32) (x4 : Int32) (vT_laws : AI) (vT_kind : AI) (vT_need : AI) (vT_saved : AI) (vT_voice : AI) (vT_partner : AI) (vT_speaks : AI) (vT_count : Int32) (vT_day : Int32) (vT_heard : Int32) (vT_geese : Int32) (vT_z : Int32) (H : Heap) (locs : List Loc) (ls : Array Slot), fX7_voiceFits_b78 RN RT RW k24 x2 x4 vT_laws vT_kind vT_need vT_saved vT_voice vT_partner vT_speaks vT_count vT_day vT_heard vT_geese vT_z = some o → va_P D vwCl (wTr K jS jN jT ++ (wTw K jN aN RN.laws RN.kind RN.need RN.saved RN.voice RN.partner RN.speaks RN.count RN.day RN.heard RN.geese RN.z ++ (wTw K jT aT vT_laws vT_kind vT_need vT_saved vT_voice vT_partner vT_speaks vT_count vT_day vT_heard vT_geese vT_z ++ (wRo K jW aW RW.sort RW.items RW.len)))) H → va_D A (wTr K jS jN jT ++ (wTw K jN aN RN.laws RN.kind RN.need RN.saved RN.voice RN.partner RN.speaks RN.count RN.day RN.heard RN.geese RN.z ++ (wTw K jT aT vT_laws vT_kind vT_need vT_saved vT_voice vT_partner vT_speaks vT_count vT_day vT_heard vT_geese vT_z ++ (wRo K jW aW RW.sort RW.items RW.len)))) → va_S A s.heap H locs → lv_has ls 7 [(0, .ref jS), (1, .ref jW), (2, .int x2), (4, .int x4)] → W p l e (headSpec wsX7_voiceFits rmX7_voiceFits).room s m ([.ref jS, .ref jW, .int p1, .int p2] : List Value).toArray below meth c H locs 0 0 Q (F0 m 78 ls []) := by
    intro k24 hk24 x2 x4 vT_laws vT_kind vT_need vT_saved vT_voice vT_partner vT_speaks vT_count vT_day vT_heard vT_geese vT_z H locs ls hf hP hD hS hl
    delta fX7_voiceFits_b78 at hf
    obtain ⟨x4_1, ex4_1, hf⟩ := ht_nm_ob hf
    refine lv_iinc (v := x4_1) (lv' := [(4, .int x4_1), (0, .ref jS), (1, .ref jW), (2, .int x2)]) hx hb dX7_voiceFits_78 hl (k := 3) rfl (by rw [ex4_1]; rfl) (by decide) rfl (fun ls hl => ?_)
    refine lv_goto (tgt := 24) hx hb dX7_voiceFits_81 (by decide) ?_
    exact hk24 x2 x4_1 vT_laws vT_kind vT_need vT_saved vT_voice vT_partner vT_speaks vT_count vT_day vT_heard vT_geese vT_z _ _ _ hf hP hD hS (lv_sub hl [1, 2, 3, 0] rfl)
  have b24 : ∀ (n : Nat) (x2 : Int32) (x4 : Int32) (vT_laws : AI) (vT_kind : AI) (vT_need : AI) (vT_saved : AI) (vT_voice : AI) (vT_partner : AI) (vT_speaks : AI) (vT_count : Int32) (vT_day : Int32) (vT_heard : Int32) (vT_geese : Int32) (vT_z : Int32) (H : Heap) (locs : List Loc) (ls : Array Slot), ht_lp14 (fX7_voiceFits_b24 RN RT RW) n x2 x4 vT_laws vT_kind vT_need vT_saved vT_voice vT_partner vT_speaks vT_count vT_day vT_heard vT_geese vT_z = some o → va_P D vwCl (wTr K jS jN jT ++ (wTw K jN aN RN.laws RN.kind RN.need RN.saved RN.voice RN.partner RN.speaks RN.count RN.day RN.heard RN.geese RN.z ++ (wTw K jT aT vT_laws vT_kind vT_need vT_saved vT_voice vT_partner vT_speaks vT_count vT_day vT_heard vT_geese vT_z ++ (wRo K jW aW RW.sort RW.items RW.len)))) H → va_D A (wTr K jS jN jT ++ (wTw K jN aN RN.laws RN.kind RN.need RN.saved RN.voice RN.partner RN.speaks RN.count RN.day RN.heard RN.geese RN.z ++ (wTw K jT aT vT_laws vT_kind vT_need vT_saved vT_voice vT_partner vT_speaks vT_count vT_day vT_heard vT_geese vT_z ++ (wRo K jW aW RW.sort RW.items RW.len)))) → va_S A s.heap H locs → lv_has ls 7 [(0, .ref jS), (1, .ref jW), (2, .int x2), (4, .int x4)] → W p l e (headSpec wsX7_voiceFits rmX7_voiceFits).room s m ([.ref jS, .ref jW, .int p1, .int p2] : List Value).toArray below meth c H locs 0 0 Q (F0 m 24 ls []) := by
    intro n
    induction n with
    | zero =>
      intro x2 x4 vT_laws vT_kind vT_need vT_saved vT_voice vT_partner vT_speaks vT_count vT_day vT_heard vT_geese vT_z H locs ls hf hP hD hS hl
      cases (show (none : Option (Int32 × AI × AI × AI × AI × AI × AI × AI × Int32 × Int32 × Int32 × Int32 × Int32)) = some o from hf)
    | succ n hk24 =>
      intro x2 x4 vT_laws vT_kind vT_need vT_saved vT_voice vT_partner vT_speaks vT_count vT_day vT_heard vT_geese vT_z H locs ls hf hP hD hS hl
      replace hf : fX7_voiceFits_b24 RN RT RW (ht_lp14 (fX7_voiceFits_b24 RN RT RW) n) x2 x4 vT_laws vT_kind vT_need vT_saved vT_voice vT_partner vT_speaks vT_count vT_day vT_heard vT_geese vT_z = some o := hf
      delta fX7_voiceFits_b24 at hf
      refine lv_iload hx hb dX7_voiceFits_24 (lv_at hl 3 rfl) ?_
      refine lv_aload_n hx hb dX7_voiceFits_26 rfl (lv_at hl 1 rfl) ?_
      refine va_get (D := D) (ci := 3) (v := .ref (aW 0)) (C := RX3) (T := TX3) (N := 2) hx hb hts iw3 hown hK hP 17 rfl rfl 1 (by decide) kw1 (fun _ h9 => h9) rfl dX7_voiceFits_27 ?_
      refine va_alen (v := (Int32.ofNat RW.len)) hx hb hK hP 18 2 rfl rfl rfl dX7_voiceFits_30 ?_
      refine lv_icmp_ge (tgt := 84) hx hb dX7_voiceFits_31 (by decide) (fun c_2 => ?_) (fun c_2 => ?_)
      · replace hf := ht_t c_2 hf
        refine lv_iconst (v := 1) hx hb dX7_voiceFits_84 (by decide) ?_
        have ho := Option.some.inj hf
        subst ho; subst hQ
        exact ht_iret hx hb hr hlk (show narrow .boolean (.int (1 : Int32)) = .int (1 : Int32) from rfl) hK hP hD hS dX7_voiceFits_85
      · replace hf := ht_f c_2 hf
        refine lv_aload_n hx hb dX7_voiceFits_34 rfl (lv_at hl 0 rfl) ?_
        refine va_get (D := D) (ci := 7) (v := .ref jT) (C := RX7) (T := TX7) (N := 2) hx hb hts iw7 hown hK hP 0 rfl rfl 1 (by decide) kw3 (fun _ h9 => h9) rfl dX7_voiceFits_35 ?_
        obtain ⟨o_3, ho_3, hf⟩ := ht_bn_ob hf
        refine ht_callVi (r := o_3.1) (rest := []) (As := []) (wc := (wTw K jT aT vT_laws vT_kind vT_need vT_saved vT_voice vT_partner vT_speaks vT_count vT_day vT_heard vT_geese vT_z)) (wr := (wTr K jS jN jT ++ (wTw K jN aN RN.laws RN.kind RN.need RN.saved RN.voice RN.partner RN.speaks RN.count RN.day RN.heard RN.geese RN.z ++ (wRo K jW aW RW.sort RW.items RW.len)))) (w1 := (wTw K jT aT vT_laws vT_kind o_3.2.1 o_3.2.2.1 vT_voice vT_partner o_3.2.2.2.1 vT_count o_3.2.2.2.2.1 o_3.2.2.2.2.2.1 o_3.2.2.2.2.2.2 vT_z)) (w2 := (wTr K jS jN jT ++ (wTw K jN aN RN.laws RN.kind RN.need RN.saved RN.voice RN.partner RN.speaks RN.count RN.day RN.heard RN.geese RN.z ++ (wTw K jT aT vT_laws vT_kind o_3.2.1 o_3.2.2.1 vT_voice vT_partner o_3.2.2.2.1 vT_count o_3.2.2.2.2.1 o_3.2.2.2.2.2.1 o_3.2.2.2.2.2.2 vT_z ++ (wRo K jW aW RW.sort RW.items RW.len))))) hF (ctX6_passDay l D K jT aT (vT_laws, vT_kind, vT_need, vT_saved, vT_voice, vT_partner, vT_speaks, vT_count, vT_day, vT_heard, vT_geese, vT_z) o_3 ho_3 H.size) (cwV 0 hts gX7_voiceFits_X6_passDay rfl rfl rfl hdX6_passDay ⟨Nat.le_of_ble_eq_true rfl, Nat.le_of_ble_eq_true rfl⟩) hK hP hD hS hA [9, 10, 11, 12, 13, 14, 15, 16] [0, 1, 2, 3, 4, 5, 6, 7, 8, 17, 18] rfl rfl (by decide) (by decide) (by decide) [0, 1, 2, 3, 4, 5, 6, 7, 8, 11, 12, 13, 14, 15, 16, 17, 18, 9, 10] rfl (by decide) (va_recv hK hP (ci := 6) (q0 := 9) rfl rfl) rfl hl.1 rfl (Nat.le_of_ble_eq_true rfl) dX7_voiceFits_38 ⟨Nat.zero_le _, Nat.zero_le _⟩ (fun H locs hP hD hS => ?_)
        refine lv_pop hx hb dX7_voiceFits_41 rfl ?_
        refine lv_aload_n hx hb dX7_voiceFits_42 rfl (lv_at hl 1 rfl) ?_
        refine va_get (D := D) (ci := 3) (v := .ref (aW 0)) (C := RX3) (T := TX3) (N := 2) hx hb hts iw3 hown hK hP 17 rfl rfl 1 (by decide) kw1 (fun _ h9 => h9) rfl dX7_voiceFits_43 ?_
        refine lv_iload hx hb dX7_voiceFits_46 (lv_at hl 3 rfl) ?_
        obtain ⟨g_4, hf⟩ := ht_gd_ob hf
        refine va_lald hx hb hK hP 18 2 rfl rfl (ht_ix_in g_4) dX7_voiceFits_48 ?_
        obtain ⟨x5_5, ex5_5, hf⟩ := ht_nm_ob hf
        rw [← ex5_5]
        refine lv_lstore (lv' := [(5, .long x5_5), (0, .ref jS), (1, .ref jW), (2, .int x2), (4, .int x4)]) hx hb dX7_voiceFits_49 hl (by decide) rfl (fun ls hl => ?_)
        refine lv_lload hx hb dX7_voiceFits_51 (lv_at hl 0 rfl) ?_
        refine lv_ldc2 hx hb hown kw4 dX7_voiceFits_53 ?_
        refine W.lcmp hx hb dX7_voiceFits_56 ?_
        refine lv_if_eq (tgt := 78) hx hb dX7_voiceFits_57 (by decide) (fun c_6 => ?_) (fun c_6 => ?_)
        · replace hf := ht_t c_6 hf
          exact b78 _ hk24 x2 x4 vT_laws vT_kind o_3.2.1 o_3.2.2.1 vT_voice vT_partner o_3.2.2.2.1 vT_count o_3.2.2.2.2.1 o_3.2.2.2.2.2.1 o_3.2.2.2.2.2.2 vT_z _ _ _ hf hP hD hS (lv_sub hl [1, 2, 3, 4] rfl)
        · replace hf := ht_f c_6 hf
          refine lv_lload hx hb dX7_voiceFits_60 (lv_at hl 0 rfl) ?_
          refine lv_aload_n hx hb dX7_voiceFits_62 rfl (lv_at hl 1 rfl) ?_
          refine va_get (D := D) (ci := 7) (v := .ref jT) (C := RX7) (T := TX7) (N := 2) hx hb hts iw7 hown hK hP 0 rfl rfl 1 (by decide) kw3 (fun _ h9 => h9) rfl dX7_voiceFits_63 ?_
          refine va_get (D := D) (ci := 6) (v := .ref (aT 2)) (C := RX6) (T := TX6) (N := 12) hx hb hts iw6 hown hK hP 9 rfl rfl 2 (by decide) kw6 (fun _ h9 => h9) rfl dX7_voiceFits_66 ?_
          refine lv_iload_n hx hb dX7_voiceFits_69 rfl (lv_at hl 3 rfl) ?_
          obtain ⟨g_7, hf⟩ := ht_gd_ob hf
          refine va_iald hx hb hK hP 12 1 rfl rfl (ht_ix_in g_7) dX7_voiceFits_70 ?_
          refine lv_i2l hx hb dX7_voiceFits_71 rfl ?_
          refine W.lcmp hx hb dX7_voiceFits_72 ?_
          refine lv_if_eq (tgt := 78) hx hb dX7_voiceFits_73 (by decide) (fun c_8 => ?_) (fun c_8 => ?_)
          · replace hf := ht_t c_8 hf
            exact b78 _ hk24 x2 x4 vT_laws vT_kind o_3.2.1 o_3.2.2.1 vT_voice vT_partner o_3.2.2.2.1 vT_count o_3.2.2.2.2.1 o_3.2.2.2.2.2.1 o_3.2.2.2.2.2.2 vT_z _ _ _ hf hP hD hS (lv_sub hl [1, 2, 3, 4] rfl)
          · replace hf := ht_f c_8 hf
            refine lv_iconst (v := 0) hx hb dX7_voiceFits_76 (by decide) ?_
            have ho := Option.some.inj hf
            subst ho; subst hQ
            exact ht_iret hx hb hr hlk (show narrow .boolean (.int (0 : Int32)) = .int (0 : Int32) from rfl) hK hP hD hS dX7_voiceFits_77
  delta fX7_voiceFits at hf
  refine lv_aload_n hx hb dX7_voiceFits_0 rfl (lv_at hl 0 rfl) ?_
  refine va_get (D := D) (ci := 7) (v := .ref jT) (C := RX7) (T := TX7) (N := 2) hx hb hts iw7 hown hK hP 0 rfl rfl 1 (by decide) kw3 (fun _ h9 => h9) rfl dX7_voiceFits_1 ?_
  refine lv_aload_n hx hb dX7_voiceFits_4 rfl (lv_at hl 0 rfl) ?_
  refine va_get (D := D) (ci := 7) (v := .ref jN) (C := RX7) (T := TX7) (N := 2) hx hb hts iw7 hown hK hP 0 rfl rfl 0 (by decide) kw7 (fun _ h9 => h9) rfl dX7_voiceFits_5 ?_
  obtain ⟨o_9, ho_9, hf⟩ := ht_bn_ob hf
  refine ht_callVv (rest := []) (As := [.ref jN]) (wc := (wTw K jT aT RT.laws RT.kind RT.need RT.saved RT.voice RT.partner RT.speaks RT.count RT.day RT.heard RT.geese RT.z ++ (wTw K jN aN RN.laws RN.kind RN.need RN.saved RN.voice RN.partner RN.speaks RN.count RN.day RN.heard RN.geese RN.z))) (wr := (wTr K jS jN jT ++ (wRo K jW aW RW.sort RW.items RW.len))) (w1 := (wTw K jT aT o_9.1 o_9.2.1 o_9.2.2.1 o_9.2.2.2.1 o_9.2.2.2.2.1 o_9.2.2.2.2.2.1 o_9.2.2.2.2.2.2.1 o_9.2.2.2.2.2.2.2.1 o_9.2.2.2.2.2.2.2.2.1 o_9.2.2.2.2.2.2.2.2.2.1 o_9.2.2.2.2.2.2.2.2.2.2.1 o_9.2.2.2.2.2.2.2.2.2.2.2 ++ (wTw K jN aN RN.laws RN.kind RN.need RN.saved RN.voice RN.partner RN.speaks RN.count RN.day RN.heard RN.geese RN.z))) (w2 := (wTr K jS jN jT ++ (wTw K jN aN RN.laws RN.kind RN.need RN.saved RN.voice RN.partner RN.speaks RN.count RN.day RN.heard RN.geese RN.z ++ (wTw K jT aT o_9.1 o_9.2.1 o_9.2.2.1 o_9.2.2.2.1 o_9.2.2.2.2.1 o_9.2.2.2.2.2.1 o_9.2.2.2.2.2.2.1 o_9.2.2.2.2.2.2.2.1 o_9.2.2.2.2.2.2.2.2.1 o_9.2.2.2.2.2.2.2.2.2.1 o_9.2.2.2.2.2.2.2.2.2.2.1 o_9.2.2.2.2.2.2.2.2.2.2.2 ++ (wRo K jW aW RW.sort RW.items RW.len))))) hF (ctX6_copyFrom l D K jT aT jN aN RT RN o_9 ho_9 H.size) (cwV 1 hts gX7_voiceFits_X6_copyFrom rfl rfl rfl hdX6_copyFrom ⟨Nat.le_of_ble_eq_true rfl, Nat.le_of_ble_eq_true rfl⟩) hK hP hD hS hA [9, 10, 11, 12, 13, 14, 15, 16, 1, 2, 3, 4, 5, 6, 7, 8] [0, 17, 18] rfl rfl (by decide) (by decide) (by decide) [0, 11, 12, 13, 14, 15, 16, 17, 18, 3, 4, 5, 6, 7, 8, 9, 10, 1, 2] rfl (by decide) (va_recv hK hP (ci := 6) (q0 := 9) rfl rfl) rfl hl.1 rfl (Nat.le_of_ble_eq_true rfl) dX7_voiceFits_8 ⟨Nat.zero_le _, Nat.zero_le _⟩ (fun H locs hP hD hS => ?_)
  refine lv_aload_n hx hb dX7_voiceFits_11 rfl (lv_at hl 0 rfl) ?_
  refine va_get (D := D) (ci := 7) (v := .ref jT) (C := RX7) (T := TX7) (N := 2) hx hb hts iw7 hown hK hP 0 rfl rfl 1 (by decide) kw3 (fun _ h9 => h9) rfl dX7_voiceFits_12 ?_
  refine va_get (D := D) (ci := 6) (v := .ref (aT 4)) (C := RX6) (T := TX6) (N := 12) hx hb hts iw6 hown hK hP 9 rfl rfl 4 (by decide) kw8 (fun _ h9 => h9) rfl dX7_voiceFits_15 ?_
  refine lv_iload_n hx hb dX7_voiceFits_18 rfl (lv_at hl 2 rfl) ?_
  refine lv_iload_n hx hb dX7_voiceFits_19 rfl (lv_at hl 3 rfl) ?_
  obtain ⟨g_10, hf⟩ := ht_gd_ob hf
  obtain ⟨vT_voice_11, evT_voice_11, hf⟩ := ht_nm_ob hf
  refine ht_iast (w2 := (wTr K jS jN jT ++ (wTw K jN aN RN.laws RN.kind RN.need RN.saved RN.voice RN.partner RN.speaks RN.count RN.day RN.heard RN.geese RN.z ++ (wTw K jT aT o_9.1 o_9.2.1 o_9.2.2.1 o_9.2.2.2.1 vT_voice_11 o_9.2.2.2.2.2.1 o_9.2.2.2.2.2.2.1 o_9.2.2.2.2.2.2.2.1 o_9.2.2.2.2.2.2.2.2.1 o_9.2.2.2.2.2.2.2.2.2.1 o_9.2.2.2.2.2.2.2.2.2.2.1 o_9.2.2.2.2.2.2.2.2.2.2.2 ++ (wRo K jW aW RW.sort RW.items RW.len))))) hx hb hK hP hD hS 14 1 rfl rfl g_10 dX7_voiceFits_20 evT_voice_11 rfl (fun H locs hP hD hS => ?_)
  refine lv_iconst (v := 0) hx hb dX7_voiceFits_21 (by decide) ?_
  refine lv_istore (lv' := [(4, .int (0 : Int32)), (0, .ref jS), (1, .ref jW), (2, .int p1), (3, .int p2)]) hx hb dX7_voiceFits_22 hl (by decide) rfl (fun ls hl => ?_)
  exact b24  FU p1 (0 : Int32) o_9.1 o_9.2.1 o_9.2.2.1 o_9.2.2.2.1 vT_voice_11 o_9.2.2.2.2.2.1 o_9.2.2.2.2.2.2.1 o_9.2.2.2.2.2.2.2.1 o_9.2.2.2.2.2.2.2.2.1 o_9.2.2.2.2.2.2.2.2.2.1 o_9.2.2.2.2.2.2.2.2.2.2.1 o_9.2.2.2.2.2.2.2.2.2.2.2 _ _ _ hf hP hD hS (lv_sub hl [1, 2, 3, 0] rfl)
abbrev rmX7_howManyFit : Room := { frames := 5, cells := 0, slots := 0, locals := 115 }
theorem hdX7_howManyFit : yX7_howManyFit.cls = RX7 ∧ yX7_howManyFit.cls ≠ "java/lang/invoke/MethodHandle" ∧ yX7_howManyFit.cls ≠ "java/lang/invoke/VarHandle" ∧ (parseMethodDescriptor yX7_howManyFit.desc).map (fun d => d.parameters.length) = some 2 := by decide +kernel
def fX7_howManyFit_b26 (RN : TownV) (RT : TownV) (RW : RowV) (k5 : Int32 → Int32 → Int32 → AI → AI → AI → AI → AI → AI → AI → Int32 → Int32 → Int32 → Int32 → Int32 → Option (Int32 × AI × AI × AI × AI × AI × AI × AI × Int32 × Int32 × Int32 × Int32 × Int32)) (x2 : Int32) (x3 : Int32) (x4 : Int32) (vT_laws : AI) (vT_kind : AI) (vT_need : AI) (vT_saved : AI) (vT_voice : AI) (vT_partner : AI) (vT_speaks : AI) (vT_count : Int32) (vT_day : Int32) (vT_heard : Int32) (vT_geese : Int32) (vT_z : Int32) : Option (Int32 × AI × AI × AI × AI × AI × AI × AI × Int32 × Int32 × Int32 × Int32 × Int32) := ht_nm (x4 + (1 : Int32)) (fun x4_1 => k5 x2 x3 x4_1 vT_laws vT_kind vT_need vT_saved vT_voice vT_partner vT_speaks vT_count vT_day vT_heard vT_geese vT_z)
def fX7_howManyFit_b5 (RN : TownV) (RT : TownV) (RW : RowV) (k5 : Int32 → Int32 → Int32 → AI → AI → AI → AI → AI → AI → AI → Int32 → Int32 → Int32 → Int32 → Int32 → Option (Int32 × AI × AI × AI × AI × AI × AI × AI × Int32 × Int32 × Int32 × Int32 × Int32)) (x2 : Int32) (x3 : Int32) (x4 : Int32) (vT_laws : AI) (vT_kind : AI) (vT_need : AI) (vT_saved : AI) (vT_voice : AI) (vT_partner : AI) (vT_speaks : AI) (vT_count : Int32) (vT_day : Int32) (vT_heard : Int32) (vT_geese : Int32) (vT_z : Int32) : Option (Int32 × AI × AI × AI × AI × AI × AI × AI × Int32 × Int32 × Int32 × Int32 × Int32) := if (9 : Int32) < x4 then (some (x3, vT_laws, vT_kind, vT_need, vT_saved, vT_voice, vT_partner, vT_speaks, vT_count, vT_day, vT_heard, vT_geese, vT_z)) else (ht_bn (fX7_voiceFits RN (vT_laws, vT_kind, vT_need, vT_saved, vT_voice, vT_partner, vT_speaks, vT_count, vT_day, vT_heard, vT_geese, vT_z) RW x2 x4) (fun o_3 => if o_3.1 = 0 then (fX7_howManyFit_b26 RN RT RW k5 x2 x3 x4 o_3.2.1 o_3.2.2.1 o_3.2.2.2.1 o_3.2.2.2.2.1 o_3.2.2.2.2.2.1 o_3.2.2.2.2.2.2.1 o_3.2.2.2.2.2.2.2.1 o_3.2.2.2.2.2.2.2.2.1 o_3.2.2.2.2.2.2.2.2.2.1 o_3.2.2.2.2.2.2.2.2.2.2.1 o_3.2.2.2.2.2.2.2.2.2.2.2.1 o_3.2.2.2.2.2.2.2.2.2.2.2.2) else (ht_nm (x3 + (1 : Int32)) (fun x3_5 => fX7_howManyFit_b26 RN RT RW k5 x2 x3_5 x4 o_3.2.1 o_3.2.2.1 o_3.2.2.2.1 o_3.2.2.2.2.1 o_3.2.2.2.2.2.1 o_3.2.2.2.2.2.2.1 o_3.2.2.2.2.2.2.2.1 o_3.2.2.2.2.2.2.2.2.1 o_3.2.2.2.2.2.2.2.2.2.1 o_3.2.2.2.2.2.2.2.2.2.2.1 o_3.2.2.2.2.2.2.2.2.2.2.2.1 o_3.2.2.2.2.2.2.2.2.2.2.2.2))))
def fX7_howManyFit (RN : TownV) (RT : TownV) (RW : RowV) (p1 : Int32) : Option (Int32 × AI × AI × AI × AI × AI × AI × AI × Int32 × Int32 × Int32 × Int32 × Int32) := ht_lp15 (fX7_howManyFit_b5 RN RT RW) FU p1 (0 : Int32) (0 : Int32) RT.laws RT.kind RT.need RT.saved RT.voice RT.partner RT.speaks RT.count RT.day RT.heard RT.geese RT.z
set_option maxHeartbeats 1000000 in
set_option maxRecDepth 100000 in
theorem ctX7_howManyFit (l : Launch) (D : va_G) (K : Nat → ClassId) (jS : Nat) (jN : Nat) (aN : Nat → Nat) (jT : Nat) (aT : Nat → Nat) (jW : Nat) (aW : Nat → Nat) (RN : TownV) (RT : TownV) (RW : RowV) (p1 : Int32) (o : (Int32 × AI × AI × AI × AI × AI × AI × AI × Int32 × Int32 × Int32 × Int32 × Int32)) (hf : fX7_howManyFit RN RT RW p1 = some o) (sz : Nat) : Met l yX7_howManyFit wsX7_howManyFit rmX7_howManyFit (ht_Pre D K [.ref jS, .ref jW, .int p1] (wTr K jS jN jT ++ (wTw K jN aN RN.laws RN.kind RN.need RN.saved RN.voice RN.partner RN.speaks RN.count RN.day RN.heard RN.geese RN.z ++ (wTw K jT aT RT.laws RT.kind RT.need RT.saved RT.voice RT.partner RT.speaks RT.count RT.day RT.heard RT.geese RT.z ++ (wRo K jW aW RW.sort RW.items RW.len)))) sz) (ht_Qi D K (wTr K jS jN jT ++ (wTw K jN aN RN.laws RN.kind RN.need RN.saved RN.voice RN.partner RN.speaks RN.count RN.day RN.heard RN.geese RN.z ++ (wTw K jT aT o.2.1 o.2.2.1 o.2.2.2.1 o.2.2.2.2.1 o.2.2.2.2.2.1 o.2.2.2.2.2.2.1 o.2.2.2.2.2.2.2.1 o.2.2.2.2.2.2.2.2.1 o.2.2.2.2.2.2.2.2.2.1 o.2.2.2.2.2.2.2.2.2.2.1 o.2.2.2.2.2.2.2.2.2.2.2.1 o.2.2.2.2.2.2.2.2.2.2.2.2 ++ (wRo K jW aW RW.sort RW.items RW.len)))) o.1 (va_A (wTr K jS jN jT ++ (wTw K jN aN RN.laws RN.kind RN.need RN.saved RN.voice RN.partner RN.speaks RN.count RN.day RN.heard RN.geese RN.z ++ (wTw K jT aT RT.laws RT.kind RT.need RT.saved RT.voice RT.partner RT.speaks RT.count RT.day RT.heard RT.geese RT.z ++ (wRo K jW aW RW.sort RW.items RW.len)))) sz)) 0 0 (va_A (wTr K jS jN jT ++ (wTw K jN aN RN.laws RN.kind RN.need RN.saved RN.voice RN.partner RN.speaks RN.count RN.day RN.heard RN.geese RN.z ++ (wTw K jT aT RT.laws RT.kind RT.need RT.saved RT.voice RT.partner RT.speaks RT.count RT.day RT.heard RT.geese RT.z ++ (wRo K jW aW RW.sort RW.items RW.len)))) sz) := by
  refine ht_enter (Qf := ht_Qi D K (wTr K jS jN jT ++ (wTw K jN aN RN.laws RN.kind RN.need RN.saved RN.voice RN.partner RN.speaks RN.count RN.day RN.heard RN.geese RN.z ++ (wTw K jT aT o.2.1 o.2.2.1 o.2.2.2.1 o.2.2.2.2.1 o.2.2.2.2.2.1 o.2.2.2.2.2.2.1 o.2.2.2.2.2.2.2.1 o.2.2.2.2.2.2.2.2.1 o.2.2.2.2.2.2.2.2.2.1 o.2.2.2.2.2.2.2.2.2.2.1 o.2.2.2.2.2.2.2.2.2.2.2.1 o.2.2.2.2.2.2.2.2.2.2.2.2 ++ (wRo K jW aW RW.sort RW.items RW.len)))) o.1) (cc := cX7_howManyFit) (maxL := 5) (rt := (some .int)) (by decide) rfl (Nat.le_of_ble_eq_true rfl) ?_ sz
  intro p e s m below meth c A Q H locs ls hQ hx hb hr hlk hmn hml hown hts hA hK hP hD hS hl
  have hown : s.vm.findClass RX7 = some m.cls := hown
  have hF : CallFix p m c cX7_howManyFit 5 s ([.ref jS, .ref jW, .int p1] : List Value).toArray wsX7_howManyFit RX7 := ⟨hx, hb, hml, hown, hts⟩
  have hl : lv_has ls 5 [(0, .ref jS), (1, .ref jW), (2, .int p1)] := hl
  have b26 : ∀ (k5 : Int32 → Int32 → Int32 → AI → AI → AI → AI → AI → AI → AI → Int32 → Int32 → Int32 → Int32 → Int32 → Option (Int32 × AI × AI × AI × AI × AI × AI × AI × Int32 × Int32 × Int32 × Int32 × Int32)) (hk5 : ∀ (x2 : Int32) (x3 : Int32) (x4 : Int32) (vT_laws : AI) (vT_kind : AI) (vT_need : AI) (vT_saved : AI) (vT_voice : AI) (vT_partner : AI) (vT_speaks : AI) (vT_count : Int32) (vT_day : Int32) (vT_heard : Int32) (vT_geese : Int32) (vT_z : Int32) (H : Heap) (locs : List Loc) (ls : Array Slot), k5 x2 x3 x4 vT_laws vT_kind vT_need vT_saved vT_voice vT_partner vT_speaks vT_count vT_day vT_heard vT_geese vT_z = some o → va_P D vwCl (wTr K jS jN jT ++ (wTw K jN aN RN.laws RN.kind RN.need RN.saved RN.voice RN.partner RN.speaks RN.count RN.day RN.heard RN.geese RN.z ++ (wTw K jT aT vT_laws vT_kind vT_need vT_saved vT_voice vT_partner vT_speaks vT_count vT_day vT_heard vT_geese vT_z ++ (wRo K jW aW RW.sort RW.items RW.len)))) H → va_D A (wTr K jS jN jT ++ (wTw K jN aN RN.laws RN.kind RN.need RN.saved RN.voice RN.partner RN.speaks RN.count RN.day RN.heard RN.geese RN.z ++ (wTw K jT aT vT_laws vT_kind vT_need vT_saved vT_voice vT_partner vT_speaks vT_count vT_day vT_heard vT_geese vT_z ++ (wRo K jW aW RW.sort RW.items RW.len)))) → va_S A s.heap H locs → lv_has ls 5 [(0, .ref jS), (1, .ref jW), (2, .int x2), (3, .int x3), (4, .int x4)] → W p l e (headSpec wsX7_howManyFit rmX7_howManyFit).room s m ([.ref jS, .ref jW, .int p1] : List Value).toArray below meth c H locs 0 0 Q (F0 m 5 ls [])) (x2 : Int32) (x3 : Int32) (x4 : Int32) (vT_laws : AI) (vT_kind : AI) (vT_need : AI) (vT_saved : AI) (vT_voice : AI) (vT_partner : AI) (vT_speaks : AI) (vT_count : Int32) (vT_day : Int32) (vT_heard : Int32) (vT_geese : Int32) (vT_z : Int32) (H : Heap) (locs : List Loc) (ls : Array Slot), fX7_howManyFit_b26 RN RT RW k5 x2 x3 x4 vT_laws vT_kind vT_need vT_saved vT_voice vT_partner vT_speaks vT_count vT_day vT_heard vT_geese vT_z = some o → va_P D vwCl (wTr K jS jN jT ++ (wTw K jN aN RN.laws RN.kind RN.need RN.saved RN.voice RN.partner RN.speaks RN.count RN.day RN.heard RN.geese RN.z ++ (wTw K jT aT vT_laws vT_kind vT_need vT_saved vT_voice vT_partner vT_speaks vT_count vT_day vT_heard vT_geese vT_z ++ (wRo K jW aW RW.sort RW.items RW.len)))) H → va_D A (wTr K jS jN jT ++ (wTw K jN aN RN.laws RN.kind RN.need RN.saved RN.voice RN.partner RN.speaks RN.count RN.day RN.heard RN.geese RN.z ++ (wTw K jT aT vT_laws vT_kind vT_need vT_saved vT_voice vT_partner vT_speaks vT_count vT_day vT_heard vT_geese vT_z ++ (wRo K jW aW RW.sort RW.items RW.len)))) → va_S A s.heap H locs → lv_has ls 5 [(0, .ref jS), (1, .ref jW), (2, .int x2), (3, .int x3), (4, .int x4)] → W p l e (headSpec wsX7_howManyFit rmX7_howManyFit).room s m ([.ref jS, .ref jW, .int p1] : List Value).toArray below meth c H locs 0 0 Q (F0 m 26 ls []) := by
    intro k5 hk5 x2 x3 x4 vT_laws vT_kind vT_need vT_saved vT_voice vT_partner vT_speaks vT_count vT_day vT_heard vT_geese vT_z H locs ls hf hP hD hS hl
    delta fX7_howManyFit_b26 at hf
    obtain ⟨x4_1, ex4_1, hf⟩ := ht_nm_ob hf
    refine lv_iinc (v := x4_1) (lv' := [(4, .int x4_1), (0, .ref jS), (1, .ref jW), (2, .int x2), (3, .int x3)]) hx hb dX7_howManyFit_26 hl (k := 4) rfl (by rw [ex4_1]; rfl) (by decide) rfl (fun ls hl => ?_)
    refine lv_goto (tgt := 5) hx hb dX7_howManyFit_29 (by decide) ?_
    exact hk5 x2 x3 x4_1 vT_laws vT_kind vT_need vT_saved vT_voice vT_partner vT_speaks vT_count vT_day vT_heard vT_geese vT_z _ _ _ hf hP hD hS (lv_sub hl [1, 2, 3, 4, 0] rfl)
  have b5 : ∀ (n : Nat) (x2 : Int32) (x3 : Int32) (x4 : Int32) (vT_laws : AI) (vT_kind : AI) (vT_need : AI) (vT_saved : AI) (vT_voice : AI) (vT_partner : AI) (vT_speaks : AI) (vT_count : Int32) (vT_day : Int32) (vT_heard : Int32) (vT_geese : Int32) (vT_z : Int32) (H : Heap) (locs : List Loc) (ls : Array Slot), ht_lp15 (fX7_howManyFit_b5 RN RT RW) n x2 x3 x4 vT_laws vT_kind vT_need vT_saved vT_voice vT_partner vT_speaks vT_count vT_day vT_heard vT_geese vT_z = some o → va_P D vwCl (wTr K jS jN jT ++ (wTw K jN aN RN.laws RN.kind RN.need RN.saved RN.voice RN.partner RN.speaks RN.count RN.day RN.heard RN.geese RN.z ++ (wTw K jT aT vT_laws vT_kind vT_need vT_saved vT_voice vT_partner vT_speaks vT_count vT_day vT_heard vT_geese vT_z ++ (wRo K jW aW RW.sort RW.items RW.len)))) H → va_D A (wTr K jS jN jT ++ (wTw K jN aN RN.laws RN.kind RN.need RN.saved RN.voice RN.partner RN.speaks RN.count RN.day RN.heard RN.geese RN.z ++ (wTw K jT aT vT_laws vT_kind vT_need vT_saved vT_voice vT_partner vT_speaks vT_count vT_day vT_heard vT_geese vT_z ++ (wRo K jW aW RW.sort RW.items RW.len)))) → va_S A s.heap H locs → lv_has ls 5 [(0, .ref jS), (1, .ref jW), (2, .int x2), (3, .int x3), (4, .int x4)] → W p l e (headSpec wsX7_howManyFit rmX7_howManyFit).room s m ([.ref jS, .ref jW, .int p1] : List Value).toArray below meth c H locs 0 0 Q (F0 m 5 ls []) := by
    intro n
    induction n with
    | zero =>
      intro x2 x3 x4 vT_laws vT_kind vT_need vT_saved vT_voice vT_partner vT_speaks vT_count vT_day vT_heard vT_geese vT_z H locs ls hf hP hD hS hl
      cases (show (none : Option (Int32 × AI × AI × AI × AI × AI × AI × AI × Int32 × Int32 × Int32 × Int32 × Int32)) = some o from hf)
    | succ n hk5 =>
      intro x2 x3 x4 vT_laws vT_kind vT_need vT_saved vT_voice vT_partner vT_speaks vT_count vT_day vT_heard vT_geese vT_z H locs ls hf hP hD hS hl
      replace hf : fX7_howManyFit_b5 RN RT RW (ht_lp15 (fX7_howManyFit_b5 RN RT RW) n) x2 x3 x4 vT_laws vT_kind vT_need vT_saved vT_voice vT_partner vT_speaks vT_count vT_day vT_heard vT_geese vT_z = some o := hf
      delta fX7_howManyFit_b5 at hf
      refine lv_iload hx hb dX7_howManyFit_5 (lv_at hl 4 rfl) ?_
      refine lv_bipush (v := 9) hx hb dX7_howManyFit_7 (by decide) ?_
      refine lv_icmp_gt (tgt := 32) hx hb dX7_howManyFit_9 (by decide) (fun c_2 => ?_) (fun c_2 => ?_)
      · replace hf := ht_t c_2 hf
        refine lv_iload_n hx hb dX7_howManyFit_32 rfl (lv_at hl 3 rfl) ?_
        have ho := Option.some.inj hf
        subst ho; subst hQ
        exact ht_iret hx hb hr hlk rfl hK hP hD hS dX7_howManyFit_33
      · replace hf := ht_f c_2 hf
        refine lv_aload_n hx hb dX7_howManyFit_12 rfl (lv_at hl 0 rfl) ?_
        refine lv_aload_n hx hb dX7_howManyFit_13 rfl (lv_at hl 1 rfl) ?_
        refine lv_iload_n hx hb dX7_howManyFit_14 rfl (lv_at hl 2 rfl) ?_
        refine lv_iload hx hb dX7_howManyFit_15 (lv_at hl 4 rfl) ?_
        obtain ⟨o_3, ho_3, hf⟩ := ht_bn_ob hf
        refine ht_callVi (r := o_3.1) (rest := []) (As := [.ref jW, .int x2, .int x4]) (wc := (wTr K jS jN jT ++ (wTw K jN aN RN.laws RN.kind RN.need RN.saved RN.voice RN.partner RN.speaks RN.count RN.day RN.heard RN.geese RN.z ++ (wTw K jT aT vT_laws vT_kind vT_need vT_saved vT_voice vT_partner vT_speaks vT_count vT_day vT_heard vT_geese vT_z ++ (wRo K jW aW RW.sort RW.items RW.len))))) (wr := []) (w1 := (wTr K jS jN jT ++ (wTw K jN aN RN.laws RN.kind RN.need RN.saved RN.voice RN.partner RN.speaks RN.count RN.day RN.heard RN.geese RN.z ++ (wTw K jT aT o_3.2.1 o_3.2.2.1 o_3.2.2.2.1 o_3.2.2.2.2.1 o_3.2.2.2.2.2.1 o_3.2.2.2.2.2.2.1 o_3.2.2.2.2.2.2.2.1 o_3.2.2.2.2.2.2.2.2.1 o_3.2.2.2.2.2.2.2.2.2.1 o_3.2.2.2.2.2.2.2.2.2.2.1 o_3.2.2.2.2.2.2.2.2.2.2.2.1 o_3.2.2.2.2.2.2.2.2.2.2.2.2 ++ (wRo K jW aW RW.sort RW.items RW.len))))) (w2 := (wTr K jS jN jT ++ (wTw K jN aN RN.laws RN.kind RN.need RN.saved RN.voice RN.partner RN.speaks RN.count RN.day RN.heard RN.geese RN.z ++ (wTw K jT aT o_3.2.1 o_3.2.2.1 o_3.2.2.2.1 o_3.2.2.2.2.1 o_3.2.2.2.2.2.1 o_3.2.2.2.2.2.2.1 o_3.2.2.2.2.2.2.2.1 o_3.2.2.2.2.2.2.2.2.1 o_3.2.2.2.2.2.2.2.2.2.1 o_3.2.2.2.2.2.2.2.2.2.2.1 o_3.2.2.2.2.2.2.2.2.2.2.2.1 o_3.2.2.2.2.2.2.2.2.2.2.2.2 ++ (wRo K jW aW RW.sort RW.items RW.len))))) hF (ctX7_voiceFits l D K jS jN aN jT aT jW aW RN (vT_laws, vT_kind, vT_need, vT_saved, vT_voice, vT_partner, vT_speaks, vT_count, vT_day, vT_heard, vT_geese, vT_z) RW x2 x4 o_3 ho_3 H.size) (cwV 3 hts gX7_howManyFit_X7_voiceFits rfl rfl rfl hdX7_voiceFits ⟨Nat.le_of_ble_eq_true rfl, Nat.le_of_ble_eq_true rfl⟩) hK hP hD hS hA [0, 1, 2, 3, 4, 5, 6, 7, 8, 9, 10, 11, 12, 13, 14, 15, 16, 17, 18] [] rfl rfl (by decide) (by decide) (by decide) [0, 1, 2, 3, 4, 5, 6, 7, 8, 9, 10, 11, 12, 13, 14, 15, 16, 17, 18] rfl (by decide) (va_recv hK hP (ci := 7) (q0 := 0) rfl rfl) rfl hl.1 rfl (Nat.le_of_ble_eq_true rfl) dX7_howManyFit_17 ⟨Nat.zero_le _, Nat.zero_le _⟩ (fun H locs hP hD hS => ?_)
        refine lv_if_eq (tgt := 26) hx hb dX7_howManyFit_20 (by decide) (fun c_4 => ?_) (fun c_4 => ?_)
        · replace hf := ht_t c_4 hf
          exact b26 _ hk5 x2 x3 x4 o_3.2.1 o_3.2.2.1 o_3.2.2.2.1 o_3.2.2.2.2.1 o_3.2.2.2.2.2.1 o_3.2.2.2.2.2.2.1 o_3.2.2.2.2.2.2.2.1 o_3.2.2.2.2.2.2.2.2.1 o_3.2.2.2.2.2.2.2.2.2.1 o_3.2.2.2.2.2.2.2.2.2.2.1 o_3.2.2.2.2.2.2.2.2.2.2.2.1 o_3.2.2.2.2.2.2.2.2.2.2.2.2 _ _ _ hf hP hD hS hl
        · replace hf := ht_f c_4 hf
          obtain ⟨x3_5, ex3_5, hf⟩ := ht_nm_ob hf
          refine lv_iinc (v := x3_5) (lv' := [(3, .int x3_5), (0, .ref jS), (1, .ref jW), (2, .int x2), (4, .int x4)]) hx hb dX7_howManyFit_23 hl (k := 3) rfl (by rw [ex3_5]; rfl) (by decide) rfl (fun ls hl => ?_)
          exact b26 _ hk5 x2 x3_5 x4 o_3.2.1 o_3.2.2.1 o_3.2.2.2.1 o_3.2.2.2.2.1 o_3.2.2.2.2.2.1 o_3.2.2.2.2.2.2.1 o_3.2.2.2.2.2.2.2.1 o_3.2.2.2.2.2.2.2.2.1 o_3.2.2.2.2.2.2.2.2.2.1 o_3.2.2.2.2.2.2.2.2.2.2.1 o_3.2.2.2.2.2.2.2.2.2.2.2.1 o_3.2.2.2.2.2.2.2.2.2.2.2.2 _ _ _ hf hP hD hS (lv_sub hl [1, 2, 3, 0, 4] rfl)
  delta fX7_howManyFit at hf
  refine lv_iconst (v := 0) hx hb dX7_howManyFit_0 (by decide) ?_
  refine lv_istore_n (lv' := [(3, .int (0 : Int32)), (0, .ref jS), (1, .ref jW), (2, .int p1)]) hx hb dX7_howManyFit_1 rfl hl (by decide) rfl (fun ls hl => ?_)
  refine lv_iconst (v := 0) hx hb dX7_howManyFit_2 (by decide) ?_
  refine lv_istore (lv' := [(4, .int (0 : Int32)), (3, .int (0 : Int32)), (0, .ref jS), (1, .ref jW), (2, .int p1)]) hx hb dX7_howManyFit_3 hl (by decide) rfl (fun ls hl => ?_)
  exact b5  FU p1 (0 : Int32) (0 : Int32) RT.laws RT.kind RT.need RT.saved RT.voice RT.partner RT.speaks RT.count RT.day RT.heard RT.geese RT.z _ _ _ hf hP hD hS (lv_sub hl [2, 3, 4, 1, 0] rfl)
abbrev rmX7_leastFit : Room := { frames := 5, cells := 0, slots := 0, locals := 115 }
theorem hdX7_leastFit : yX7_leastFit.cls = RX7 ∧ yX7_leastFit.cls ≠ "java/lang/invoke/MethodHandle" ∧ yX7_leastFit.cls ≠ "java/lang/invoke/VarHandle" ∧ (parseMethodDescriptor yX7_leastFit.desc).map (fun d => d.parameters.length) = some 2 := by decide +kernel
def fX7_leastFit_b2 (RN : TownV) (RT : TownV) (RW : RowV) (k2 : Int32 → Int32 → AI → AI → AI → AI → AI → AI → AI → Int32 → Int32 → Int32 → Int32 → Int32 → Option (Int32 × AI × AI × AI × AI × AI × AI × AI × Int32 × Int32 × Int32 × Int32 × Int32)) (x2 : Int32) (x3 : Int32) (vT_laws : AI) (vT_kind : AI) (vT_need : AI) (vT_saved : AI) (vT_voice : AI) (vT_partner : AI) (vT_speaks : AI) (vT_count : Int32) (vT_day : Int32) (vT_heard : Int32) (vT_geese : Int32) (vT_z : Int32) : Option (Int32 × AI × AI × AI × AI × AI × AI × AI × Int32 × Int32 × Int32 × Int32 × Int32) := if (9 : Int32) < x3 then (some ((-3 : Int32), vT_laws, vT_kind, vT_need, vT_saved, vT_voice, vT_partner, vT_speaks, vT_count, vT_day, vT_heard, vT_geese, vT_z)) else (ht_bn (fX7_voiceFits RN (vT_laws, vT_kind, vT_need, vT_saved, vT_voice, vT_partner, vT_speaks, vT_count, vT_day, vT_heard, vT_geese, vT_z) RW x2 x3) (fun o_2 => if o_2.1 = 0 then (ht_nm (x3 + (1 : Int32)) (fun x3_4 => k2 x2 x3_4 o_2.2.1 o_2.2.2.1 o_2.2.2.2.1 o_2.2.2.2.2.1 o_2.2.2.2.2.2.1 o_2.2.2.2.2.2.2.1 o_2.2.2.2.2.2.2.2.1 o_2.2.2.2.2.2.2.2.2.1 o_2.2.2.2.2.2.2.2.2.2.1 o_2.2.2.2.2.2.2.2.2.2.2.1 o_2.2.2.2.2.2.2.2.2.2.2.2.1 o_2.2.2.2.2.2.2.2.2.2.2.2.2)) else (some (x3, o_2.2.1, o_2.2.2.1, o_2.2.2.2.1, o_2.2.2.2.2.1, o_2.2.2.2.2.2.1, o_2.2.2.2.2.2.2.1, o_2.2.2.2.2.2.2.2.1, o_2.2.2.2.2.2.2.2.2.1, o_2.2.2.2.2.2.2.2.2.2.1, o_2.2.2.2.2.2.2.2.2.2.2.1, o_2.2.2.2.2.2.2.2.2.2.2.2.1, o_2.2.2.2.2.2.2.2.2.2.2.2.2))))
def fX7_leastFit (RN : TownV) (RT : TownV) (RW : RowV) (p1 : Int32) : Option (Int32 × AI × AI × AI × AI × AI × AI × AI × Int32 × Int32 × Int32 × Int32 × Int32) := ht_lp14 (fX7_leastFit_b2 RN RT RW) FU p1 (0 : Int32) RT.laws RT.kind RT.need RT.saved RT.voice RT.partner RT.speaks RT.count RT.day RT.heard RT.geese RT.z
set_option maxHeartbeats 1000000 in
set_option maxRecDepth 100000 in
theorem ctX7_leastFit (l : Launch) (D : va_G) (K : Nat → ClassId) (jS : Nat) (jN : Nat) (aN : Nat → Nat) (jT : Nat) (aT : Nat → Nat) (jW : Nat) (aW : Nat → Nat) (RN : TownV) (RT : TownV) (RW : RowV) (p1 : Int32) (o : (Int32 × AI × AI × AI × AI × AI × AI × AI × Int32 × Int32 × Int32 × Int32 × Int32)) (hf : fX7_leastFit RN RT RW p1 = some o) (sz : Nat) : Met l yX7_leastFit wsX7_leastFit rmX7_leastFit (ht_Pre D K [.ref jS, .ref jW, .int p1] (wTr K jS jN jT ++ (wTw K jN aN RN.laws RN.kind RN.need RN.saved RN.voice RN.partner RN.speaks RN.count RN.day RN.heard RN.geese RN.z ++ (wTw K jT aT RT.laws RT.kind RT.need RT.saved RT.voice RT.partner RT.speaks RT.count RT.day RT.heard RT.geese RT.z ++ (wRo K jW aW RW.sort RW.items RW.len)))) sz) (ht_Qi D K (wTr K jS jN jT ++ (wTw K jN aN RN.laws RN.kind RN.need RN.saved RN.voice RN.partner RN.speaks RN.count RN.day RN.heard RN.geese RN.z ++ (wTw K jT aT o.2.1 o.2.2.1 o.2.2.2.1 o.2.2.2.2.1 o.2.2.2.2.2.1 o.2.2.2.2.2.2.1 o.2.2.2.2.2.2.2.1 o.2.2.2.2.2.2.2.2.1 o.2.2.2.2.2.2.2.2.2.1 o.2.2.2.2.2.2.2.2.2.2.1 o.2.2.2.2.2.2.2.2.2.2.2.1 o.2.2.2.2.2.2.2.2.2.2.2.2 ++ (wRo K jW aW RW.sort RW.items RW.len)))) o.1 (va_A (wTr K jS jN jT ++ (wTw K jN aN RN.laws RN.kind RN.need RN.saved RN.voice RN.partner RN.speaks RN.count RN.day RN.heard RN.geese RN.z ++ (wTw K jT aT RT.laws RT.kind RT.need RT.saved RT.voice RT.partner RT.speaks RT.count RT.day RT.heard RT.geese RT.z ++ (wRo K jW aW RW.sort RW.items RW.len)))) sz)) 0 0 (va_A (wTr K jS jN jT ++ (wTw K jN aN RN.laws RN.kind RN.need RN.saved RN.voice RN.partner RN.speaks RN.count RN.day RN.heard RN.geese RN.z ++ (wTw K jT aT RT.laws RT.kind RT.need RT.saved RT.voice RT.partner RT.speaks RT.count RT.day RT.heard RT.geese RT.z ++ (wRo K jW aW RW.sort RW.items RW.len)))) sz) := by
  refine ht_enter (Qf := ht_Qi D K (wTr K jS jN jT ++ (wTw K jN aN RN.laws RN.kind RN.need RN.saved RN.voice RN.partner RN.speaks RN.count RN.day RN.heard RN.geese RN.z ++ (wTw K jT aT o.2.1 o.2.2.1 o.2.2.2.1 o.2.2.2.2.1 o.2.2.2.2.2.1 o.2.2.2.2.2.2.1 o.2.2.2.2.2.2.2.1 o.2.2.2.2.2.2.2.2.1 o.2.2.2.2.2.2.2.2.2.1 o.2.2.2.2.2.2.2.2.2.2.1 o.2.2.2.2.2.2.2.2.2.2.2.1 o.2.2.2.2.2.2.2.2.2.2.2.2 ++ (wRo K jW aW RW.sort RW.items RW.len)))) o.1) (cc := cX7_leastFit) (maxL := 4) (rt := (some .int)) (by decide) rfl (Nat.le_of_ble_eq_true rfl) ?_ sz
  intro p e s m below meth c A Q H locs ls hQ hx hb hr hlk hmn hml hown hts hA hK hP hD hS hl
  have hown : s.vm.findClass RX7 = some m.cls := hown
  have hF : CallFix p m c cX7_leastFit 4 s ([.ref jS, .ref jW, .int p1] : List Value).toArray wsX7_leastFit RX7 := ⟨hx, hb, hml, hown, hts⟩
  have hl : lv_has ls 4 [(0, .ref jS), (1, .ref jW), (2, .int p1)] := hl
  have b2 : ∀ (n : Nat) (x2 : Int32) (x3 : Int32) (vT_laws : AI) (vT_kind : AI) (vT_need : AI) (vT_saved : AI) (vT_voice : AI) (vT_partner : AI) (vT_speaks : AI) (vT_count : Int32) (vT_day : Int32) (vT_heard : Int32) (vT_geese : Int32) (vT_z : Int32) (H : Heap) (locs : List Loc) (ls : Array Slot), ht_lp14 (fX7_leastFit_b2 RN RT RW) n x2 x3 vT_laws vT_kind vT_need vT_saved vT_voice vT_partner vT_speaks vT_count vT_day vT_heard vT_geese vT_z = some o → va_P D vwCl (wTr K jS jN jT ++ (wTw K jN aN RN.laws RN.kind RN.need RN.saved RN.voice RN.partner RN.speaks RN.count RN.day RN.heard RN.geese RN.z ++ (wTw K jT aT vT_laws vT_kind vT_need vT_saved vT_voice vT_partner vT_speaks vT_count vT_day vT_heard vT_geese vT_z ++ (wRo K jW aW RW.sort RW.items RW.len)))) H → va_D A (wTr K jS jN jT ++ (wTw K jN aN RN.laws RN.kind RN.need RN.saved RN.voice RN.partner RN.speaks RN.count RN.day RN.heard RN.geese RN.z ++ (wTw K jT aT vT_laws vT_kind vT_need vT_saved vT_voice vT_partner vT_speaks vT_count vT_day vT_heard vT_geese vT_z ++ (wRo K jW aW RW.sort RW.items RW.len)))) → va_S A s.heap H locs → lv_has ls 4 [(0, .ref jS), (1, .ref jW), (2, .int x2), (3, .int x3)] → W p l e (headSpec wsX7_leastFit rmX7_leastFit).room s m ([.ref jS, .ref jW, .int p1] : List Value).toArray below meth c H locs 0 0 Q (F0 m 2 ls []) := by
    intro n
    induction n with
    | zero =>
      intro x2 x3 vT_laws vT_kind vT_need vT_saved vT_voice vT_partner vT_speaks vT_count vT_day vT_heard vT_geese vT_z H locs ls hf hP hD hS hl
      cases (show (none : Option (Int32 × AI × AI × AI × AI × AI × AI × AI × Int32 × Int32 × Int32 × Int32 × Int32)) = some o from hf)
    | succ n hk2 =>
      intro x2 x3 vT_laws vT_kind vT_need vT_saved vT_voice vT_partner vT_speaks vT_count vT_day vT_heard vT_geese vT_z H locs ls hf hP hD hS hl
      replace hf : fX7_leastFit_b2 RN RT RW (ht_lp14 (fX7_leastFit_b2 RN RT RW) n) x2 x3 vT_laws vT_kind vT_need vT_saved vT_voice vT_partner vT_speaks vT_count vT_day vT_heard vT_geese vT_z = some o := hf
      delta fX7_leastFit_b2 at hf
      refine lv_iload_n hx hb dX7_leastFit_2 rfl (lv_at hl 3 rfl) ?_
      refine lv_bipush (v := 9) hx hb dX7_leastFit_3 (by decide) ?_
      refine lv_icmp_gt (tgt := 26) hx hb dX7_leastFit_5 (by decide) (fun c_1 => ?_) (fun c_1 => ?_)
      · replace hf := ht_t c_1 hf
        refine lv_bipush (v := -3) hx hb dX7_leastFit_26 (by decide) ?_
        have ho := Option.some.inj hf
        subst ho; subst hQ
        exact ht_iret hx hb hr hlk rfl hK hP hD hS dX7_leastFit_28
      · replace hf := ht_f c_1 hf
        refine lv_aload_n hx hb dX7_leastFit_8 rfl (lv_at hl 0 rfl) ?_
        refine lv_aload_n hx hb dX7_leastFit_9 rfl (lv_at hl 1 rfl) ?_
        refine lv_iload_n hx hb dX7_leastFit_10 rfl (lv_at hl 2 rfl) ?_
        refine lv_iload_n hx hb dX7_leastFit_11 rfl (lv_at hl 3 rfl) ?_
        obtain ⟨o_2, ho_2, hf⟩ := ht_bn_ob hf
        refine ht_callVi (r := o_2.1) (rest := []) (As := [.ref jW, .int x2, .int x3]) (wc := (wTr K jS jN jT ++ (wTw K jN aN RN.laws RN.kind RN.need RN.saved RN.voice RN.partner RN.speaks RN.count RN.day RN.heard RN.geese RN.z ++ (wTw K jT aT vT_laws vT_kind vT_need vT_saved vT_voice vT_partner vT_speaks vT_count vT_day vT_heard vT_geese vT_z ++ (wRo K jW aW RW.sort RW.items RW.len))))) (wr := []) (w1 := (wTr K jS jN jT ++ (wTw K jN aN RN.laws RN.kind RN.need RN.saved RN.voice RN.partner RN.speaks RN.count RN.day RN.heard RN.geese RN.z ++ (wTw K jT aT o_2.2.1 o_2.2.2.1 o_2.2.2.2.1 o_2.2.2.2.2.1 o_2.2.2.2.2.2.1 o_2.2.2.2.2.2.2.1 o_2.2.2.2.2.2.2.2.1 o_2.2.2.2.2.2.2.2.2.1 o_2.2.2.2.2.2.2.2.2.2.1 o_2.2.2.2.2.2.2.2.2.2.2.1 o_2.2.2.2.2.2.2.2.2.2.2.2.1 o_2.2.2.2.2.2.2.2.2.2.2.2.2 ++ (wRo K jW aW RW.sort RW.items RW.len))))) (w2 := (wTr K jS jN jT ++ (wTw K jN aN RN.laws RN.kind RN.need RN.saved RN.voice RN.partner RN.speaks RN.count RN.day RN.heard RN.geese RN.z ++ (wTw K jT aT o_2.2.1 o_2.2.2.1 o_2.2.2.2.1 o_2.2.2.2.2.1 o_2.2.2.2.2.2.1 o_2.2.2.2.2.2.2.1 o_2.2.2.2.2.2.2.2.1 o_2.2.2.2.2.2.2.2.2.1 o_2.2.2.2.2.2.2.2.2.2.1 o_2.2.2.2.2.2.2.2.2.2.2.1 o_2.2.2.2.2.2.2.2.2.2.2.2.1 o_2.2.2.2.2.2.2.2.2.2.2.2.2 ++ (wRo K jW aW RW.sort RW.items RW.len))))) hF (ctX7_voiceFits l D K jS jN aN jT aT jW aW RN (vT_laws, vT_kind, vT_need, vT_saved, vT_voice, vT_partner, vT_speaks, vT_count, vT_day, vT_heard, vT_geese, vT_z) RW x2 x3 o_2 ho_2 H.size) (cwV 3 hts gX7_leastFit_X7_voiceFits rfl rfl rfl hdX7_voiceFits ⟨Nat.le_of_ble_eq_true rfl, Nat.le_of_ble_eq_true rfl⟩) hK hP hD hS hA [0, 1, 2, 3, 4, 5, 6, 7, 8, 9, 10, 11, 12, 13, 14, 15, 16, 17, 18] [] rfl rfl (by decide) (by decide) (by decide) [0, 1, 2, 3, 4, 5, 6, 7, 8, 9, 10, 11, 12, 13, 14, 15, 16, 17, 18] rfl (by decide) (va_recv hK hP (ci := 7) (q0 := 0) rfl rfl) rfl hl.1 rfl (Nat.le_of_ble_eq_true rfl) dX7_leastFit_12 ⟨Nat.zero_le _, Nat.zero_le _⟩ (fun H locs hP hD hS => ?_)
        refine lv_if_eq (tgt := 20) hx hb dX7_leastFit_15 (by decide) (fun c_3 => ?_) (fun c_3 => ?_)
        · replace hf := ht_t c_3 hf
          obtain ⟨x3_4, ex3_4, hf⟩ := ht_nm_ob hf
          refine lv_iinc (v := x3_4) (lv' := [(3, .int x3_4), (0, .ref jS), (1, .ref jW), (2, .int x2)]) hx hb dX7_leastFit_20 hl (k := 3) rfl (by rw [ex3_4]; rfl) (by decide) rfl (fun ls hl => ?_)
          refine lv_goto (tgt := 2) hx hb dX7_leastFit_23 (by decide) ?_
          exact hk2 x2 x3_4 o_2.2.1 o_2.2.2.1 o_2.2.2.2.1 o_2.2.2.2.2.1 o_2.2.2.2.2.2.1 o_2.2.2.2.2.2.2.1 o_2.2.2.2.2.2.2.2.1 o_2.2.2.2.2.2.2.2.2.1 o_2.2.2.2.2.2.2.2.2.2.1 o_2.2.2.2.2.2.2.2.2.2.2.1 o_2.2.2.2.2.2.2.2.2.2.2.2.1 o_2.2.2.2.2.2.2.2.2.2.2.2.2 _ _ _ hf hP hD hS (lv_sub hl [1, 2, 3, 0] rfl)
        · replace hf := ht_f c_3 hf
          refine lv_iload_n hx hb dX7_leastFit_18 rfl (lv_at hl 3 rfl) ?_
          have ho := Option.some.inj hf
          subst ho; subst hQ
          exact ht_iret hx hb hr hlk rfl hK hP hD hS dX7_leastFit_19
  delta fX7_leastFit at hf
  refine lv_iconst (v := 0) hx hb dX7_leastFit_0 (by decide) ?_
  refine lv_istore_n (lv' := [(3, .int (0 : Int32)), (0, .ref jS), (1, .ref jW), (2, .int p1)]) hx hb dX7_leastFit_1 rfl hl (by decide) rfl (fun ls hl => ?_)
  exact b2  FU p1 (0 : Int32) RT.laws RT.kind RT.need RT.saved RT.voice RT.partner RT.speaks RT.count RT.day RT.heard RT.geese RT.z _ _ _ hf hP hD hS (lv_sub hl [1, 2, 3, 0] rfl)
abbrev rmX8_fits_s : Room := { frames := 6, cells := 0, slots := 0, locals := 139 }
theorem hdX8_fits : yX8_fits.cls = RX8 ∧ yX8_fits.cls ≠ "java/lang/invoke/MethodHandle" ∧ yX8_fits.cls ≠ "java/lang/invoke/VarHandle" ∧ (parseMethodDescriptor yX8_fits.desc).map (fun d => d.parameters.length) = some 3 := by decide +kernel
def fX8_fits_s (jW : Nat) (RX : HTV) (RN : TownV) (RT : TownV) (RG : AQ) (RW : RowV) (p0 : Int32) (p1 : Int32) (p2 : Int32) : Option (Int32 × AI × AI × AI × AI × AI × AI × AI × Int32 × Int32 × Int32 × Int32 × Int32) := ht_bn (fX8_isSheet p0) (fun o_1 => if o_1 = 0 then (some ((-1 : Int32), RT.laws, RT.kind, RT.need, RT.saved, RT.voice, RT.partner, RT.speaks, RT.count, RT.day, RT.heard, RT.geese, RT.z)) else (ht_bn (fX6_has RN p1) (fun o_3 => if o_3 = 0 then (some ((-1 : Int32), RT.laws, RT.kind, RT.need, RT.saved, RT.voice, RT.partner, RT.speaks, RT.count, RT.day, RT.heard, RT.geese, RT.z)) else (ht_bn (fX8_within p2 (0 : Int32) (1 : Int32)) (fun o_5 => if o_5 = 0 then (some ((-1 : Int32), RT.laws, RT.kind, RT.need, RT.saved, RT.voice, RT.partner, RT.speaks, RT.count, RT.day, RT.heard, RT.geese, RT.z)) else (ht_gd (ht_ix p0 4) (ht_gd (decide (RG p0.toNatClampNeg = some jW)) (if p2 = 0 then (ht_bn (fX7_howManyFit RN RT RW p1) (fun o_11 => some (o_11.1, o_11.2.1, o_11.2.2.1, o_11.2.2.2.1, o_11.2.2.2.2.1, o_11.2.2.2.2.2.1, o_11.2.2.2.2.2.2.1, o_11.2.2.2.2.2.2.2.1, o_11.2.2.2.2.2.2.2.2.1, o_11.2.2.2.2.2.2.2.2.2.1, o_11.2.2.2.2.2.2.2.2.2.2.1, o_11.2.2.2.2.2.2.2.2.2.2.2.1, o_11.2.2.2.2.2.2.2.2.2.2.2.2))) else (ht_bn (fX7_leastFit RN RT RW p1) (fun o_10 => some (o_10.1, o_10.2.1, o_10.2.2.1, o_10.2.2.2.1, o_10.2.2.2.2.1, o_10.2.2.2.2.2.1, o_10.2.2.2.2.2.2.1, o_10.2.2.2.2.2.2.2.1, o_10.2.2.2.2.2.2.2.2.1, o_10.2.2.2.2.2.2.2.2.2.1, o_10.2.2.2.2.2.2.2.2.2.2.1, o_10.2.2.2.2.2.2.2.2.2.2.2.1, o_10.2.2.2.2.2.2.2.2.2.2.2.2)))))))))))
set_option maxHeartbeats 1000000 in
set_option maxRecDepth 100000 in
theorem ctX8_fits_s (l : Launch) (D : va_G) (K : Nat → ClassId) (jX : Nat) (jS : Nat) (jN : Nat) (aN : Nat → Nat) (jT : Nat) (aT : Nat → Nat) (jG : Nat) (jW : Nat) (aW : Nat → Nat) (kX_kept : Nat) (kX_pairings : Nat) (kX_tape : Nat) (kX_telling : Nat) (kX_dayRows : Nat) (kX_deed : Nat) (kX_shelvedPerson : Nat) (kX_shelvedRow : Nat) (RX : HTV) (RN : TownV) (RT : TownV) (RG : AQ) (RW : RowV) (p0 : Int32) (p1 : Int32) (p2 : Int32) (o : (Int32 × AI × AI × AI × AI × AI × AI × AI × Int32 × Int32 × Int32 × Int32 × Int32)) (hf : fX8_fits_s jW RX RN RT RG RW p0 p1 p2 = some o) (sz : Nat) : Met l yX8_fits wsX8_fits rmX8_fits_s (ht_Pre D K [.ref jX, .int p0, .int p1, .int p2] (wHT K jX jN kX_kept jT jS kX_pairings kX_tape kX_telling kX_dayRows kX_deed jG kX_shelvedPerson kX_shelvedRow RX.anythingKept ++ (wTr K jS jN jT ++ (wTw K jN aN RN.laws RN.kind RN.need RN.saved RN.voice RN.partner RN.speaks RN.count RN.day RN.heard RN.geese RN.z ++ (wTw K jT aT RT.laws RT.kind RT.need RT.saved RT.voice RT.partner RT.speaks RT.count RT.day RT.heard RT.geese RT.z ++ (wAq K 4 jG RG ++ (wRo K jW aW RW.sort RW.items RW.len)))))) sz) (ht_Qi D K (wHT K jX jN kX_kept jT jS kX_pairings kX_tape kX_telling kX_dayRows kX_deed jG kX_shelvedPerson kX_shelvedRow RX.anythingKept ++ (wTr K jS jN jT ++ (wTw K jN aN RN.laws RN.kind RN.need RN.saved RN.voice RN.partner RN.speaks RN.count RN.day RN.heard RN.geese RN.z ++ (wTw K jT aT o.2.1 o.2.2.1 o.2.2.2.1 o.2.2.2.2.1 o.2.2.2.2.2.1 o.2.2.2.2.2.2.1 o.2.2.2.2.2.2.2.1 o.2.2.2.2.2.2.2.2.1 o.2.2.2.2.2.2.2.2.2.1 o.2.2.2.2.2.2.2.2.2.2.1 o.2.2.2.2.2.2.2.2.2.2.2.1 o.2.2.2.2.2.2.2.2.2.2.2.2 ++ (wAq K 4 jG RG ++ (wRo K jW aW RW.sort RW.items RW.len)))))) o.1 (va_A (wHT K jX jN kX_kept jT jS kX_pairings kX_tape kX_telling kX_dayRows kX_deed jG kX_shelvedPerson kX_shelvedRow RX.anythingKept ++ (wTr K jS jN jT ++ (wTw K jN aN RN.laws RN.kind RN.need RN.saved RN.voice RN.partner RN.speaks RN.count RN.day RN.heard RN.geese RN.z ++ (wTw K jT aT RT.laws RT.kind RT.need RT.saved RT.voice RT.partner RT.speaks RT.count RT.day RT.heard RT.geese RT.z ++ (wAq K 4 jG RG ++ (wRo K jW aW RW.sort RW.items RW.len)))))) sz)) 0 0 (va_A (wHT K jX jN kX_kept jT jS kX_pairings kX_tape kX_telling kX_dayRows kX_deed jG kX_shelvedPerson kX_shelvedRow RX.anythingKept ++ (wTr K jS jN jT ++ (wTw K jN aN RN.laws RN.kind RN.need RN.saved RN.voice RN.partner RN.speaks RN.count RN.day RN.heard RN.geese RN.z ++ (wTw K jT aT RT.laws RT.kind RT.need RT.saved RT.voice RT.partner RT.speaks RT.count RT.day RT.heard RT.geese RT.z ++ (wAq K 4 jG RG ++ (wRo K jW aW RW.sort RW.items RW.len)))))) sz) := by
  refine ht_enter (Qf := ht_Qi D K (wHT K jX jN kX_kept jT jS kX_pairings kX_tape kX_telling kX_dayRows kX_deed jG kX_shelvedPerson kX_shelvedRow RX.anythingKept ++ (wTr K jS jN jT ++ (wTw K jN aN RN.laws RN.kind RN.need RN.saved RN.voice RN.partner RN.speaks RN.count RN.day RN.heard RN.geese RN.z ++ (wTw K jT aT o.2.1 o.2.2.1 o.2.2.2.1 o.2.2.2.2.1 o.2.2.2.2.2.1 o.2.2.2.2.2.2.1 o.2.2.2.2.2.2.2.1 o.2.2.2.2.2.2.2.2.1 o.2.2.2.2.2.2.2.2.2.1 o.2.2.2.2.2.2.2.2.2.2.1 o.2.2.2.2.2.2.2.2.2.2.2.1 o.2.2.2.2.2.2.2.2.2.2.2.2 ++ (wAq K 4 jG RG ++ (wRo K jW aW RW.sort RW.items RW.len)))))) o.1) (cc := cX8_fits) (maxL := 5) (rt := (some .int)) (by decide) rfl (Nat.le_of_ble_eq_true rfl) ?_ sz
  intro p e s m below meth c A Q H locs ls hQ hx hb hr hlk hmn hml hown hts hA hK hP hD hS hl
  have hown : s.vm.findClass RX8 = some m.cls := hown
  have hF : CallFix p m c cX8_fits 5 s ([.ref jX, .int p0, .int p1, .int p2] : List Value).toArray wsX8_fits RX8 := ⟨hx, hb, hml, hown, hts⟩
  have hl : lv_has ls 5 [(0, .ref jX), (1, .int p0), (2, .int p1), (3, .int p2)] := hl
  have iw8 : ∀ w ∈ u_ws RX8 TX8 13, w ∈ wsX8_fits := by decide +kernel
  have kw1 := hts (.fieldLink RX8 10 "HeldTongues" "now" "LHeldTongues$Town;") (by decide +kernel)
  have kw2 := hts (.fieldLink RX8 72 "HeldTongues" "sheets" "[LHeldTongues$SheetRow;") (by decide +kernel)
  have kw3 := hts (.fieldLink RX8 27 "HeldTongues" "trials" "LHeldTongues$Trials;") (by decide +kernel)
  delta fX8_fits_s at hf
  refine lv_iload_n hx hb dX8_fits_0 rfl (lv_at hl 1 rfl) ?_
  obtain ⟨o_1, ho_1, hf⟩ := ht_bn_ob hf
  refine ht_callSi (r := o_1) (rest := []) (As := [.int p0]) (wc := []) (wr := (wHT K jX jN kX_kept jT jS kX_pairings kX_tape kX_telling kX_dayRows kX_deed jG kX_shelvedPerson kX_shelvedRow RX.anythingKept ++ (wTr K jS jN jT ++ (wTw K jN aN RN.laws RN.kind RN.need RN.saved RN.voice RN.partner RN.speaks RN.count RN.day RN.heard RN.geese RN.z ++ (wTw K jT aT RT.laws RT.kind RT.need RT.saved RT.voice RT.partner RT.speaks RT.count RT.day RT.heard RT.geese RT.z ++ (wAq K 4 jG RG ++ (wRo K jW aW RW.sort RW.items RW.len))))))) (w1 := []) (w2 := (wHT K jX jN kX_kept jT jS kX_pairings kX_tape kX_telling kX_dayRows kX_deed jG kX_shelvedPerson kX_shelvedRow RX.anythingKept ++ (wTr K jS jN jT ++ (wTw K jN aN RN.laws RN.kind RN.need RN.saved RN.voice RN.partner RN.speaks RN.count RN.day RN.heard RN.geese RN.z ++ (wTw K jT aT RT.laws RT.kind RT.need RT.saved RT.voice RT.partner RT.speaks RT.count RT.day RT.heard RT.geese RT.z ++ (wAq K 4 jG RG ++ (wRo K jW aW RW.sort RW.items RW.len))))))) hF (ctX8_isSheet l D K p0 o_1 ho_1 H.size) (va_cwS 1 hts gX8_fits_X8_isSheet rfl rfl rfl hdX8_isSheet ⟨Nat.le_of_ble_eq_true rfl, Nat.le_of_ble_eq_true rfl⟩) hK hP hD hS hA [] [0, 1, 2, 3, 4, 5, 6, 7, 8, 9, 10, 11, 12, 13, 14, 15, 16, 17, 18, 19, 20] rfl rfl (by decide) (by decide) (by decide) [0, 1, 2, 3, 4, 5, 6, 7, 8, 9, 10, 11, 12, 13, 14, 15, 16, 17, 18, 19, 20] rfl (by decide) rfl hl.1 rfl (Nat.le_of_ble_eq_true rfl) dX8_fits_1 ⟨Nat.zero_le _, Nat.zero_le _⟩ (fun H locs hP hD hS => ?_)
  refine lv_if_eq (tgt := 27) hx hb dX8_fits_4 (by decide) (fun c_2 => ?_) (fun c_2 => ?_)
  · replace hf := ht_t c_2 hf
    refine lv_iconst (v := -1) hx hb dX8_fits_27 (by decide) ?_
    have ho := Option.some.inj hf
    subst ho; subst hQ
    exact ht_iret hx hb hr hlk rfl hK hP hD hS dX8_fits_28
  · replace hf := ht_f c_2 hf
    refine lv_aload_n hx hb dX8_fits_7 rfl (lv_at hl 0 rfl) ?_
    refine va_get (D := D) (ci := 8) (v := .ref jN) (C := RX8) (T := TX8) (N := 13) hx hb hts iw8 hown hK hP 0 rfl rfl 0 (by decide) kw1 (fun _ h9 => h9) rfl dX8_fits_8 ?_
    refine lv_iload_n hx hb dX8_fits_11 rfl (lv_at hl 2 rfl) ?_
    obtain ⟨o_3, ho_3, hf⟩ := ht_bn_ob hf
    refine ht_callVi (r := o_3) (rest := []) (As := [.int p1]) (wc := (wTw K jN aN RN.laws RN.kind RN.need RN.saved RN.voice RN.partner RN.speaks RN.count RN.day RN.heard RN.geese RN.z)) (wr := (wHT K jX jN kX_kept jT jS kX_pairings kX_tape kX_telling kX_dayRows kX_deed jG kX_shelvedPerson kX_shelvedRow RX.anythingKept ++ (wTr K jS jN jT ++ (wTw K jT aT RT.laws RT.kind RT.need RT.saved RT.voice RT.partner RT.speaks RT.count RT.day RT.heard RT.geese RT.z ++ (wAq K 4 jG RG ++ (wRo K jW aW RW.sort RW.items RW.len)))))) (w1 := (wTw K jN aN RN.laws RN.kind RN.need RN.saved RN.voice RN.partner RN.speaks RN.count RN.day RN.heard RN.geese RN.z)) (w2 := (wHT K jX jN kX_kept jT jS kX_pairings kX_tape kX_telling kX_dayRows kX_deed jG kX_shelvedPerson kX_shelvedRow RX.anythingKept ++ (wTr K jS jN jT ++ (wTw K jN aN RN.laws RN.kind RN.need RN.saved RN.voice RN.partner RN.speaks RN.count RN.day RN.heard RN.geese RN.z ++ (wTw K jT aT RT.laws RT.kind RT.need RT.saved RT.voice RT.partner RT.speaks RT.count RT.day RT.heard RT.geese RT.z ++ (wAq K 4 jG RG ++ (wRo K jW aW RW.sort RW.items RW.len))))))) hF (ctX6_has l D K jN aN RN p1 o_3 ho_3 H.size) (cwV 1 hts gX8_fits_X6_has rfl rfl rfl hdX6_has ⟨Nat.le_of_ble_eq_true rfl, Nat.le_of_ble_eq_true rfl⟩) hK hP hD hS hA [2, 3, 4, 5, 6, 7, 8, 9] [0, 1, 10, 11, 12, 13, 14, 15, 16, 17, 18, 19, 20] rfl rfl (by decide) (by decide) (by decide) [0, 1, 13, 14, 15, 16, 17, 18, 19, 20, 2, 3, 4, 5, 6, 7, 8, 9, 10, 11, 12] rfl (by decide) (va_recv hK hP (ci := 6) (q0 := 2) rfl rfl) rfl hl.1 rfl (Nat.le_of_ble_eq_true rfl) dX8_fits_12 ⟨Nat.zero_le _, Nat.zero_le _⟩ (fun H locs hP hD hS => ?_)
    refine lv_if_eq (tgt := 27) hx hb dX8_fits_15 (by decide) (fun c_4 => ?_) (fun c_4 => ?_)
    · replace hf := ht_t c_4 hf
      refine lv_iconst (v := -1) hx hb dX8_fits_27 (by decide) ?_
      have ho := Option.some.inj hf
      subst ho; subst hQ
      exact ht_iret hx hb hr hlk rfl hK hP hD hS dX8_fits_28
    · replace hf := ht_f c_4 hf
      refine lv_iload_n hx hb dX8_fits_18 rfl (lv_at hl 3 rfl) ?_
      refine lv_iconst (v := 0) hx hb dX8_fits_19 (by decide) ?_
      refine lv_iconst (v := 1) hx hb dX8_fits_20 (by decide) ?_
      obtain ⟨o_5, ho_5, hf⟩ := ht_bn_ob hf
      refine ht_callSi (r := o_5) (rest := []) (As := [.int p2, .int (0 : Int32), .int (1 : Int32)]) (wc := []) (wr := (wHT K jX jN kX_kept jT jS kX_pairings kX_tape kX_telling kX_dayRows kX_deed jG kX_shelvedPerson kX_shelvedRow RX.anythingKept ++ (wTr K jS jN jT ++ (wTw K jN aN RN.laws RN.kind RN.need RN.saved RN.voice RN.partner RN.speaks RN.count RN.day RN.heard RN.geese RN.z ++ (wTw K jT aT RT.laws RT.kind RT.need RT.saved RT.voice RT.partner RT.speaks RT.count RT.day RT.heard RT.geese RT.z ++ (wAq K 4 jG RG ++ (wRo K jW aW RW.sort RW.items RW.len))))))) (w1 := []) (w2 := (wHT K jX jN kX_kept jT jS kX_pairings kX_tape kX_telling kX_dayRows kX_deed jG kX_shelvedPerson kX_shelvedRow RX.anythingKept ++ (wTr K jS jN jT ++ (wTw K jN aN RN.laws RN.kind RN.need RN.saved RN.voice RN.partner RN.speaks RN.count RN.day RN.heard RN.geese RN.z ++ (wTw K jT aT RT.laws RT.kind RT.need RT.saved RT.voice RT.partner RT.speaks RT.count RT.day RT.heard RT.geese RT.z ++ (wAq K 4 jG RG ++ (wRo K jW aW RW.sort RW.items RW.len))))))) hF (ctX8_within l D K p2 (0 : Int32) (1 : Int32) o_5 ho_5 H.size) (va_cwS 3 hts gX8_fits_X8_within rfl rfl rfl hdX8_within ⟨Nat.le_of_ble_eq_true rfl, Nat.le_of_ble_eq_true rfl⟩) hK hP hD hS hA [] [0, 1, 2, 3, 4, 5, 6, 7, 8, 9, 10, 11, 12, 13, 14, 15, 16, 17, 18, 19, 20] rfl rfl (by decide) (by decide) (by decide) [0, 1, 2, 3, 4, 5, 6, 7, 8, 9, 10, 11, 12, 13, 14, 15, 16, 17, 18, 19, 20] rfl (by decide) rfl hl.1 rfl (Nat.le_of_ble_eq_true rfl) dX8_fits_21 ⟨Nat.zero_le _, Nat.zero_le _⟩ (fun H locs hP hD hS => ?_)
      refine lv_if_ne (tgt := 29) hx hb dX8_fits_24 (by decide) (fun c_6 => ?_) (fun c_6 => ?_)
      · replace hf := ht_f c_6 hf
        refine lv_aload_n hx hb dX8_fits_29 rfl (lv_at hl 0 rfl) ?_
        refine va_get (D := D) (ci := 8) (v := .ref jG) (C := RX8) (T := TX8) (N := 13) hx hb hts iw8 hown hK hP 0 rfl rfl 9 (by decide) kw2 (fun _ h9 => h9) rfl dX8_fits_30 ?_
        refine lv_iload_n hx hb dX8_fits_33 rfl (lv_at hl 1 rfl) ?_
        obtain ⟨g_7, hf⟩ := ht_gd_ob hf
        obtain ⟨g_8, hf⟩ := ht_gd_ob hf
        refine va_aldq hx hb hK hP 18 4 rfl rfl (ht_ix_in g_7) dX8_fits_34 ?_
        refine W.eq (g2 := F0 m 35 ls [.ref jW]) (by rw [of_decide_eq_true g_8]; rfl) ?_
        refine lv_astore (lv' := [(4, .ref jW), (0, .ref jX), (1, .int p0), (2, .int p1), (3, .int p2)]) hx hb dX8_fits_35 hl (by decide) rfl (fun ls hl => ?_)
        refine lv_aload hx hb dX8_fits_37 (lv_at hl 0 rfl) ?_
        refine lv_ifnonnull (tgt := 45) hx hb dX8_fits_39 (by decide) ?_
        refine lv_iload_n hx hb dX8_fits_45 rfl (lv_at hl 4 rfl) ?_
        refine lv_if_ne (tgt := 62) hx hb dX8_fits_46 (by decide) (fun c_9 => ?_) (fun c_9 => ?_)
        · replace hf := ht_f c_9 hf
          refine lv_aload_n hx hb dX8_fits_62 rfl (lv_at hl 1 rfl) ?_
          refine va_get (D := D) (ci := 8) (v := .ref jS) (C := RX8) (T := TX8) (N := 13) hx hb hts iw8 hown hK hP 0 rfl rfl 3 (by decide) kw3 (fun _ h9 => h9) rfl dX8_fits_63 ?_
          refine lv_aload hx hb dX8_fits_66 (lv_at hl 0 rfl) ?_
          refine lv_iload_n hx hb dX8_fits_68 rfl (lv_at hl 3 rfl) ?_
          obtain ⟨o_10, ho_10, hf⟩ := ht_bn_ob hf
          refine ht_callVi (r := o_10.1) (rest := []) (As := [.ref jW, .int p1]) (wc := (wTr K jS jN jT ++ (wTw K jN aN RN.laws RN.kind RN.need RN.saved RN.voice RN.partner RN.speaks RN.count RN.day RN.heard RN.geese RN.z ++ (wTw K jT aT RT.laws RT.kind RT.need RT.saved RT.voice RT.partner RT.speaks RT.count RT.day RT.heard RT.geese RT.z ++ (wRo K jW aW RW.sort RW.items RW.len))))) (wr := (wHT K jX jN kX_kept jT jS kX_pairings kX_tape kX_telling kX_dayRows kX_deed jG kX_shelvedPerson kX_shelvedRow RX.anythingKept ++ (wAq K 4 jG RG))) (w1 := (wTr K jS jN jT ++ (wTw K jN aN RN.laws RN.kind RN.need RN.saved RN.voice RN.partner RN.speaks RN.count RN.day RN.heard RN.geese RN.z ++ (wTw K jT aT o_10.2.1 o_10.2.2.1 o_10.2.2.2.1 o_10.2.2.2.2.1 o_10.2.2.2.2.2.1 o_10.2.2.2.2.2.2.1 o_10.2.2.2.2.2.2.2.1 o_10.2.2.2.2.2.2.2.2.1 o_10.2.2.2.2.2.2.2.2.2.1 o_10.2.2.2.2.2.2.2.2.2.2.1 o_10.2.2.2.2.2.2.2.2.2.2.2.1 o_10.2.2.2.2.2.2.2.2.2.2.2.2 ++ (wRo K jW aW RW.sort RW.items RW.len))))) (w2 := (wHT K jX jN kX_kept jT jS kX_pairings kX_tape kX_telling kX_dayRows kX_deed jG kX_shelvedPerson kX_shelvedRow RX.anythingKept ++ (wTr K jS jN jT ++ (wTw K jN aN RN.laws RN.kind RN.need RN.saved RN.voice RN.partner RN.speaks RN.count RN.day RN.heard RN.geese RN.z ++ (wTw K jT aT o_10.2.1 o_10.2.2.1 o_10.2.2.2.1 o_10.2.2.2.2.1 o_10.2.2.2.2.2.1 o_10.2.2.2.2.2.2.1 o_10.2.2.2.2.2.2.2.1 o_10.2.2.2.2.2.2.2.2.1 o_10.2.2.2.2.2.2.2.2.2.1 o_10.2.2.2.2.2.2.2.2.2.2.1 o_10.2.2.2.2.2.2.2.2.2.2.2.1 o_10.2.2.2.2.2.2.2.2.2.2.2.2 ++ (wAq K 4 jG RG ++ (wRo K jW aW RW.sort RW.items RW.len))))))) hF (ctX7_leastFit l D K jS jN aN jT aT jW aW RN RT RW p1 o_10 ho_10 H.size) (cwV 2 hts gX8_fits_X7_leastFit rfl rfl rfl hdX7_leastFit ⟨Nat.le_of_ble_eq_true rfl, Nat.le_of_ble_eq_true rfl⟩) hK hP hD hS hA [1, 2, 3, 4, 5, 6, 7, 8, 9, 10, 11, 12, 13, 14, 15, 16, 17, 19, 20] [0, 18] rfl rfl (by decide) (by decide) (by decide) [0, 2, 3, 4, 5, 6, 7, 8, 9, 10, 11, 12, 13, 14, 15, 16, 17, 18, 1, 19, 20] rfl (by decide) (va_recv hK hP (ci := 7) (q0 := 1) rfl rfl) rfl hl.1 rfl (Nat.le_of_ble_eq_true rfl) dX8_fits_69 ⟨Nat.zero_le _, Nat.zero_le _⟩ (fun H locs hP hD hS => ?_)
          have ho := Option.some.inj hf
          subst ho; subst hQ
          exact ht_iret hx hb hr hlk rfl hK hP hD hS dX8_fits_72
        · replace hf := ht_t c_9 hf
          refine lv_aload_n hx hb dX8_fits_49 rfl (lv_at hl 1 rfl) ?_
          refine va_get (D := D) (ci := 8) (v := .ref jS) (C := RX8) (T := TX8) (N := 13) hx hb hts iw8 hown hK hP 0 rfl rfl 3 (by decide) kw3 (fun _ h9 => h9) rfl dX8_fits_50 ?_
          refine lv_aload hx hb dX8_fits_53 (lv_at hl 0 rfl) ?_
          refine lv_iload_n hx hb dX8_fits_55 rfl (lv_at hl 3 rfl) ?_
          obtain ⟨o_11, ho_11, hf⟩ := ht_bn_ob hf
          refine ht_callVi (r := o_11.1) (rest := []) (As := [.ref jW, .int p1]) (wc := (wTr K jS jN jT ++ (wTw K jN aN RN.laws RN.kind RN.need RN.saved RN.voice RN.partner RN.speaks RN.count RN.day RN.heard RN.geese RN.z ++ (wTw K jT aT RT.laws RT.kind RT.need RT.saved RT.voice RT.partner RT.speaks RT.count RT.day RT.heard RT.geese RT.z ++ (wRo K jW aW RW.sort RW.items RW.len))))) (wr := (wHT K jX jN kX_kept jT jS kX_pairings kX_tape kX_telling kX_dayRows kX_deed jG kX_shelvedPerson kX_shelvedRow RX.anythingKept ++ (wAq K 4 jG RG))) (w1 := (wTr K jS jN jT ++ (wTw K jN aN RN.laws RN.kind RN.need RN.saved RN.voice RN.partner RN.speaks RN.count RN.day RN.heard RN.geese RN.z ++ (wTw K jT aT o_11.2.1 o_11.2.2.1 o_11.2.2.2.1 o_11.2.2.2.2.1 o_11.2.2.2.2.2.1 o_11.2.2.2.2.2.2.1 o_11.2.2.2.2.2.2.2.1 o_11.2.2.2.2.2.2.2.2.1 o_11.2.2.2.2.2.2.2.2.2.1 o_11.2.2.2.2.2.2.2.2.2.2.1 o_11.2.2.2.2.2.2.2.2.2.2.2.1 o_11.2.2.2.2.2.2.2.2.2.2.2.2 ++ (wRo K jW aW RW.sort RW.items RW.len))))) (w2 := (wHT K jX jN kX_kept jT jS kX_pairings kX_tape kX_telling kX_dayRows kX_deed jG kX_shelvedPerson kX_shelvedRow RX.anythingKept ++ (wTr K jS jN jT ++ (wTw K jN aN RN.laws RN.kind RN.need RN.saved RN.voice RN.partner RN.speaks RN.count RN.day RN.heard RN.geese RN.z ++ (wTw K jT aT o_11.2.1 o_11.2.2.1 o_11.2.2.2.1 o_11.2.2.2.2.1 o_11.2.2.2.2.2.1 o_11.2.2.2.2.2.2.1 o_11.2.2.2.2.2.2.2.1 o_11.2.2.2.2.2.2.2.2.1 o_11.2.2.2.2.2.2.2.2.2.1 o_11.2.2.2.2.2.2.2.2.2.2.1 o_11.2.2.2.2.2.2.2.2.2.2.2.1 o_11.2.2.2.2.2.2.2.2.2.2.2.2 ++ (wAq K 4 jG RG ++ (wRo K jW aW RW.sort RW.items RW.len))))))) hF (ctX7_howManyFit l D K jS jN aN jT aT jW aW RN RT RW p1 o_11 ho_11 H.size) (cwV 2 hts gX8_fits_X7_howManyFit rfl rfl rfl hdX7_howManyFit ⟨Nat.le_of_ble_eq_true rfl, Nat.le_of_ble_eq_true rfl⟩) hK hP hD hS hA [1, 2, 3, 4, 5, 6, 7, 8, 9, 10, 11, 12, 13, 14, 15, 16, 17, 19, 20] [0, 18] rfl rfl (by decide) (by decide) (by decide) [0, 2, 3, 4, 5, 6, 7, 8, 9, 10, 11, 12, 13, 14, 15, 16, 17, 18, 1, 19, 20] rfl (by decide) (va_recv hK hP (ci := 7) (q0 := 1) rfl rfl) rfl hl.1 rfl (Nat.le_of_ble_eq_true rfl) dX8_fits_56 ⟨Nat.zero_le _, Nat.zero_le _⟩ (fun H locs hP hD hS => ?_)
          refine lv_goto (tgt := 72) hx hb dX8_fits_59 (by decide) ?_
          have ho := Option.some.inj hf
          subst ho; subst hQ
          exact ht_iret hx hb hr hlk rfl hK hP hD hS dX8_fits_72
      · replace hf := ht_t c_6 hf
        refine lv_iconst (v := -1) hx hb dX8_fits_27 (by decide) ?_
        have ho := Option.some.inj hf
        subst ho; subst hQ
        exact ht_iret hx hb hr hlk rfl hK hP hD hS dX8_fits_28
abbrev rmX8_fits_n : Room := { frames := 2, cells := 0, slots := 0, locals := 42 }
def fX8_fits_n (RX : HTV) (RN : TownV) (RT : TownV) (RG : AQ) (p0 : Int32) (p1 : Int32) (p2 : Int32) : Option Int32 := ht_bn (fX8_isSheet p0) (fun o_1 => if o_1 = 0 then (some (-1 : Int32)) else (ht_bn (fX6_has RN p1) (fun o_3 => if o_3 = 0 then (some (-1 : Int32)) else (ht_bn (fX8_within p2 (0 : Int32) (1 : Int32)) (fun o_5 => if o_5 = 0 then (some (-1 : Int32)) else (ht_gd (ht_ix p0 4) (ht_gd (decide (RG p0.toNatClampNeg = none)) (some (-11 : Int32)))))))))
set_option maxHeartbeats 1000000 in
set_option maxRecDepth 100000 in
theorem ctX8_fits_n (l : Launch) (D : va_G) (K : Nat → ClassId) (jX : Nat) (jS : Nat) (jN : Nat) (aN : Nat → Nat) (jT : Nat) (aT : Nat → Nat) (jG : Nat) (kX_kept : Nat) (kX_pairings : Nat) (kX_tape : Nat) (kX_telling : Nat) (kX_dayRows : Nat) (kX_deed : Nat) (kX_shelvedPerson : Nat) (kX_shelvedRow : Nat) (RX : HTV) (RN : TownV) (RT : TownV) (RG : AQ) (p0 : Int32) (p1 : Int32) (p2 : Int32) (o : Int32) (hf : fX8_fits_n RX RN RT RG p0 p1 p2 = some o) (sz : Nat) : Met l yX8_fits wsX8_fits rmX8_fits_n (ht_Pre D K [.ref jX, .int p0, .int p1, .int p2] (wHT K jX jN kX_kept jT jS kX_pairings kX_tape kX_telling kX_dayRows kX_deed jG kX_shelvedPerson kX_shelvedRow RX.anythingKept ++ (wTr K jS jN jT ++ (wTw K jN aN RN.laws RN.kind RN.need RN.saved RN.voice RN.partner RN.speaks RN.count RN.day RN.heard RN.geese RN.z ++ (wTw K jT aT RT.laws RT.kind RT.need RT.saved RT.voice RT.partner RT.speaks RT.count RT.day RT.heard RT.geese RT.z ++ (wAq K 4 jG RG))))) sz) (ht_Qi D K (wHT K jX jN kX_kept jT jS kX_pairings kX_tape kX_telling kX_dayRows kX_deed jG kX_shelvedPerson kX_shelvedRow RX.anythingKept ++ (wTr K jS jN jT ++ (wTw K jN aN RN.laws RN.kind RN.need RN.saved RN.voice RN.partner RN.speaks RN.count RN.day RN.heard RN.geese RN.z ++ (wTw K jT aT RT.laws RT.kind RT.need RT.saved RT.voice RT.partner RT.speaks RT.count RT.day RT.heard RT.geese RT.z ++ (wAq K 4 jG RG))))) o (va_A (wHT K jX jN kX_kept jT jS kX_pairings kX_tape kX_telling kX_dayRows kX_deed jG kX_shelvedPerson kX_shelvedRow RX.anythingKept ++ (wTr K jS jN jT ++ (wTw K jN aN RN.laws RN.kind RN.need RN.saved RN.voice RN.partner RN.speaks RN.count RN.day RN.heard RN.geese RN.z ++ (wTw K jT aT RT.laws RT.kind RT.need RT.saved RT.voice RT.partner RT.speaks RT.count RT.day RT.heard RT.geese RT.z ++ (wAq K 4 jG RG))))) sz)) 0 0 (va_A (wHT K jX jN kX_kept jT jS kX_pairings kX_tape kX_telling kX_dayRows kX_deed jG kX_shelvedPerson kX_shelvedRow RX.anythingKept ++ (wTr K jS jN jT ++ (wTw K jN aN RN.laws RN.kind RN.need RN.saved RN.voice RN.partner RN.speaks RN.count RN.day RN.heard RN.geese RN.z ++ (wTw K jT aT RT.laws RT.kind RT.need RT.saved RT.voice RT.partner RT.speaks RT.count RT.day RT.heard RT.geese RT.z ++ (wAq K 4 jG RG))))) sz) := by
  refine ht_enter (Qf := ht_Qi D K (wHT K jX jN kX_kept jT jS kX_pairings kX_tape kX_telling kX_dayRows kX_deed jG kX_shelvedPerson kX_shelvedRow RX.anythingKept ++ (wTr K jS jN jT ++ (wTw K jN aN RN.laws RN.kind RN.need RN.saved RN.voice RN.partner RN.speaks RN.count RN.day RN.heard RN.geese RN.z ++ (wTw K jT aT RT.laws RT.kind RT.need RT.saved RT.voice RT.partner RT.speaks RT.count RT.day RT.heard RT.geese RT.z ++ (wAq K 4 jG RG))))) o) (cc := cX8_fits) (maxL := 5) (rt := (some .int)) (by decide) rfl (Nat.le_of_ble_eq_true rfl) ?_ sz
  intro p e s m below meth c A Q H locs ls hQ hx hb hr hlk hmn hml hown hts hA hK hP hD hS hl
  have hown : s.vm.findClass RX8 = some m.cls := hown
  have hF : CallFix p m c cX8_fits 5 s ([.ref jX, .int p0, .int p1, .int p2] : List Value).toArray wsX8_fits RX8 := ⟨hx, hb, hml, hown, hts⟩
  have hl : lv_has ls 5 [(0, .ref jX), (1, .int p0), (2, .int p1), (3, .int p2)] := hl
  have iw8 : ∀ w ∈ u_ws RX8 TX8 13, w ∈ wsX8_fits := by decide +kernel
  have kw1 := hts (.fieldLink RX8 10 "HeldTongues" "now" "LHeldTongues$Town;") (by decide +kernel)
  have kw2 := hts (.fieldLink RX8 72 "HeldTongues" "sheets" "[LHeldTongues$SheetRow;") (by decide +kernel)
  delta fX8_fits_n at hf
  refine lv_iload_n hx hb dX8_fits_0 rfl (lv_at hl 1 rfl) ?_
  obtain ⟨o_1, ho_1, hf⟩ := ht_bn_ob hf
  refine ht_callSi (r := o_1) (rest := []) (As := [.int p0]) (wc := []) (wr := (wHT K jX jN kX_kept jT jS kX_pairings kX_tape kX_telling kX_dayRows kX_deed jG kX_shelvedPerson kX_shelvedRow RX.anythingKept ++ (wTr K jS jN jT ++ (wTw K jN aN RN.laws RN.kind RN.need RN.saved RN.voice RN.partner RN.speaks RN.count RN.day RN.heard RN.geese RN.z ++ (wTw K jT aT RT.laws RT.kind RT.need RT.saved RT.voice RT.partner RT.speaks RT.count RT.day RT.heard RT.geese RT.z ++ (wAq K 4 jG RG)))))) (w1 := []) (w2 := (wHT K jX jN kX_kept jT jS kX_pairings kX_tape kX_telling kX_dayRows kX_deed jG kX_shelvedPerson kX_shelvedRow RX.anythingKept ++ (wTr K jS jN jT ++ (wTw K jN aN RN.laws RN.kind RN.need RN.saved RN.voice RN.partner RN.speaks RN.count RN.day RN.heard RN.geese RN.z ++ (wTw K jT aT RT.laws RT.kind RT.need RT.saved RT.voice RT.partner RT.speaks RT.count RT.day RT.heard RT.geese RT.z ++ (wAq K 4 jG RG)))))) hF (ctX8_isSheet l D K p0 o_1 ho_1 H.size) (va_cwS 1 hts gX8_fits_X8_isSheet rfl rfl rfl hdX8_isSheet ⟨Nat.le_of_ble_eq_true rfl, Nat.le_of_ble_eq_true rfl⟩) hK hP hD hS hA [] [0, 1, 2, 3, 4, 5, 6, 7, 8, 9, 10, 11, 12, 13, 14, 15, 16, 17, 18] rfl rfl (by decide) (by decide) (by decide) [0, 1, 2, 3, 4, 5, 6, 7, 8, 9, 10, 11, 12, 13, 14, 15, 16, 17, 18] rfl (by decide) rfl hl.1 rfl (Nat.le_of_ble_eq_true rfl) dX8_fits_1 ⟨Nat.zero_le _, Nat.zero_le _⟩ (fun H locs hP hD hS => ?_)
  refine lv_if_eq (tgt := 27) hx hb dX8_fits_4 (by decide) (fun c_2 => ?_) (fun c_2 => ?_)
  · replace hf := ht_t c_2 hf
    refine lv_iconst (v := -1) hx hb dX8_fits_27 (by decide) ?_
    have ho := Option.some.inj hf
    subst ho; subst hQ
    exact ht_iret hx hb hr hlk rfl hK hP hD hS dX8_fits_28
  · replace hf := ht_f c_2 hf
    refine lv_aload_n hx hb dX8_fits_7 rfl (lv_at hl 0 rfl) ?_
    refine va_get (D := D) (ci := 8) (v := .ref jN) (C := RX8) (T := TX8) (N := 13) hx hb hts iw8 hown hK hP 0 rfl rfl 0 (by decide) kw1 (fun _ h9 => h9) rfl dX8_fits_8 ?_
    refine lv_iload_n hx hb dX8_fits_11 rfl (lv_at hl 2 rfl) ?_
    obtain ⟨o_3, ho_3, hf⟩ := ht_bn_ob hf
    refine ht_callVi (r := o_3) (rest := []) (As := [.int p1]) (wc := (wTw K jN aN RN.laws RN.kind RN.need RN.saved RN.voice RN.partner RN.speaks RN.count RN.day RN.heard RN.geese RN.z)) (wr := (wHT K jX jN kX_kept jT jS kX_pairings kX_tape kX_telling kX_dayRows kX_deed jG kX_shelvedPerson kX_shelvedRow RX.anythingKept ++ (wTr K jS jN jT ++ (wTw K jT aT RT.laws RT.kind RT.need RT.saved RT.voice RT.partner RT.speaks RT.count RT.day RT.heard RT.geese RT.z ++ (wAq K 4 jG RG))))) (w1 := (wTw K jN aN RN.laws RN.kind RN.need RN.saved RN.voice RN.partner RN.speaks RN.count RN.day RN.heard RN.geese RN.z)) (w2 := (wHT K jX jN kX_kept jT jS kX_pairings kX_tape kX_telling kX_dayRows kX_deed jG kX_shelvedPerson kX_shelvedRow RX.anythingKept ++ (wTr K jS jN jT ++ (wTw K jN aN RN.laws RN.kind RN.need RN.saved RN.voice RN.partner RN.speaks RN.count RN.day RN.heard RN.geese RN.z ++ (wTw K jT aT RT.laws RT.kind RT.need RT.saved RT.voice RT.partner RT.speaks RT.count RT.day RT.heard RT.geese RT.z ++ (wAq K 4 jG RG)))))) hF (ctX6_has l D K jN aN RN p1 o_3 ho_3 H.size) (cwV 1 hts gX8_fits_X6_has rfl rfl rfl hdX6_has ⟨Nat.le_of_ble_eq_true rfl, Nat.le_of_ble_eq_true rfl⟩) hK hP hD hS hA [2, 3, 4, 5, 6, 7, 8, 9] [0, 1, 10, 11, 12, 13, 14, 15, 16, 17, 18] rfl rfl (by decide) (by decide) (by decide) [0, 1, 11, 12, 13, 14, 15, 16, 17, 18, 2, 3, 4, 5, 6, 7, 8, 9, 10] rfl (by decide) (va_recv hK hP (ci := 6) (q0 := 2) rfl rfl) rfl hl.1 rfl (Nat.le_of_ble_eq_true rfl) dX8_fits_12 ⟨Nat.zero_le _, Nat.zero_le _⟩ (fun H locs hP hD hS => ?_)
    refine lv_if_eq (tgt := 27) hx hb dX8_fits_15 (by decide) (fun c_4 => ?_) (fun c_4 => ?_)
    · replace hf := ht_t c_4 hf
      refine lv_iconst (v := -1) hx hb dX8_fits_27 (by decide) ?_
      have ho := Option.some.inj hf
      subst ho; subst hQ
      exact ht_iret hx hb hr hlk rfl hK hP hD hS dX8_fits_28
    · replace hf := ht_f c_4 hf
      refine lv_iload_n hx hb dX8_fits_18 rfl (lv_at hl 3 rfl) ?_
      refine lv_iconst (v := 0) hx hb dX8_fits_19 (by decide) ?_
      refine lv_iconst (v := 1) hx hb dX8_fits_20 (by decide) ?_
      obtain ⟨o_5, ho_5, hf⟩ := ht_bn_ob hf
      refine ht_callSi (r := o_5) (rest := []) (As := [.int p2, .int (0 : Int32), .int (1 : Int32)]) (wc := []) (wr := (wHT K jX jN kX_kept jT jS kX_pairings kX_tape kX_telling kX_dayRows kX_deed jG kX_shelvedPerson kX_shelvedRow RX.anythingKept ++ (wTr K jS jN jT ++ (wTw K jN aN RN.laws RN.kind RN.need RN.saved RN.voice RN.partner RN.speaks RN.count RN.day RN.heard RN.geese RN.z ++ (wTw K jT aT RT.laws RT.kind RT.need RT.saved RT.voice RT.partner RT.speaks RT.count RT.day RT.heard RT.geese RT.z ++ (wAq K 4 jG RG)))))) (w1 := []) (w2 := (wHT K jX jN kX_kept jT jS kX_pairings kX_tape kX_telling kX_dayRows kX_deed jG kX_shelvedPerson kX_shelvedRow RX.anythingKept ++ (wTr K jS jN jT ++ (wTw K jN aN RN.laws RN.kind RN.need RN.saved RN.voice RN.partner RN.speaks RN.count RN.day RN.heard RN.geese RN.z ++ (wTw K jT aT RT.laws RT.kind RT.need RT.saved RT.voice RT.partner RT.speaks RT.count RT.day RT.heard RT.geese RT.z ++ (wAq K 4 jG RG)))))) hF (ctX8_within l D K p2 (0 : Int32) (1 : Int32) o_5 ho_5 H.size) (va_cwS 3 hts gX8_fits_X8_within rfl rfl rfl hdX8_within ⟨Nat.le_of_ble_eq_true rfl, Nat.le_of_ble_eq_true rfl⟩) hK hP hD hS hA [] [0, 1, 2, 3, 4, 5, 6, 7, 8, 9, 10, 11, 12, 13, 14, 15, 16, 17, 18] rfl rfl (by decide) (by decide) (by decide) [0, 1, 2, 3, 4, 5, 6, 7, 8, 9, 10, 11, 12, 13, 14, 15, 16, 17, 18] rfl (by decide) rfl hl.1 rfl (Nat.le_of_ble_eq_true rfl) dX8_fits_21 ⟨Nat.zero_le _, Nat.zero_le _⟩ (fun H locs hP hD hS => ?_)
      refine lv_if_ne (tgt := 29) hx hb dX8_fits_24 (by decide) (fun c_6 => ?_) (fun c_6 => ?_)
      · replace hf := ht_f c_6 hf
        refine lv_aload_n hx hb dX8_fits_29 rfl (lv_at hl 0 rfl) ?_
        refine va_get (D := D) (ci := 8) (v := .ref jG) (C := RX8) (T := TX8) (N := 13) hx hb hts iw8 hown hK hP 0 rfl rfl 9 (by decide) kw2 (fun _ h9 => h9) rfl dX8_fits_30 ?_
        refine lv_iload_n hx hb dX8_fits_33 rfl (lv_at hl 1 rfl) ?_
        obtain ⟨g_7, hf⟩ := ht_gd_ob hf
        obtain ⟨g_8, hf⟩ := ht_gd_ob hf
        refine va_aldq hx hb hK hP 18 4 rfl rfl (ht_ix_in g_7) dX8_fits_34 ?_
        refine W.eq (g2 := F0 m 35 ls [.null]) (by rw [of_decide_eq_true g_8]; rfl) ?_
        refine lv_astoreN (lv' := [(4, .null), (0, .ref jX), (1, .int p0), (2, .int p1), (3, .int p2)]) hx hb dX8_fits_35 hl (by decide) rfl (fun ls hl => ?_)
        refine lv_aloadN hx hb dX8_fits_37 (lv_at hl 0 rfl) ?_
        refine lv_ifnonnullN hx hb dX8_fits_39 ?_
        refine lv_bipush (v := -11) hx hb dX8_fits_42 (by decide) ?_
        have ho := Option.some.inj hf
        subst ho; subst hQ
        exact ht_iret hx hb hr hlk rfl hK hP hD hS dX8_fits_44
      · replace hf := ht_t c_6 hf
        refine lv_iconst (v := -1) hx hb dX8_fits_27 (by decide) ?_
        have ho := Option.some.inj hf
        subst ho; subst hQ
        exact ht_iret hx hb hr hlk rfl hK hP hD hS dX8_fits_28
abbrev rmX8_minds_s : Room := { frames := 2, cells := 0, slots := 0, locals := 42 }
theorem hdX8_minds : yX8_minds.cls = RX8 ∧ yX8_minds.cls ≠ "java/lang/invoke/MethodHandle" ∧ yX8_minds.cls ≠ "java/lang/invoke/VarHandle" ∧ (parseMethodDescriptor yX8_minds.desc).map (fun d => d.parameters.length) = some 4 := by decide +kernel
def fX8_minds_s_b154 (jW : Nat) (RX : HTV) (RN : TownV) (RG : AQ) (RW : RowV) (x4 : Int32) (vN_need : AI) : Option (Int32 × AI) := some (x4, vN_need)
def fX8_minds_s_b105 (jW : Nat) (RX : HTV) (RN : TownV) (RG : AQ) (RW : RowV) (k105 : Int32 → Int32 → Int32 → Int32 → AI → Option (Int32 × AI)) (x2 : Int32) (x3 : Int32) (x4 : Int32) (x6 : Int32) (vN_need : AI) : Option (Int32 × AI) := if x4 ≤ x6 then (fX8_minds_s_b154 jW RX RN RG RW x4 vN_need) else (ht_gd (ht_ix (x2 + x6) RW.len) (ht_nm ((RW.items (x2 + x6).toNatClampNeg).toInt32) (fun x7_3 => ht_gd (ht_ix (x3 + x6) 8) (ht_nm (upd vN_need (x3 + x6).toNatClampNeg (if (0 : Int32) < (if x7_3 < (99 : Int32) then x7_3 else (99 : Int32)) then (if x7_3 < (99 : Int32) then x7_3 else (99 : Int32)) else (0 : Int32))) (fun vN_need_5 => ht_nm (x6 + (1 : Int32)) (fun x6_6 => k105 x2 x3 x4 x6_6 vN_need_5))))))
def fX8_minds_s (jW : Nat) (RX : HTV) (RN : TownV) (RG : AQ) (RW : RowV) (p0 : Int32) (p1 : Int32) (p2 : Int32) (p3 : Int32) : Option (Int32 × AI) := ht_bn (fX8_isSheet p0) (fun o_7 => if o_7 = 0 then (some ((-1 : Int32), RN.need)) else (ht_bn (fX6_has RN p2) (fun o_9 => if o_9 = 0 then (some ((-1 : Int32), RN.need)) else (ht_bn (fX8_within p3 (0 : Int32) (8 : Int32)) (fun o_11 => if o_11 = 0 then (some ((-1 : Int32), RN.need)) else (if (p2 + p3) ≤ RN.count then (ht_gd (ht_ix p0 4) (ht_gd (decide (RG p0.toNatClampNeg = some jW)) (if RW.sort = 0 then (ht_bn (fX8_within p1 (0 : Int32) (Int32.ofNat RW.len)) (fun o_17 => if o_17 = 0 then (some ((-12 : Int32), RN.need)) else (if p3 ≤ ((Int32.ofNat RW.len) - p1) then (ht_lp5 (fX8_minds_s_b105 jW RX RN RG RW) FU p1 p2 p3 (0 : Int32) RN.need) else (some ((-12 : Int32), RN.need))))) else (some ((-13 : Int32), RN.need))))) else (some ((-1 : Int32), RN.need))))))))
set_option maxHeartbeats 1000000 in
set_option maxRecDepth 100000 in
theorem ctX8_minds_s (l : Launch) (D : va_G) (K : Nat → ClassId) (jX : Nat) (jN : Nat) (aN : Nat → Nat) (jG : Nat) (jW : Nat) (aW : Nat → Nat) (kX_kept : Nat) (kX_tried : Nat) (kX_trials : Nat) (kX_pairings : Nat) (kX_tape : Nat) (kX_telling : Nat) (kX_dayRows : Nat) (kX_deed : Nat) (kX_shelvedPerson : Nat) (kX_shelvedRow : Nat) (RX : HTV) (RN : TownV) (RG : AQ) (RW : RowV) (p0 : Int32) (p1 : Int32) (p2 : Int32) (p3 : Int32) (o : (Int32 × AI)) (hf : fX8_minds_s jW RX RN RG RW p0 p1 p2 p3 = some o) (sz : Nat) : Met l yX8_minds wsX8_minds rmX8_minds_s (ht_Pre D K [.ref jX, .int p0, .int p1, .int p2, .int p3] (wHT K jX jN kX_kept kX_tried kX_trials kX_pairings kX_tape kX_telling kX_dayRows kX_deed jG kX_shelvedPerson kX_shelvedRow RX.anythingKept ++ (wTw K jN aN RN.laws RN.kind RN.need RN.saved RN.voice RN.partner RN.speaks RN.count RN.day RN.heard RN.geese RN.z ++ (wAq K 4 jG RG ++ (wRo K jW aW RW.sort RW.items RW.len)))) sz) (ht_Qi D K (wHT K jX jN kX_kept kX_tried kX_trials kX_pairings kX_tape kX_telling kX_dayRows kX_deed jG kX_shelvedPerson kX_shelvedRow RX.anythingKept ++ (wTw K jN aN RN.laws RN.kind o.2 RN.saved RN.voice RN.partner RN.speaks RN.count RN.day RN.heard RN.geese RN.z ++ (wAq K 4 jG RG ++ (wRo K jW aW RW.sort RW.items RW.len)))) o.1 (va_A (wHT K jX jN kX_kept kX_tried kX_trials kX_pairings kX_tape kX_telling kX_dayRows kX_deed jG kX_shelvedPerson kX_shelvedRow RX.anythingKept ++ (wTw K jN aN RN.laws RN.kind RN.need RN.saved RN.voice RN.partner RN.speaks RN.count RN.day RN.heard RN.geese RN.z ++ (wAq K 4 jG RG ++ (wRo K jW aW RW.sort RW.items RW.len)))) sz)) 0 0 (va_A (wHT K jX jN kX_kept kX_tried kX_trials kX_pairings kX_tape kX_telling kX_dayRows kX_deed jG kX_shelvedPerson kX_shelvedRow RX.anythingKept ++ (wTw K jN aN RN.laws RN.kind RN.need RN.saved RN.voice RN.partner RN.speaks RN.count RN.day RN.heard RN.geese RN.z ++ (wAq K 4 jG RG ++ (wRo K jW aW RW.sort RW.items RW.len)))) sz) := by
  refine ht_enter (Qf := ht_Qi D K (wHT K jX jN kX_kept kX_tried kX_trials kX_pairings kX_tape kX_telling kX_dayRows kX_deed jG kX_shelvedPerson kX_shelvedRow RX.anythingKept ++ (wTw K jN aN RN.laws RN.kind o.2 RN.saved RN.voice RN.partner RN.speaks RN.count RN.day RN.heard RN.geese RN.z ++ (wAq K 4 jG RG ++ (wRo K jW aW RW.sort RW.items RW.len)))) o.1) (cc := cX8_minds) (maxL := 8) (rt := (some .int)) (by decide) rfl (Nat.le_of_ble_eq_true rfl) ?_ sz
  intro p e s m below meth c A Q H locs ls hQ hx hb hr hlk hmn hml hown hts hA hK hP hD hS hl
  have hown : s.vm.findClass RX8 = some m.cls := hown
  have hF : CallFix p m c cX8_minds 8 s ([.ref jX, .int p0, .int p1, .int p2, .int p3] : List Value).toArray wsX8_minds RX8 := ⟨hx, hb, hml, hown, hts⟩
  have hl : lv_has ls 8 [(0, .ref jX), (1, .int p0), (2, .int p1), (3, .int p2), (4, .int p3)] := hl
  have iw3 : ∀ w ∈ u_ws RX3 TX3 2, w ∈ wsX8_minds := by decide +kernel
  have kw1 := hts (.fieldLink RX8 281 "HeldTongues$SheetRow" "items" "[J") (by decide +kernel)
  have iw8 : ∀ w ∈ u_ws RX8 TX8 13, w ∈ wsX8_minds := by decide +kernel
  have kw3 := hts (.fieldLink RX8 10 "HeldTongues" "now" "LHeldTongues$Town;") (by decide +kernel)
  have iw6 : ∀ w ∈ u_ws RX6 TX6 12, w ∈ wsX8_minds := by decide +kernel
  have kw5 := hts (.fieldLink RX8 142 "HeldTongues$Town" "need" "[I") (by decide +kernel)
  have kw6 := hts (.methodLink RX8 175 Lib.Math.min.name) (by decide +kernel)
  have kw7 := hts (.static Lib.Math.min.name) (by decide +kernel)
  have kw8 := hts (.initialized "java/lang/Math") (by decide +kernel)
  have kw9 := hts (.code Lib.Math.min.name Lib.Math.min.code 2 (some .int)) (by decide +kernel)
  have kw10 := hts (.methodLink RX8 285 Lib.Math.max.name) (by decide +kernel)
  have kw11 := hts (.static Lib.Math.max.name) (by decide +kernel)
  have kw12 := hts (.code Lib.Math.max.name Lib.Math.max.code 2 (some .int)) (by decide +kernel)
  have kw13 := hts (.fieldLink RX8 114 "HeldTongues$Town" "count" "I") (by decide +kernel)
  have kw14 := hts (.fieldLink RX8 72 "HeldTongues" "sheets" "[LHeldTongues$SheetRow;") (by decide +kernel)
  have kw15 := hts (.fieldLink RX8 278 "HeldTongues$SheetRow" "sort" "I") (by decide +kernel)
  have b154 : ∀ (x4 : Int32) (vN_need : AI) (H : Heap) (locs : List Loc) (ls : Array Slot), fX8_minds_s_b154 jW RX RN RG RW x4 vN_need = some o → va_P D vwCl (wHT K jX jN kX_kept kX_tried kX_trials kX_pairings kX_tape kX_telling kX_dayRows kX_deed jG kX_shelvedPerson kX_shelvedRow RX.anythingKept ++ (wTw K jN aN RN.laws RN.kind vN_need RN.saved RN.voice RN.partner RN.speaks RN.count RN.day RN.heard RN.geese RN.z ++ (wAq K 4 jG RG ++ (wRo K jW aW RW.sort RW.items RW.len)))) H → va_D A (wHT K jX jN kX_kept kX_tried kX_trials kX_pairings kX_tape kX_telling kX_dayRows kX_deed jG kX_shelvedPerson kX_shelvedRow RX.anythingKept ++ (wTw K jN aN RN.laws RN.kind vN_need RN.saved RN.voice RN.partner RN.speaks RN.count RN.day RN.heard RN.geese RN.z ++ (wAq K 4 jG RG ++ (wRo K jW aW RW.sort RW.items RW.len)))) → va_S A s.heap H locs → lv_has ls 8 [(4, .int x4)] → W p l e (headSpec wsX8_minds rmX8_minds_s).room s m ([.ref jX, .int p0, .int p1, .int p2, .int p3] : List Value).toArray below meth c H locs 0 0 Q (F0 m 154 ls []) := by
    intro x4 vN_need H locs ls hf hP hD hS hl
    delta fX8_minds_s_b154 at hf
    refine lv_iload hx hb dX8_minds_154 (lv_at hl 0 rfl) ?_
    have ho := Option.some.inj hf
    subst ho; subst hQ
    exact ht_iret hx hb hr hlk rfl hK hP hD hS dX8_minds_156
  have b105 : ∀ (n : Nat) (x2 : Int32) (x3 : Int32) (x4 : Int32) (x6 : Int32) (vN_need : AI) (H : Heap) (locs : List Loc) (ls : Array Slot), ht_lp5 (fX8_minds_s_b105 jW RX RN RG RW) n x2 x3 x4 x6 vN_need = some o → va_P D vwCl (wHT K jX jN kX_kept kX_tried kX_trials kX_pairings kX_tape kX_telling kX_dayRows kX_deed jG kX_shelvedPerson kX_shelvedRow RX.anythingKept ++ (wTw K jN aN RN.laws RN.kind vN_need RN.saved RN.voice RN.partner RN.speaks RN.count RN.day RN.heard RN.geese RN.z ++ (wAq K 4 jG RG ++ (wRo K jW aW RW.sort RW.items RW.len)))) H → va_D A (wHT K jX jN kX_kept kX_tried kX_trials kX_pairings kX_tape kX_telling kX_dayRows kX_deed jG kX_shelvedPerson kX_shelvedRow RX.anythingKept ++ (wTw K jN aN RN.laws RN.kind vN_need RN.saved RN.voice RN.partner RN.speaks RN.count RN.day RN.heard RN.geese RN.z ++ (wAq K 4 jG RG ++ (wRo K jW aW RW.sort RW.items RW.len)))) → va_S A s.heap H locs → lv_has ls 8 [(0, .ref jX), (2, .int x2), (3, .int x3), (4, .int x4), (5, .ref jW), (6, .int x6)] → W p l e (headSpec wsX8_minds rmX8_minds_s).room s m ([.ref jX, .int p0, .int p1, .int p2, .int p3] : List Value).toArray below meth c H locs 0 0 Q (F0 m 105 ls []) := by
    intro n
    induction n with
    | zero =>
      intro x2 x3 x4 x6 vN_need H locs ls hf hP hD hS hl
      cases (show (none : Option (Int32 × AI)) = some o from hf)
    | succ n hk105 =>
      intro x2 x3 x4 x6 vN_need H locs ls hf hP hD hS hl
      replace hf : fX8_minds_s_b105 jW RX RN RG RW (ht_lp5 (fX8_minds_s_b105 jW RX RN RG RW) n) x2 x3 x4 x6 vN_need = some o := hf
      delta fX8_minds_s_b105 at hf
      refine lv_iload hx hb dX8_minds_105 (lv_at hl 5 rfl) ?_
      refine lv_iload hx hb dX8_minds_107 (lv_at hl 3 rfl) ?_
      refine lv_icmp_ge (tgt := 154) hx hb dX8_minds_109 (by decide) (fun c_1 => ?_) (fun c_1 => ?_)
      · replace hf := ht_t c_1 hf
        exact b154  x4 vN_need _ _ _ hf hP hD hS (lv_sub hl [3] rfl)
      · replace hf := ht_f c_1 hf
        refine lv_aload hx hb dX8_minds_112 (lv_at hl 4 rfl) ?_
        refine va_get (D := D) (ci := 3) (v := .ref (aW 0)) (C := RX3) (T := TX3) (N := 2) hx hb hts iw3 hown hK hP 10 rfl rfl 1 (by decide) kw1 (fun _ h9 => h9) rfl dX8_minds_114 ?_
        refine lv_iload_n hx hb dX8_minds_117 rfl (lv_at hl 1 rfl) ?_
        refine lv_iload hx hb dX8_minds_118 (lv_at hl 5 rfl) ?_
        refine lv_iadd hx hb dX8_minds_120 ?_
        obtain ⟨g_2, hf⟩ := ht_gd_ob hf
        refine va_lald hx hb hK hP 11 2 rfl rfl (ht_ix_in g_2) dX8_minds_121 ?_
        refine lv_l2i hx hb dX8_minds_122 rfl ?_
        obtain ⟨x7_3, ex7_3, hf⟩ := ht_nm_ob hf
        rw [← ex7_3]
        refine lv_istore (lv' := [(7, .int x7_3), (0, .ref jX), (2, .int x2), (3, .int x3), (4, .int x4), (5, .ref jW), (6, .int x6)]) hx hb dX8_minds_123 hl (by decide) rfl (fun ls hl => ?_)
        refine lv_aload_n hx hb dX8_minds_125 rfl (lv_at hl 1 rfl) ?_
        refine va_get (D := D) (ci := 8) (v := .ref jN) (C := RX8) (T := TX8) (N := 13) hx hb hts iw8 hown hK hP 0 rfl rfl 0 (by decide) kw3 (fun _ h9 => h9) rfl dX8_minds_126 ?_
        refine va_get (D := D) (ci := 6) (v := .ref (aN 2)) (C := RX6) (T := TX6) (N := 12) hx hb hts iw6 hown hK hP 1 rfl rfl 2 (by decide) kw5 (fun _ h9 => h9) rfl dX8_minds_129 ?_
        refine lv_iload_n hx hb dX8_minds_132 rfl (lv_at hl 3 rfl) ?_
        refine lv_iload hx hb dX8_minds_133 (lv_at hl 6 rfl) ?_
        refine lv_iadd hx hb dX8_minds_135 ?_
        refine lv_iconst (v := 0) hx hb dX8_minds_136 (by decide) ?_
        refine lv_bipush (v := 99) hx hb dX8_minds_137 (by decide) ?_
        refine lv_iload hx hb dX8_minds_139 (lv_at hl 0 rfl) ?_
        refine va_mmin hx hb (by rw [hml]; exact hl.1.symm) hown kw6 kw7 kw8 kw9 (Nat.le_of_ble_eq_true rfl) (Nat.le_of_ble_eq_true rfl) (Nat.zero_le _) (Nat.zero_le _) dX8_minds_141 ?_
        refine va_mmax hx hb (by rw [hml]; exact hl.1.symm) hown kw10 kw11 kw8 kw12 (Nat.le_of_ble_eq_true rfl) (Nat.le_of_ble_eq_true rfl) (Nat.zero_le _) (Nat.zero_le _) dX8_minds_144 ?_
        obtain ⟨g_4, hf⟩ := ht_gd_ob hf
        obtain ⟨vN_need_5, evN_need_5, hf⟩ := ht_nm_ob hf
        refine ht_iast (w2 := (wHT K jX jN kX_kept kX_tried kX_trials kX_pairings kX_tape kX_telling kX_dayRows kX_deed jG kX_shelvedPerson kX_shelvedRow RX.anythingKept ++ (wTw K jN aN RN.laws RN.kind vN_need_5 RN.saved RN.voice RN.partner RN.speaks RN.count RN.day RN.heard RN.geese RN.z ++ (wAq K 4 jG RG ++ (wRo K jW aW RW.sort RW.items RW.len))))) hx hb hK hP hD hS 4 1 rfl rfl g_4 dX8_minds_147 evN_need_5 rfl (fun H locs hP hD hS => ?_)
        obtain ⟨x6_6, ex6_6, hf⟩ := ht_nm_ob hf
        refine lv_iinc (v := x6_6) (lv' := [(6, .int x6_6), (7, .int x7_3), (0, .ref jX), (2, .int x2), (3, .int x3), (4, .int x4), (5, .ref jW)]) hx hb dX8_minds_148 hl (k := 6) rfl (by rw [ex6_6]; rfl) (by decide) rfl (fun ls hl => ?_)
        refine lv_goto (tgt := 105) hx hb dX8_minds_151 (by decide) ?_
        exact hk105 x2 x3 x4 x6_6 vN_need_5 _ _ _ hf hP hD hS (lv_sub hl [2, 3, 4, 5, 6, 0] rfl)
  delta fX8_minds_s at hf
  refine lv_iload_n hx hb dX8_minds_0 rfl (lv_at hl 1 rfl) ?_
  obtain ⟨o_7, ho_7, hf⟩ := ht_bn_ob hf
  refine ht_callSi (r := o_7) (rest := []) (As := [.int p0]) (wc := []) (wr := (wHT K jX jN kX_kept kX_tried kX_trials kX_pairings kX_tape kX_telling kX_dayRows kX_deed jG kX_shelvedPerson kX_shelvedRow RX.anythingKept ++ (wTw K jN aN RN.laws RN.kind RN.need RN.saved RN.voice RN.partner RN.speaks RN.count RN.day RN.heard RN.geese RN.z ++ (wAq K 4 jG RG ++ (wRo K jW aW RW.sort RW.items RW.len))))) (w1 := []) (w2 := (wHT K jX jN kX_kept kX_tried kX_trials kX_pairings kX_tape kX_telling kX_dayRows kX_deed jG kX_shelvedPerson kX_shelvedRow RX.anythingKept ++ (wTw K jN aN RN.laws RN.kind RN.need RN.saved RN.voice RN.partner RN.speaks RN.count RN.day RN.heard RN.geese RN.z ++ (wAq K 4 jG RG ++ (wRo K jW aW RW.sort RW.items RW.len))))) hF (ctX8_isSheet l D K p0 o_7 ho_7 H.size) (va_cwS 1 hts gX8_minds_X8_isSheet rfl rfl rfl hdX8_isSheet ⟨Nat.le_of_ble_eq_true rfl, Nat.le_of_ble_eq_true rfl⟩) hK hP hD hS hA [] [0, 1, 2, 3, 4, 5, 6, 7, 8, 9, 10, 11] rfl rfl (by decide) (by decide) (by decide) [0, 1, 2, 3, 4, 5, 6, 7, 8, 9, 10, 11] rfl (by decide) rfl hl.1 rfl (Nat.le_of_ble_eq_true rfl) dX8_minds_1 ⟨Nat.zero_le _, Nat.zero_le _⟩ (fun H locs hP hD hS => ?_)
  refine lv_if_eq (tgt := 43) hx hb dX8_minds_4 (by decide) (fun c_8 => ?_) (fun c_8 => ?_)
  · replace hf := ht_t c_8 hf
    refine lv_iconst (v := -1) hx hb dX8_minds_43 (by decide) ?_
    have ho := Option.some.inj hf
    subst ho; subst hQ
    exact ht_iret hx hb hr hlk rfl hK hP hD hS dX8_minds_44
  · replace hf := ht_f c_8 hf
    refine lv_aload_n hx hb dX8_minds_7 rfl (lv_at hl 0 rfl) ?_
    refine va_get (D := D) (ci := 8) (v := .ref jN) (C := RX8) (T := TX8) (N := 13) hx hb hts iw8 hown hK hP 0 rfl rfl 0 (by decide) kw3 (fun _ h9 => h9) rfl dX8_minds_8 ?_
    refine lv_iload_n hx hb dX8_minds_11 rfl (lv_at hl 3 rfl) ?_
    obtain ⟨o_9, ho_9, hf⟩ := ht_bn_ob hf
    refine ht_callVi (r := o_9) (rest := []) (As := [.int p2]) (wc := (wTw K jN aN RN.laws RN.kind RN.need RN.saved RN.voice RN.partner RN.speaks RN.count RN.day RN.heard RN.geese RN.z)) (wr := (wHT K jX jN kX_kept kX_tried kX_trials kX_pairings kX_tape kX_telling kX_dayRows kX_deed jG kX_shelvedPerson kX_shelvedRow RX.anythingKept ++ (wAq K 4 jG RG ++ (wRo K jW aW RW.sort RW.items RW.len)))) (w1 := (wTw K jN aN RN.laws RN.kind RN.need RN.saved RN.voice RN.partner RN.speaks RN.count RN.day RN.heard RN.geese RN.z)) (w2 := (wHT K jX jN kX_kept kX_tried kX_trials kX_pairings kX_tape kX_telling kX_dayRows kX_deed jG kX_shelvedPerson kX_shelvedRow RX.anythingKept ++ (wTw K jN aN RN.laws RN.kind RN.need RN.saved RN.voice RN.partner RN.speaks RN.count RN.day RN.heard RN.geese RN.z ++ (wAq K 4 jG RG ++ (wRo K jW aW RW.sort RW.items RW.len))))) hF (ctX6_has l D K jN aN RN p2 o_9 ho_9 H.size) (cwV 1 hts gX8_minds_X6_has rfl rfl rfl hdX6_has ⟨Nat.le_of_ble_eq_true rfl, Nat.le_of_ble_eq_true rfl⟩) hK hP hD hS hA [1, 2, 3, 4, 5, 6, 7, 8] [0, 9, 10, 11] rfl rfl (by decide) (by decide) (by decide) [0, 4, 5, 6, 7, 8, 9, 10, 11, 1, 2, 3] rfl (by decide) (va_recv hK hP (ci := 6) (q0 := 1) rfl rfl) rfl hl.1 rfl (Nat.le_of_ble_eq_true rfl) dX8_minds_12 ⟨Nat.zero_le _, Nat.zero_le _⟩ (fun H locs hP hD hS => ?_)
    refine lv_if_eq (tgt := 43) hx hb dX8_minds_15 (by decide) (fun c_10 => ?_) (fun c_10 => ?_)
    · replace hf := ht_t c_10 hf
      refine lv_iconst (v := -1) hx hb dX8_minds_43 (by decide) ?_
      have ho := Option.some.inj hf
      subst ho; subst hQ
      exact ht_iret hx hb hr hlk rfl hK hP hD hS dX8_minds_44
    · replace hf := ht_f c_10 hf
      refine lv_iload hx hb dX8_minds_18 (lv_at hl 4 rfl) ?_
      refine lv_iconst (v := 0) hx hb dX8_minds_20 (by decide) ?_
      refine lv_bipush (v := 8) hx hb dX8_minds_21 (by decide) ?_
      obtain ⟨o_11, ho_11, hf⟩ := ht_bn_ob hf
      refine ht_callSi (r := o_11) (rest := []) (As := [.int p3, .int (0 : Int32), .int (8 : Int32)]) (wc := []) (wr := (wHT K jX jN kX_kept kX_tried kX_trials kX_pairings kX_tape kX_telling kX_dayRows kX_deed jG kX_shelvedPerson kX_shelvedRow RX.anythingKept ++ (wTw K jN aN RN.laws RN.kind RN.need RN.saved RN.voice RN.partner RN.speaks RN.count RN.day RN.heard RN.geese RN.z ++ (wAq K 4 jG RG ++ (wRo K jW aW RW.sort RW.items RW.len))))) (w1 := []) (w2 := (wHT K jX jN kX_kept kX_tried kX_trials kX_pairings kX_tape kX_telling kX_dayRows kX_deed jG kX_shelvedPerson kX_shelvedRow RX.anythingKept ++ (wTw K jN aN RN.laws RN.kind RN.need RN.saved RN.voice RN.partner RN.speaks RN.count RN.day RN.heard RN.geese RN.z ++ (wAq K 4 jG RG ++ (wRo K jW aW RW.sort RW.items RW.len))))) hF (ctX8_within l D K p3 (0 : Int32) (8 : Int32) o_11 ho_11 H.size) (va_cwS 3 hts gX8_minds_X8_within rfl rfl rfl hdX8_within ⟨Nat.le_of_ble_eq_true rfl, Nat.le_of_ble_eq_true rfl⟩) hK hP hD hS hA [] [0, 1, 2, 3, 4, 5, 6, 7, 8, 9, 10, 11] rfl rfl (by decide) (by decide) (by decide) [0, 1, 2, 3, 4, 5, 6, 7, 8, 9, 10, 11] rfl (by decide) rfl hl.1 rfl (Nat.le_of_ble_eq_true rfl) dX8_minds_23 ⟨Nat.zero_le _, Nat.zero_le _⟩ (fun H locs hP hD hS => ?_)
      refine lv_if_eq (tgt := 43) hx hb dX8_minds_26 (by decide) (fun c_12 => ?_) (fun c_12 => ?_)
      · replace hf := ht_t c_12 hf
        refine lv_iconst (v := -1) hx hb dX8_minds_43 (by decide) ?_
        have ho := Option.some.inj hf
        subst ho; subst hQ
        exact ht_iret hx hb hr hlk rfl hK hP hD hS dX8_minds_44
      · replace hf := ht_f c_12 hf
        refine lv_iload_n hx hb dX8_minds_29 rfl (lv_at hl 3 rfl) ?_
        refine lv_iload hx hb dX8_minds_30 (lv_at hl 4 rfl) ?_
        refine lv_iadd hx hb dX8_minds_32 ?_
        refine lv_aload_n hx hb dX8_minds_33 rfl (lv_at hl 0 rfl) ?_
        refine va_get (D := D) (ci := 8) (v := .ref jN) (C := RX8) (T := TX8) (N := 13) hx hb hts iw8 hown hK hP 0 rfl rfl 0 (by decide) kw3 (fun _ h9 => h9) rfl dX8_minds_34 ?_
        refine va_get (D := D) (ci := 6) (v := .int RN.count) (C := RX6) (T := TX6) (N := 12) hx hb hts iw6 hown hK hP 1 rfl rfl 7 (by decide) kw13 (fun _ h9 => h9) rfl dX8_minds_37 ?_
        refine lv_icmp_le (tgt := 45) hx hb dX8_minds_40 (by decide) (fun c_13 => ?_) (fun c_13 => ?_)
        · replace hf := ht_t c_13 hf
          refine lv_aload_n hx hb dX8_minds_45 rfl (lv_at hl 0 rfl) ?_
          refine va_get (D := D) (ci := 8) (v := .ref jG) (C := RX8) (T := TX8) (N := 13) hx hb hts iw8 hown hK hP 0 rfl rfl 9 (by decide) kw14 (fun _ h9 => h9) rfl dX8_minds_46 ?_
          refine lv_iload_n hx hb dX8_minds_49 rfl (lv_at hl 1 rfl) ?_
          obtain ⟨g_14, hf⟩ := ht_gd_ob hf
          obtain ⟨g_15, hf⟩ := ht_gd_ob hf
          refine va_aldq hx hb hK hP 9 4 rfl rfl (ht_ix_in g_14) dX8_minds_50 ?_
          refine W.eq (g2 := F0 m 51 ls [.ref jW]) (by rw [of_decide_eq_true g_15]; rfl) ?_
          refine lv_astore (lv' := [(5, .ref jW), (0, .ref jX), (1, .int p0), (2, .int p1), (3, .int p2), (4, .int p3)]) hx hb dX8_minds_51 hl (by decide) rfl (fun ls hl => ?_)
          refine lv_aload hx hb dX8_minds_53 (lv_at hl 0 rfl) ?_
          refine lv_ifnonnull (tgt := 61) hx hb dX8_minds_55 (by decide) ?_
          refine lv_aload hx hb dX8_minds_61 (lv_at hl 0 rfl) ?_
          refine va_get (D := D) (ci := 3) (v := .int RW.sort) (C := RX3) (T := TX3) (N := 2) hx hb hts iw3 hown hK hP 10 rfl rfl 0 (by decide) kw15 (fun _ h9 => h9) rfl dX8_minds_63 ?_
          refine lv_if_eq (tgt := 72) hx hb dX8_minds_66 (by decide) (fun c_16 => ?_) (fun c_16 => ?_)
          · replace hf := ht_t c_16 hf
            refine lv_iload_n hx hb dX8_minds_72 rfl (lv_at hl 3 rfl) ?_
            refine lv_iconst (v := 0) hx hb dX8_minds_73 (by decide) ?_
            refine lv_aload hx hb dX8_minds_74 (lv_at hl 0 rfl) ?_
            refine va_get (D := D) (ci := 3) (v := .ref (aW 0)) (C := RX3) (T := TX3) (N := 2) hx hb hts iw3 hown hK hP 10 rfl rfl 1 (by decide) kw1 (fun _ h9 => h9) rfl dX8_minds_76 ?_
            refine va_alen (v := (Int32.ofNat RW.len)) hx hb hK hP 11 2 rfl rfl rfl dX8_minds_79 ?_
            obtain ⟨o_17, ho_17, hf⟩ := ht_bn_ob hf
            refine ht_callSi (r := o_17) (rest := []) (As := [.int p1, .int (0 : Int32), .int (Int32.ofNat RW.len)]) (wc := []) (wr := (wHT K jX jN kX_kept kX_tried kX_trials kX_pairings kX_tape kX_telling kX_dayRows kX_deed jG kX_shelvedPerson kX_shelvedRow RX.anythingKept ++ (wTw K jN aN RN.laws RN.kind RN.need RN.saved RN.voice RN.partner RN.speaks RN.count RN.day RN.heard RN.geese RN.z ++ (wAq K 4 jG RG ++ (wRo K jW aW RW.sort RW.items RW.len))))) (w1 := []) (w2 := (wHT K jX jN kX_kept kX_tried kX_trials kX_pairings kX_tape kX_telling kX_dayRows kX_deed jG kX_shelvedPerson kX_shelvedRow RX.anythingKept ++ (wTw K jN aN RN.laws RN.kind RN.need RN.saved RN.voice RN.partner RN.speaks RN.count RN.day RN.heard RN.geese RN.z ++ (wAq K 4 jG RG ++ (wRo K jW aW RW.sort RW.items RW.len))))) hF (ctX8_within l D K p1 (0 : Int32) (Int32.ofNat RW.len) o_17 ho_17 H.size) (va_cwS 3 hts gX8_minds_X8_within rfl rfl rfl hdX8_within ⟨Nat.le_of_ble_eq_true rfl, Nat.le_of_ble_eq_true rfl⟩) hK hP hD hS hA [] [0, 1, 2, 3, 4, 5, 6, 7, 8, 9, 10, 11] rfl rfl (by decide) (by decide) (by decide) [0, 1, 2, 3, 4, 5, 6, 7, 8, 9, 10, 11] rfl (by decide) rfl hl.1 rfl (Nat.le_of_ble_eq_true rfl) dX8_minds_80 ⟨Nat.zero_le _, Nat.zero_le _⟩ (fun H locs hP hD hS => ?_)
            refine lv_if_eq (tgt := 99) hx hb dX8_minds_83 (by decide) (fun c_18 => ?_) (fun c_18 => ?_)
            · replace hf := ht_t c_18 hf
              refine lv_bipush (v := -12) hx hb dX8_minds_99 (by decide) ?_
              have ho := Option.some.inj hf
              subst ho; subst hQ
              exact ht_iret hx hb hr hlk rfl hK hP hD hS dX8_minds_101
            · replace hf := ht_f c_18 hf
              refine lv_iload hx hb dX8_minds_86 (lv_at hl 5 rfl) ?_
              refine lv_aload hx hb dX8_minds_88 (lv_at hl 0 rfl) ?_
              refine va_get (D := D) (ci := 3) (v := .ref (aW 0)) (C := RX3) (T := TX3) (N := 2) hx hb hts iw3 hown hK hP 10 rfl rfl 1 (by decide) kw1 (fun _ h9 => h9) rfl dX8_minds_90 ?_
              refine va_alen (v := (Int32.ofNat RW.len)) hx hb hK hP 11 2 rfl rfl rfl dX8_minds_93 ?_
              refine lv_iload_n hx hb dX8_minds_94 rfl (lv_at hl 3 rfl) ?_
              refine lv_isub hx hb dX8_minds_95 ?_
              refine lv_icmp_le (tgt := 102) hx hb dX8_minds_96 (by decide) (fun c_19 => ?_) (fun c_19 => ?_)
              · replace hf := ht_t c_19 hf
                refine lv_iconst (v := 0) hx hb dX8_minds_102 (by decide) ?_
                refine lv_istore (lv' := [(6, .int (0 : Int32)), (5, .ref jW), (0, .ref jX), (1, .int p0), (2, .int p1), (3, .int p2), (4, .int p3)]) hx hb dX8_minds_103 hl (by decide) rfl (fun ls hl => ?_)
                exact b105  FU p1 p2 p3 (0 : Int32) RN.need _ _ _ hf hP hD hS (lv_sub hl [2, 4, 5, 6, 1, 0] rfl)
              · replace hf := ht_f c_19 hf
                refine lv_bipush (v := -12) hx hb dX8_minds_99 (by decide) ?_
                have ho := Option.some.inj hf
                subst ho; subst hQ
                exact ht_iret hx hb hr hlk rfl hK hP hD hS dX8_minds_101
          · replace hf := ht_f c_16 hf
            refine lv_bipush (v := -13) hx hb dX8_minds_69 (by decide) ?_
            have ho := Option.some.inj hf
            subst ho; subst hQ
            exact ht_iret hx hb hr hlk rfl hK hP hD hS dX8_minds_71
        · replace hf := ht_f c_13 hf
          refine lv_iconst (v := -1) hx hb dX8_minds_43 (by decide) ?_
          have ho := Option.some.inj hf
          subst ho; subst hQ
          exact ht_iret hx hb hr hlk rfl hK hP hD hS dX8_minds_44
abbrev rmX8_minds_n : Room := { frames := 2, cells := 0, slots := 0, locals := 42 }
def fX8_minds_n (RX : HTV) (RN : TownV) (RG : AQ) (p0 : Int32) (p1 : Int32) (p2 : Int32) (p3 : Int32) : Option Int32 := ht_bn (fX8_isSheet p0) (fun o_1 => if o_1 = 0 then (some (-1 : Int32)) else (ht_bn (fX6_has RN p2) (fun o_3 => if o_3 = 0 then (some (-1 : Int32)) else (ht_bn (fX8_within p3 (0 : Int32) (8 : Int32)) (fun o_5 => if o_5 = 0 then (some (-1 : Int32)) else (if (p2 + p3) ≤ RN.count then (ht_gd (ht_ix p0 4) (ht_gd (decide (RG p0.toNatClampNeg = none)) (some (-11 : Int32)))) else (some (-1 : Int32))))))))
set_option maxHeartbeats 1000000 in
set_option maxRecDepth 100000 in
theorem ctX8_minds_n (l : Launch) (D : va_G) (K : Nat → ClassId) (jX : Nat) (jN : Nat) (aN : Nat → Nat) (jG : Nat) (kX_kept : Nat) (kX_tried : Nat) (kX_trials : Nat) (kX_pairings : Nat) (kX_tape : Nat) (kX_telling : Nat) (kX_dayRows : Nat) (kX_deed : Nat) (kX_shelvedPerson : Nat) (kX_shelvedRow : Nat) (RX : HTV) (RN : TownV) (RG : AQ) (p0 : Int32) (p1 : Int32) (p2 : Int32) (p3 : Int32) (o : Int32) (hf : fX8_minds_n RX RN RG p0 p1 p2 p3 = some o) (sz : Nat) : Met l yX8_minds wsX8_minds rmX8_minds_n (ht_Pre D K [.ref jX, .int p0, .int p1, .int p2, .int p3] (wHT K jX jN kX_kept kX_tried kX_trials kX_pairings kX_tape kX_telling kX_dayRows kX_deed jG kX_shelvedPerson kX_shelvedRow RX.anythingKept ++ (wTw K jN aN RN.laws RN.kind RN.need RN.saved RN.voice RN.partner RN.speaks RN.count RN.day RN.heard RN.geese RN.z ++ (wAq K 4 jG RG))) sz) (ht_Qi D K (wHT K jX jN kX_kept kX_tried kX_trials kX_pairings kX_tape kX_telling kX_dayRows kX_deed jG kX_shelvedPerson kX_shelvedRow RX.anythingKept ++ (wTw K jN aN RN.laws RN.kind RN.need RN.saved RN.voice RN.partner RN.speaks RN.count RN.day RN.heard RN.geese RN.z ++ (wAq K 4 jG RG))) o (va_A (wHT K jX jN kX_kept kX_tried kX_trials kX_pairings kX_tape kX_telling kX_dayRows kX_deed jG kX_shelvedPerson kX_shelvedRow RX.anythingKept ++ (wTw K jN aN RN.laws RN.kind RN.need RN.saved RN.voice RN.partner RN.speaks RN.count RN.day RN.heard RN.geese RN.z ++ (wAq K 4 jG RG))) sz)) 0 0 (va_A (wHT K jX jN kX_kept kX_tried kX_trials kX_pairings kX_tape kX_telling kX_dayRows kX_deed jG kX_shelvedPerson kX_shelvedRow RX.anythingKept ++ (wTw K jN aN RN.laws RN.kind RN.need RN.saved RN.voice RN.partner RN.speaks RN.count RN.day RN.heard RN.geese RN.z ++ (wAq K 4 jG RG))) sz) := by
  refine ht_enter (Qf := ht_Qi D K (wHT K jX jN kX_kept kX_tried kX_trials kX_pairings kX_tape kX_telling kX_dayRows kX_deed jG kX_shelvedPerson kX_shelvedRow RX.anythingKept ++ (wTw K jN aN RN.laws RN.kind RN.need RN.saved RN.voice RN.partner RN.speaks RN.count RN.day RN.heard RN.geese RN.z ++ (wAq K 4 jG RG))) o) (cc := cX8_minds) (maxL := 8) (rt := (some .int)) (by decide) rfl (Nat.le_of_ble_eq_true rfl) ?_ sz
  intro p e s m below meth c A Q H locs ls hQ hx hb hr hlk hmn hml hown hts hA hK hP hD hS hl
  have hown : s.vm.findClass RX8 = some m.cls := hown
  have hF : CallFix p m c cX8_minds 8 s ([.ref jX, .int p0, .int p1, .int p2, .int p3] : List Value).toArray wsX8_minds RX8 := ⟨hx, hb, hml, hown, hts⟩
  have hl : lv_has ls 8 [(0, .ref jX), (1, .int p0), (2, .int p1), (3, .int p2), (4, .int p3)] := hl
  have iw8 : ∀ w ∈ u_ws RX8 TX8 13, w ∈ wsX8_minds := by decide +kernel
  have kw1 := hts (.fieldLink RX8 10 "HeldTongues" "now" "LHeldTongues$Town;") (by decide +kernel)
  have iw6 : ∀ w ∈ u_ws RX6 TX6 12, w ∈ wsX8_minds := by decide +kernel
  have kw3 := hts (.fieldLink RX8 114 "HeldTongues$Town" "count" "I") (by decide +kernel)
  have kw4 := hts (.fieldLink RX8 72 "HeldTongues" "sheets" "[LHeldTongues$SheetRow;") (by decide +kernel)
  delta fX8_minds_n at hf
  refine lv_iload_n hx hb dX8_minds_0 rfl (lv_at hl 1 rfl) ?_
  obtain ⟨o_1, ho_1, hf⟩ := ht_bn_ob hf
  refine ht_callSi (r := o_1) (rest := []) (As := [.int p0]) (wc := []) (wr := (wHT K jX jN kX_kept kX_tried kX_trials kX_pairings kX_tape kX_telling kX_dayRows kX_deed jG kX_shelvedPerson kX_shelvedRow RX.anythingKept ++ (wTw K jN aN RN.laws RN.kind RN.need RN.saved RN.voice RN.partner RN.speaks RN.count RN.day RN.heard RN.geese RN.z ++ (wAq K 4 jG RG)))) (w1 := []) (w2 := (wHT K jX jN kX_kept kX_tried kX_trials kX_pairings kX_tape kX_telling kX_dayRows kX_deed jG kX_shelvedPerson kX_shelvedRow RX.anythingKept ++ (wTw K jN aN RN.laws RN.kind RN.need RN.saved RN.voice RN.partner RN.speaks RN.count RN.day RN.heard RN.geese RN.z ++ (wAq K 4 jG RG)))) hF (ctX8_isSheet l D K p0 o_1 ho_1 H.size) (va_cwS 1 hts gX8_minds_X8_isSheet rfl rfl rfl hdX8_isSheet ⟨Nat.le_of_ble_eq_true rfl, Nat.le_of_ble_eq_true rfl⟩) hK hP hD hS hA [] [0, 1, 2, 3, 4, 5, 6, 7, 8, 9] rfl rfl (by decide) (by decide) (by decide) [0, 1, 2, 3, 4, 5, 6, 7, 8, 9] rfl (by decide) rfl hl.1 rfl (Nat.le_of_ble_eq_true rfl) dX8_minds_1 ⟨Nat.zero_le _, Nat.zero_le _⟩ (fun H locs hP hD hS => ?_)
  refine lv_if_eq (tgt := 43) hx hb dX8_minds_4 (by decide) (fun c_2 => ?_) (fun c_2 => ?_)
  · replace hf := ht_t c_2 hf
    refine lv_iconst (v := -1) hx hb dX8_minds_43 (by decide) ?_
    have ho := Option.some.inj hf
    subst ho; subst hQ
    exact ht_iret hx hb hr hlk rfl hK hP hD hS dX8_minds_44
  · replace hf := ht_f c_2 hf
    refine lv_aload_n hx hb dX8_minds_7 rfl (lv_at hl 0 rfl) ?_
    refine va_get (D := D) (ci := 8) (v := .ref jN) (C := RX8) (T := TX8) (N := 13) hx hb hts iw8 hown hK hP 0 rfl rfl 0 (by decide) kw1 (fun _ h9 => h9) rfl dX8_minds_8 ?_
    refine lv_iload_n hx hb dX8_minds_11 rfl (lv_at hl 3 rfl) ?_
    obtain ⟨o_3, ho_3, hf⟩ := ht_bn_ob hf
    refine ht_callVi (r := o_3) (rest := []) (As := [.int p2]) (wc := (wTw K jN aN RN.laws RN.kind RN.need RN.saved RN.voice RN.partner RN.speaks RN.count RN.day RN.heard RN.geese RN.z)) (wr := (wHT K jX jN kX_kept kX_tried kX_trials kX_pairings kX_tape kX_telling kX_dayRows kX_deed jG kX_shelvedPerson kX_shelvedRow RX.anythingKept ++ (wAq K 4 jG RG))) (w1 := (wTw K jN aN RN.laws RN.kind RN.need RN.saved RN.voice RN.partner RN.speaks RN.count RN.day RN.heard RN.geese RN.z)) (w2 := (wHT K jX jN kX_kept kX_tried kX_trials kX_pairings kX_tape kX_telling kX_dayRows kX_deed jG kX_shelvedPerson kX_shelvedRow RX.anythingKept ++ (wTw K jN aN RN.laws RN.kind RN.need RN.saved RN.voice RN.partner RN.speaks RN.count RN.day RN.heard RN.geese RN.z ++ (wAq K 4 jG RG)))) hF (ctX6_has l D K jN aN RN p2 o_3 ho_3 H.size) (cwV 1 hts gX8_minds_X6_has rfl rfl rfl hdX6_has ⟨Nat.le_of_ble_eq_true rfl, Nat.le_of_ble_eq_true rfl⟩) hK hP hD hS hA [1, 2, 3, 4, 5, 6, 7, 8] [0, 9] rfl rfl (by decide) (by decide) (by decide) [0, 2, 3, 4, 5, 6, 7, 8, 9, 1] rfl (by decide) (va_recv hK hP (ci := 6) (q0 := 1) rfl rfl) rfl hl.1 rfl (Nat.le_of_ble_eq_true rfl) dX8_minds_12 ⟨Nat.zero_le _, Nat.zero_le _⟩ (fun H locs hP hD hS => ?_)
    refine lv_if_eq (tgt := 43) hx hb dX8_minds_15 (by decide) (fun c_4 => ?_) (fun c_4 => ?_)
    · replace hf := ht_t c_4 hf
      refine lv_iconst (v := -1) hx hb dX8_minds_43 (by decide) ?_
      have ho := Option.some.inj hf
      subst ho; subst hQ
      exact ht_iret hx hb hr hlk rfl hK hP hD hS dX8_minds_44
    · replace hf := ht_f c_4 hf
      refine lv_iload hx hb dX8_minds_18 (lv_at hl 4 rfl) ?_
      refine lv_iconst (v := 0) hx hb dX8_minds_20 (by decide) ?_
      refine lv_bipush (v := 8) hx hb dX8_minds_21 (by decide) ?_
      obtain ⟨o_5, ho_5, hf⟩ := ht_bn_ob hf
      refine ht_callSi (r := o_5) (rest := []) (As := [.int p3, .int (0 : Int32), .int (8 : Int32)]) (wc := []) (wr := (wHT K jX jN kX_kept kX_tried kX_trials kX_pairings kX_tape kX_telling kX_dayRows kX_deed jG kX_shelvedPerson kX_shelvedRow RX.anythingKept ++ (wTw K jN aN RN.laws RN.kind RN.need RN.saved RN.voice RN.partner RN.speaks RN.count RN.day RN.heard RN.geese RN.z ++ (wAq K 4 jG RG)))) (w1 := []) (w2 := (wHT K jX jN kX_kept kX_tried kX_trials kX_pairings kX_tape kX_telling kX_dayRows kX_deed jG kX_shelvedPerson kX_shelvedRow RX.anythingKept ++ (wTw K jN aN RN.laws RN.kind RN.need RN.saved RN.voice RN.partner RN.speaks RN.count RN.day RN.heard RN.geese RN.z ++ (wAq K 4 jG RG)))) hF (ctX8_within l D K p3 (0 : Int32) (8 : Int32) o_5 ho_5 H.size) (va_cwS 3 hts gX8_minds_X8_within rfl rfl rfl hdX8_within ⟨Nat.le_of_ble_eq_true rfl, Nat.le_of_ble_eq_true rfl⟩) hK hP hD hS hA [] [0, 1, 2, 3, 4, 5, 6, 7, 8, 9] rfl rfl (by decide) (by decide) (by decide) [0, 1, 2, 3, 4, 5, 6, 7, 8, 9] rfl (by decide) rfl hl.1 rfl (Nat.le_of_ble_eq_true rfl) dX8_minds_23 ⟨Nat.zero_le _, Nat.zero_le _⟩ (fun H locs hP hD hS => ?_)
      refine lv_if_eq (tgt := 43) hx hb dX8_minds_26 (by decide) (fun c_6 => ?_) (fun c_6 => ?_)
      · replace hf := ht_t c_6 hf
        refine lv_iconst (v := -1) hx hb dX8_minds_43 (by decide) ?_
        have ho := Option.some.inj hf
        subst ho; subst hQ
        exact ht_iret hx hb hr hlk rfl hK hP hD hS dX8_minds_44
      · replace hf := ht_f c_6 hf
        refine lv_iload_n hx hb dX8_minds_29 rfl (lv_at hl 3 rfl) ?_
        refine lv_iload hx hb dX8_minds_30 (lv_at hl 4 rfl) ?_
        refine lv_iadd hx hb dX8_minds_32 ?_
        refine lv_aload_n hx hb dX8_minds_33 rfl (lv_at hl 0 rfl) ?_
        refine va_get (D := D) (ci := 8) (v := .ref jN) (C := RX8) (T := TX8) (N := 13) hx hb hts iw8 hown hK hP 0 rfl rfl 0 (by decide) kw1 (fun _ h9 => h9) rfl dX8_minds_34 ?_
        refine va_get (D := D) (ci := 6) (v := .int RN.count) (C := RX6) (T := TX6) (N := 12) hx hb hts iw6 hown hK hP 1 rfl rfl 7 (by decide) kw3 (fun _ h9 => h9) rfl dX8_minds_37 ?_
        refine lv_icmp_le (tgt := 45) hx hb dX8_minds_40 (by decide) (fun c_7 => ?_) (fun c_7 => ?_)
        · replace hf := ht_t c_7 hf
          refine lv_aload_n hx hb dX8_minds_45 rfl (lv_at hl 0 rfl) ?_
          refine va_get (D := D) (ci := 8) (v := .ref jG) (C := RX8) (T := TX8) (N := 13) hx hb hts iw8 hown hK hP 0 rfl rfl 9 (by decide) kw4 (fun _ h9 => h9) rfl dX8_minds_46 ?_
          refine lv_iload_n hx hb dX8_minds_49 rfl (lv_at hl 1 rfl) ?_
          obtain ⟨g_8, hf⟩ := ht_gd_ob hf
          obtain ⟨g_9, hf⟩ := ht_gd_ob hf
          refine va_aldq hx hb hK hP 9 4 rfl rfl (ht_ix_in g_8) dX8_minds_50 ?_
          refine W.eq (g2 := F0 m 51 ls [.null]) (by rw [of_decide_eq_true g_9]; rfl) ?_
          refine lv_astoreN (lv' := [(5, .null), (0, .ref jX), (1, .int p0), (2, .int p1), (3, .int p2), (4, .int p3)]) hx hb dX8_minds_51 hl (by decide) rfl (fun ls hl => ?_)
          refine lv_aloadN hx hb dX8_minds_53 (lv_at hl 0 rfl) ?_
          refine lv_ifnonnullN hx hb dX8_minds_55 ?_
          refine lv_bipush (v := -11) hx hb dX8_minds_58 (by decide) ?_
          have ho := Option.some.inj hf
          subst ho; subst hQ
          exact ht_iret hx hb hr hlk rfl hK hP hD hS dX8_minds_60
        · replace hf := ht_f c_7 hf
          refine lv_iconst (v := -1) hx hb dX8_minds_43 (by decide) ?_
          have ho := Option.some.inj hf
          subst ho; subst hQ
          exact ht_iret hx hb hr hlk rfl hK hP hD hS dX8_minds_44
abbrev rmX8_put_s : Room := { frames := 2, cells := 0, slots := 0, locals := 42 }
theorem hdX8_put : yX8_put.cls = RX8 ∧ yX8_put.cls ≠ "java/lang/invoke/MethodHandle" ∧ yX8_put.cls ≠ "java/lang/invoke/VarHandle" ∧ (parseMethodDescriptor yX8_put.desc).map (fun d => d.parameters.length) = some 3 := by decide +kernel
def fX8_put_s (jW : Nat) (RX : HTV) (RG : AQ) (RW : RowV) (p0 : Int32) (p1 : Int32) (p2 : Int32) : Option (Int32 × AL) := ht_bn (fX8_isSheet p0) (fun o_1 => if o_1 = 0 then (some ((-1 : Int32), RW.items)) else (ht_gd (ht_ix p0 4) (ht_gd (decide (RG p0.toNatClampNeg = some jW)) (ht_bn (fX3_has RW p1) (fun o_5 => if o_5 = 0 then (some ((-12 : Int32), RW.items)) else (ht_bn (fX3_narrowed RW p2) (fun o_7 => ht_gd (ht_ix p1 RW.len) (ht_nm (vp_updL RW.items p1.toNatClampNeg o_7) (fun vW_items_9 => some ((1 : Int32), vW_items_9))))))))))
set_option maxHeartbeats 1000000 in
set_option maxRecDepth 100000 in
theorem ctX8_put_s (l : Launch) (D : va_G) (K : Nat → ClassId) (jX : Nat) (jG : Nat) (jW : Nat) (aW : Nat → Nat) (kX_now : Nat) (kX_kept : Nat) (kX_tried : Nat) (kX_trials : Nat) (kX_pairings : Nat) (kX_tape : Nat) (kX_telling : Nat) (kX_dayRows : Nat) (kX_deed : Nat) (kX_shelvedPerson : Nat) (kX_shelvedRow : Nat) (RX : HTV) (RG : AQ) (RW : RowV) (p0 : Int32) (p1 : Int32) (p2 : Int32) (o : (Int32 × AL)) (hf : fX8_put_s jW RX RG RW p0 p1 p2 = some o) (sz : Nat) : Met l yX8_put wsX8_put rmX8_put_s (ht_Pre D K [.ref jX, .int p0, .int p1, .int p2] (wHT K jX kX_now kX_kept kX_tried kX_trials kX_pairings kX_tape kX_telling kX_dayRows kX_deed jG kX_shelvedPerson kX_shelvedRow RX.anythingKept ++ (wAq K 4 jG RG ++ (wRo K jW aW RW.sort RW.items RW.len))) sz) (ht_Qi D K (wHT K jX kX_now kX_kept kX_tried kX_trials kX_pairings kX_tape kX_telling kX_dayRows kX_deed jG kX_shelvedPerson kX_shelvedRow RX.anythingKept ++ (wAq K 4 jG RG ++ (wRo K jW aW RW.sort o.2 RW.len))) o.1 (va_A (wHT K jX kX_now kX_kept kX_tried kX_trials kX_pairings kX_tape kX_telling kX_dayRows kX_deed jG kX_shelvedPerson kX_shelvedRow RX.anythingKept ++ (wAq K 4 jG RG ++ (wRo K jW aW RW.sort RW.items RW.len))) sz)) 0 0 (va_A (wHT K jX kX_now kX_kept kX_tried kX_trials kX_pairings kX_tape kX_telling kX_dayRows kX_deed jG kX_shelvedPerson kX_shelvedRow RX.anythingKept ++ (wAq K 4 jG RG ++ (wRo K jW aW RW.sort RW.items RW.len))) sz) := by
  refine ht_enter (Qf := ht_Qi D K (wHT K jX kX_now kX_kept kX_tried kX_trials kX_pairings kX_tape kX_telling kX_dayRows kX_deed jG kX_shelvedPerson kX_shelvedRow RX.anythingKept ++ (wAq K 4 jG RG ++ (wRo K jW aW RW.sort o.2 RW.len))) o.1) (cc := cX8_put) (maxL := 5) (rt := (some .int)) (by decide) rfl (Nat.le_of_ble_eq_true rfl) ?_ sz
  intro p e s m below meth c A Q H locs ls hQ hx hb hr hlk hmn hml hown hts hA hK hP hD hS hl
  have hown : s.vm.findClass RX8 = some m.cls := hown
  have hF : CallFix p m c cX8_put 5 s ([.ref jX, .int p0, .int p1, .int p2] : List Value).toArray wsX8_put RX8 := ⟨hx, hb, hml, hown, hts⟩
  have hl : lv_has ls 5 [(0, .ref jX), (1, .int p0), (2, .int p1), (3, .int p2)] := hl
  have iw8 : ∀ w ∈ u_ws RX8 TX8 13, w ∈ wsX8_put := by decide +kernel
  have kw1 := hts (.fieldLink RX8 72 "HeldTongues" "sheets" "[LHeldTongues$SheetRow;") (by decide +kernel)
  have iw3 : ∀ w ∈ u_ws RX3 TX3 2, w ∈ wsX8_put := by decide +kernel
  have kw3 := hts (.fieldLink RX8 281 "HeldTongues$SheetRow" "items" "[J") (by decide +kernel)
  delta fX8_put_s at hf
  refine lv_iload_n hx hb dX8_put_0 rfl (lv_at hl 1 rfl) ?_
  obtain ⟨o_1, ho_1, hf⟩ := ht_bn_ob hf
  refine ht_callSi (r := o_1) (rest := []) (As := [.int p0]) (wc := []) (wr := (wHT K jX kX_now kX_kept kX_tried kX_trials kX_pairings kX_tape kX_telling kX_dayRows kX_deed jG kX_shelvedPerson kX_shelvedRow RX.anythingKept ++ (wAq K 4 jG RG ++ (wRo K jW aW RW.sort RW.items RW.len)))) (w1 := []) (w2 := (wHT K jX kX_now kX_kept kX_tried kX_trials kX_pairings kX_tape kX_telling kX_dayRows kX_deed jG kX_shelvedPerson kX_shelvedRow RX.anythingKept ++ (wAq K 4 jG RG ++ (wRo K jW aW RW.sort RW.items RW.len)))) hF (ctX8_isSheet l D K p0 o_1 ho_1 H.size) (va_cwS 1 hts gX8_put_X8_isSheet rfl rfl rfl hdX8_isSheet ⟨Nat.le_of_ble_eq_true rfl, Nat.le_of_ble_eq_true rfl⟩) hK hP hD hS hA [] [0, 1, 2, 3] rfl rfl (by decide) (by decide) (by decide) [0, 1, 2, 3] rfl (by decide) rfl hl.1 rfl (Nat.le_of_ble_eq_true rfl) dX8_put_1 ⟨Nat.zero_le _, Nat.zero_le _⟩ (fun H locs hP hD hS => ?_)
  refine lv_if_ne (tgt := 9) hx hb dX8_put_4 (by decide) (fun c_2 => ?_) (fun c_2 => ?_)
  · replace hf := ht_f c_2 hf
    refine lv_aload_n hx hb dX8_put_9 rfl (lv_at hl 0 rfl) ?_
    refine va_get (D := D) (ci := 8) (v := .ref jG) (C := RX8) (T := TX8) (N := 13) hx hb hts iw8 hown hK hP 0 rfl rfl 9 (by decide) kw1 (fun _ h9 => h9) rfl dX8_put_10 ?_
    refine lv_iload_n hx hb dX8_put_13 rfl (lv_at hl 1 rfl) ?_
    obtain ⟨g_3, hf⟩ := ht_gd_ob hf
    obtain ⟨g_4, hf⟩ := ht_gd_ob hf
    refine va_aldq hx hb hK hP 1 4 rfl rfl (ht_ix_in g_3) dX8_put_14 ?_
    refine W.eq (g2 := F0 m 15 ls [.ref jW]) (by rw [of_decide_eq_true g_4]; rfl) ?_
    refine lv_astore (lv' := [(4, .ref jW), (0, .ref jX), (1, .int p0), (2, .int p1), (3, .int p2)]) hx hb dX8_put_15 hl (by decide) rfl (fun ls hl => ?_)
    refine lv_aload hx hb dX8_put_17 (lv_at hl 0 rfl) ?_
    refine lv_ifnonnull (tgt := 25) hx hb dX8_put_19 (by decide) ?_
    refine lv_aload hx hb dX8_put_25 (lv_at hl 0 rfl) ?_
    refine lv_iload_n hx hb dX8_put_27 rfl (lv_at hl 3 rfl) ?_
    obtain ⟨o_5, ho_5, hf⟩ := ht_bn_ob hf
    refine ht_callVi (r := o_5) (rest := []) (As := [.int p1]) (wc := (wRo K jW aW RW.sort RW.items RW.len)) (wr := (wHT K jX kX_now kX_kept kX_tried kX_trials kX_pairings kX_tape kX_telling kX_dayRows kX_deed jG kX_shelvedPerson kX_shelvedRow RX.anythingKept ++ (wAq K 4 jG RG))) (w1 := (wRo K jW aW RW.sort RW.items RW.len)) (w2 := (wHT K jX kX_now kX_kept kX_tried kX_trials kX_pairings kX_tape kX_telling kX_dayRows kX_deed jG kX_shelvedPerson kX_shelvedRow RX.anythingKept ++ (wAq K 4 jG RG ++ (wRo K jW aW RW.sort RW.items RW.len)))) hF (ctX3_has l D K jW aW RW p1 o_5 ho_5 H.size) (cwV 1 hts gX8_put_X3_has rfl rfl rfl hdX3_has ⟨Nat.le_of_ble_eq_true rfl, Nat.le_of_ble_eq_true rfl⟩) hK hP hD hS hA [2, 3] [0, 1] rfl rfl (by decide) (by decide) (by decide) [0, 1, 2, 3] rfl (by decide) (va_recv hK hP (ci := 3) (q0 := 2) rfl rfl) rfl hl.1 rfl (Nat.le_of_ble_eq_true rfl) dX8_put_28 ⟨Nat.zero_le _, Nat.zero_le _⟩ (fun H locs hP hD hS => ?_)
    refine lv_if_ne (tgt := 37) hx hb dX8_put_31 (by decide) (fun c_6 => ?_) (fun c_6 => ?_)
    · replace hf := ht_f c_6 hf
      refine lv_aload hx hb dX8_put_37 (lv_at hl 0 rfl) ?_
      refine va_get (D := D) (ci := 3) (v := .ref (aW 0)) (C := RX3) (T := TX3) (N := 2) hx hb hts iw3 hown hK hP 2 rfl rfl 1 (by decide) kw3 (fun _ h9 => h9) rfl dX8_put_39 ?_
      refine lv_iload_n hx hb dX8_put_42 rfl (lv_at hl 3 rfl) ?_
      refine lv_aload hx hb dX8_put_43 (lv_at hl 0 rfl) ?_
      refine lv_iload_n hx hb dX8_put_45 rfl (lv_at hl 4 rfl) ?_
      obtain ⟨o_7, ho_7, hf⟩ := ht_bn_ob hf
      refine ht_callVl (r := o_7) (rest := [.int p1, .ref (aW 0)]) (As := [.int p2]) (wc := (wRo K jW aW RW.sort RW.items RW.len)) (wr := (wHT K jX kX_now kX_kept kX_tried kX_trials kX_pairings kX_tape kX_telling kX_dayRows kX_deed jG kX_shelvedPerson kX_shelvedRow RX.anythingKept ++ (wAq K 4 jG RG))) (w1 := (wRo K jW aW RW.sort RW.items RW.len)) (w2 := (wHT K jX kX_now kX_kept kX_tried kX_trials kX_pairings kX_tape kX_telling kX_dayRows kX_deed jG kX_shelvedPerson kX_shelvedRow RX.anythingKept ++ (wAq K 4 jG RG ++ (wRo K jW aW RW.sort RW.items RW.len)))) hF (ctX3_narrowed l D K jW aW RW p2 o_7 ho_7 H.size) (cwV 1 hts gX8_put_X3_narrowed rfl rfl rfl hdX3_narrowed ⟨Nat.le_of_ble_eq_true rfl, Nat.le_of_ble_eq_true rfl⟩) hK hP hD hS hA [2, 3] [0, 1] rfl rfl (by decide) (by decide) (by decide) [0, 1, 2, 3] rfl (by decide) (va_recv hK hP (ci := 3) (q0 := 2) rfl rfl) rfl hl.1 rfl (Nat.le_of_ble_eq_true rfl) dX8_put_46 ⟨Nat.zero_le _, Nat.zero_le _⟩ (fun H locs hP hD hS => ?_)
      obtain ⟨g_8, hf⟩ := ht_gd_ob hf
      obtain ⟨vW_items_9, evW_items_9, hf⟩ := ht_nm_ob hf
      refine ht_last (w2 := (wHT K jX kX_now kX_kept kX_tried kX_trials kX_pairings kX_tape kX_telling kX_dayRows kX_deed jG kX_shelvedPerson kX_shelvedRow RX.anythingKept ++ (wAq K 4 jG RG ++ (wRo K jW aW RW.sort vW_items_9 RW.len)))) hx hb hK hP hD hS 3 2 rfl rfl g_8 dX8_put_49 evW_items_9 rfl (fun H locs hP hD hS => ?_)
      refine lv_iconst (v := 1) hx hb dX8_put_50 (by decide) ?_
      have ho := Option.some.inj hf
      subst ho; subst hQ
      exact ht_iret hx hb hr hlk rfl hK hP hD hS dX8_put_51
    · replace hf := ht_t c_6 hf
      refine lv_bipush (v := -12) hx hb dX8_put_34 (by decide) ?_
      have ho := Option.some.inj hf
      subst ho; subst hQ
      exact ht_iret hx hb hr hlk rfl hK hP hD hS dX8_put_36
  · replace hf := ht_t c_2 hf
    refine lv_iconst (v := -1) hx hb dX8_put_7 (by decide) ?_
    have ho := Option.some.inj hf
    subst ho; subst hQ
    exact ht_iret hx hb hr hlk rfl hK hP hD hS dX8_put_8
abbrev rmX8_put_n : Room := { frames := 2, cells := 0, slots := 0, locals := 42 }
def fX8_put_n (RX : HTV) (RG : AQ) (p0 : Int32) (p1 : Int32) (p2 : Int32) : Option Int32 := ht_bn (fX8_isSheet p0) (fun o_1 => if o_1 = 0 then (some (-1 : Int32)) else (ht_gd (ht_ix p0 4) (ht_gd (decide (RG p0.toNatClampNeg = none)) (some (-11 : Int32)))))
set_option maxHeartbeats 1000000 in
set_option maxRecDepth 100000 in
theorem ctX8_put_n (l : Launch) (D : va_G) (K : Nat → ClassId) (jX : Nat) (jG : Nat) (kX_now : Nat) (kX_kept : Nat) (kX_tried : Nat) (kX_trials : Nat) (kX_pairings : Nat) (kX_tape : Nat) (kX_telling : Nat) (kX_dayRows : Nat) (kX_deed : Nat) (kX_shelvedPerson : Nat) (kX_shelvedRow : Nat) (RX : HTV) (RG : AQ) (p0 : Int32) (p1 : Int32) (p2 : Int32) (o : Int32) (hf : fX8_put_n RX RG p0 p1 p2 = some o) (sz : Nat) : Met l yX8_put wsX8_put rmX8_put_n (ht_Pre D K [.ref jX, .int p0, .int p1, .int p2] (wHT K jX kX_now kX_kept kX_tried kX_trials kX_pairings kX_tape kX_telling kX_dayRows kX_deed jG kX_shelvedPerson kX_shelvedRow RX.anythingKept ++ (wAq K 4 jG RG)) sz) (ht_Qi D K (wHT K jX kX_now kX_kept kX_tried kX_trials kX_pairings kX_tape kX_telling kX_dayRows kX_deed jG kX_shelvedPerson kX_shelvedRow RX.anythingKept ++ (wAq K 4 jG RG)) o (va_A (wHT K jX kX_now kX_kept kX_tried kX_trials kX_pairings kX_tape kX_telling kX_dayRows kX_deed jG kX_shelvedPerson kX_shelvedRow RX.anythingKept ++ (wAq K 4 jG RG)) sz)) 0 0 (va_A (wHT K jX kX_now kX_kept kX_tried kX_trials kX_pairings kX_tape kX_telling kX_dayRows kX_deed jG kX_shelvedPerson kX_shelvedRow RX.anythingKept ++ (wAq K 4 jG RG)) sz) := by
  refine ht_enter (Qf := ht_Qi D K (wHT K jX kX_now kX_kept kX_tried kX_trials kX_pairings kX_tape kX_telling kX_dayRows kX_deed jG kX_shelvedPerson kX_shelvedRow RX.anythingKept ++ (wAq K 4 jG RG)) o) (cc := cX8_put) (maxL := 5) (rt := (some .int)) (by decide) rfl (Nat.le_of_ble_eq_true rfl) ?_ sz
  intro p e s m below meth c A Q H locs ls hQ hx hb hr hlk hmn hml hown hts hA hK hP hD hS hl
  have hown : s.vm.findClass RX8 = some m.cls := hown
  have hF : CallFix p m c cX8_put 5 s ([.ref jX, .int p0, .int p1, .int p2] : List Value).toArray wsX8_put RX8 := ⟨hx, hb, hml, hown, hts⟩
  have hl : lv_has ls 5 [(0, .ref jX), (1, .int p0), (2, .int p1), (3, .int p2)] := hl
  have iw8 : ∀ w ∈ u_ws RX8 TX8 13, w ∈ wsX8_put := by decide +kernel
  have kw1 := hts (.fieldLink RX8 72 "HeldTongues" "sheets" "[LHeldTongues$SheetRow;") (by decide +kernel)
  delta fX8_put_n at hf
  refine lv_iload_n hx hb dX8_put_0 rfl (lv_at hl 1 rfl) ?_
  obtain ⟨o_1, ho_1, hf⟩ := ht_bn_ob hf
  refine ht_callSi (r := o_1) (rest := []) (As := [.int p0]) (wc := []) (wr := (wHT K jX kX_now kX_kept kX_tried kX_trials kX_pairings kX_tape kX_telling kX_dayRows kX_deed jG kX_shelvedPerson kX_shelvedRow RX.anythingKept ++ (wAq K 4 jG RG))) (w1 := []) (w2 := (wHT K jX kX_now kX_kept kX_tried kX_trials kX_pairings kX_tape kX_telling kX_dayRows kX_deed jG kX_shelvedPerson kX_shelvedRow RX.anythingKept ++ (wAq K 4 jG RG))) hF (ctX8_isSheet l D K p0 o_1 ho_1 H.size) (va_cwS 1 hts gX8_put_X8_isSheet rfl rfl rfl hdX8_isSheet ⟨Nat.le_of_ble_eq_true rfl, Nat.le_of_ble_eq_true rfl⟩) hK hP hD hS hA [] [0, 1] rfl rfl (by decide) (by decide) (by decide) [0, 1] rfl (by decide) rfl hl.1 rfl (Nat.le_of_ble_eq_true rfl) dX8_put_1 ⟨Nat.zero_le _, Nat.zero_le _⟩ (fun H locs hP hD hS => ?_)
  refine lv_if_ne (tgt := 9) hx hb dX8_put_4 (by decide) (fun c_2 => ?_) (fun c_2 => ?_)
  · replace hf := ht_f c_2 hf
    refine lv_aload_n hx hb dX8_put_9 rfl (lv_at hl 0 rfl) ?_
    refine va_get (D := D) (ci := 8) (v := .ref jG) (C := RX8) (T := TX8) (N := 13) hx hb hts iw8 hown hK hP 0 rfl rfl 9 (by decide) kw1 (fun _ h9 => h9) rfl dX8_put_10 ?_
    refine lv_iload_n hx hb dX8_put_13 rfl (lv_at hl 1 rfl) ?_
    obtain ⟨g_3, hf⟩ := ht_gd_ob hf
    obtain ⟨g_4, hf⟩ := ht_gd_ob hf
    refine va_aldq hx hb hK hP 1 4 rfl rfl (ht_ix_in g_3) dX8_put_14 ?_
    refine W.eq (g2 := F0 m 15 ls [.null]) (by rw [of_decide_eq_true g_4]; rfl) ?_
    refine lv_astoreN (lv' := [(4, .null), (0, .ref jX), (1, .int p0), (2, .int p1), (3, .int p2)]) hx hb dX8_put_15 hl (by decide) rfl (fun ls hl => ?_)
    refine lv_aloadN hx hb dX8_put_17 (lv_at hl 0 rfl) ?_
    refine lv_ifnonnullN hx hb dX8_put_19 ?_
    refine lv_bipush (v := -11) hx hb dX8_put_22 (by decide) ?_
    have ho := Option.some.inj hf
    subst ho; subst hQ
    exact ht_iret hx hb hr hlk rfl hK hP hD hS dX8_put_24
  · replace hf := ht_t c_2 hf
    refine lv_iconst (v := -1) hx hb dX8_put_7 (by decide) ?_
    have ho := Option.some.inj hf
    subst ho; subst hQ
    exact ht_iret hx hb hr hlk rfl hK hP hD hS dX8_put_8
abbrev rmX8_item_s : Room := { frames := 2, cells := 0, slots := 0, locals := 42 }
theorem hdX8_item : yX8_item.cls = RX8 ∧ yX8_item.cls ≠ "java/lang/invoke/MethodHandle" ∧ yX8_item.cls ≠ "java/lang/invoke/VarHandle" ∧ (parseMethodDescriptor yX8_item.desc).map (fun d => d.parameters.length) = some 3 := by decide +kernel
def fX8_item_s (jW : Nat) (RX : HTV) (RG : AQ) (RW : RowV) (p0 : Int32) (p1 : Int32) (p2 : Int32) : Option Int32 := ht_bn (fX8_isSheet p0) (fun o_1 => if o_1 = 0 then (some (-1 : Int32)) else (ht_bn (fX8_within p1 (0 : Int32) (3 : Int32)) (fun o_3 => if o_3 = 0 then (some (-1 : Int32)) else (ht_gd (ht_ix p0 4) (ht_gd (decide (RG p0.toNatClampNeg = some jW)) (if RW.sort = p1 then (ht_bn (fX3_has RW p2) (fun o_8 => if o_8 = 0 then (some (-12 : Int32)) else (ht_gd (ht_ix p2 RW.len) (some ((RW.items p2.toNatClampNeg).toInt32))))) else (some (-13 : Int32))))))))
set_option maxHeartbeats 1000000 in
set_option maxRecDepth 100000 in
theorem ctX8_item_s (l : Launch) (D : va_G) (K : Nat → ClassId) (jX : Nat) (jG : Nat) (jW : Nat) (aW : Nat → Nat) (kX_now : Nat) (kX_kept : Nat) (kX_tried : Nat) (kX_trials : Nat) (kX_pairings : Nat) (kX_tape : Nat) (kX_telling : Nat) (kX_dayRows : Nat) (kX_deed : Nat) (kX_shelvedPerson : Nat) (kX_shelvedRow : Nat) (RX : HTV) (RG : AQ) (RW : RowV) (p0 : Int32) (p1 : Int32) (p2 : Int32) (o : Int32) (hf : fX8_item_s jW RX RG RW p0 p1 p2 = some o) (sz : Nat) : Met l yX8_item wsX8_item rmX8_item_s (ht_Pre D K [.ref jX, .int p0, .int p1, .int p2] (wHT K jX kX_now kX_kept kX_tried kX_trials kX_pairings kX_tape kX_telling kX_dayRows kX_deed jG kX_shelvedPerson kX_shelvedRow RX.anythingKept ++ (wAq K 4 jG RG ++ (wRo K jW aW RW.sort RW.items RW.len))) sz) (ht_Qi D K (wHT K jX kX_now kX_kept kX_tried kX_trials kX_pairings kX_tape kX_telling kX_dayRows kX_deed jG kX_shelvedPerson kX_shelvedRow RX.anythingKept ++ (wAq K 4 jG RG ++ (wRo K jW aW RW.sort RW.items RW.len))) o (va_A (wHT K jX kX_now kX_kept kX_tried kX_trials kX_pairings kX_tape kX_telling kX_dayRows kX_deed jG kX_shelvedPerson kX_shelvedRow RX.anythingKept ++ (wAq K 4 jG RG ++ (wRo K jW aW RW.sort RW.items RW.len))) sz)) 0 0 (va_A (wHT K jX kX_now kX_kept kX_tried kX_trials kX_pairings kX_tape kX_telling kX_dayRows kX_deed jG kX_shelvedPerson kX_shelvedRow RX.anythingKept ++ (wAq K 4 jG RG ++ (wRo K jW aW RW.sort RW.items RW.len))) sz) := by
  refine ht_enter (Qf := ht_Qi D K (wHT K jX kX_now kX_kept kX_tried kX_trials kX_pairings kX_tape kX_telling kX_dayRows kX_deed jG kX_shelvedPerson kX_shelvedRow RX.anythingKept ++ (wAq K 4 jG RG ++ (wRo K jW aW RW.sort RW.items RW.len))) o) (cc := cX8_item) (maxL := 5) (rt := (some .int)) (by decide) rfl (Nat.le_of_ble_eq_true rfl) ?_ sz
  intro p e s m below meth c A Q H locs ls hQ hx hb hr hlk hmn hml hown hts hA hK hP hD hS hl
  have hown : s.vm.findClass RX8 = some m.cls := hown
  have hF : CallFix p m c cX8_item 5 s ([.ref jX, .int p0, .int p1, .int p2] : List Value).toArray wsX8_item RX8 := ⟨hx, hb, hml, hown, hts⟩
  have hl : lv_has ls 5 [(0, .ref jX), (1, .int p0), (2, .int p1), (3, .int p2)] := hl
  have iw8 : ∀ w ∈ u_ws RX8 TX8 13, w ∈ wsX8_item := by decide +kernel
  have kw1 := hts (.fieldLink RX8 72 "HeldTongues" "sheets" "[LHeldTongues$SheetRow;") (by decide +kernel)
  have iw3 : ∀ w ∈ u_ws RX3 TX3 2, w ∈ wsX8_item := by decide +kernel
  have kw3 := hts (.fieldLink RX8 278 "HeldTongues$SheetRow" "sort" "I") (by decide +kernel)
  have kw4 := hts (.fieldLink RX8 281 "HeldTongues$SheetRow" "items" "[J") (by decide +kernel)
  delta fX8_item_s at hf
  refine lv_iload_n hx hb dX8_item_0 rfl (lv_at hl 1 rfl) ?_
  obtain ⟨o_1, ho_1, hf⟩ := ht_bn_ob hf
  refine ht_callSi (r := o_1) (rest := []) (As := [.int p0]) (wc := []) (wr := (wHT K jX kX_now kX_kept kX_tried kX_trials kX_pairings kX_tape kX_telling kX_dayRows kX_deed jG kX_shelvedPerson kX_shelvedRow RX.anythingKept ++ (wAq K 4 jG RG ++ (wRo K jW aW RW.sort RW.items RW.len)))) (w1 := []) (w2 := (wHT K jX kX_now kX_kept kX_tried kX_trials kX_pairings kX_tape kX_telling kX_dayRows kX_deed jG kX_shelvedPerson kX_shelvedRow RX.anythingKept ++ (wAq K 4 jG RG ++ (wRo K jW aW RW.sort RW.items RW.len)))) hF (ctX8_isSheet l D K p0 o_1 ho_1 H.size) (va_cwS 1 hts gX8_item_X8_isSheet rfl rfl rfl hdX8_isSheet ⟨Nat.le_of_ble_eq_true rfl, Nat.le_of_ble_eq_true rfl⟩) hK hP hD hS hA [] [0, 1, 2, 3] rfl rfl (by decide) (by decide) (by decide) [0, 1, 2, 3] rfl (by decide) rfl hl.1 rfl (Nat.le_of_ble_eq_true rfl) dX8_item_1 ⟨Nat.zero_le _, Nat.zero_le _⟩ (fun H locs hP hD hS => ?_)
  refine lv_if_eq (tgt := 16) hx hb dX8_item_4 (by decide) (fun c_2 => ?_) (fun c_2 => ?_)
  · replace hf := ht_t c_2 hf
    refine lv_iconst (v := -1) hx hb dX8_item_16 (by decide) ?_
    have ho := Option.some.inj hf
    subst ho; subst hQ
    exact ht_iret hx hb hr hlk rfl hK hP hD hS dX8_item_17
  · replace hf := ht_f c_2 hf
    refine lv_iload_n hx hb dX8_item_7 rfl (lv_at hl 2 rfl) ?_
    refine lv_iconst (v := 0) hx hb dX8_item_8 (by decide) ?_
    refine lv_iconst (v := 3) hx hb dX8_item_9 (by decide) ?_
    obtain ⟨o_3, ho_3, hf⟩ := ht_bn_ob hf
    refine ht_callSi (r := o_3) (rest := []) (As := [.int p1, .int (0 : Int32), .int (3 : Int32)]) (wc := []) (wr := (wHT K jX kX_now kX_kept kX_tried kX_trials kX_pairings kX_tape kX_telling kX_dayRows kX_deed jG kX_shelvedPerson kX_shelvedRow RX.anythingKept ++ (wAq K 4 jG RG ++ (wRo K jW aW RW.sort RW.items RW.len)))) (w1 := []) (w2 := (wHT K jX kX_now kX_kept kX_tried kX_trials kX_pairings kX_tape kX_telling kX_dayRows kX_deed jG kX_shelvedPerson kX_shelvedRow RX.anythingKept ++ (wAq K 4 jG RG ++ (wRo K jW aW RW.sort RW.items RW.len)))) hF (ctX8_within l D K p1 (0 : Int32) (3 : Int32) o_3 ho_3 H.size) (va_cwS 3 hts gX8_item_X8_within rfl rfl rfl hdX8_within ⟨Nat.le_of_ble_eq_true rfl, Nat.le_of_ble_eq_true rfl⟩) hK hP hD hS hA [] [0, 1, 2, 3] rfl rfl (by decide) (by decide) (by decide) [0, 1, 2, 3] rfl (by decide) rfl hl.1 rfl (Nat.le_of_ble_eq_true rfl) dX8_item_10 ⟨Nat.zero_le _, Nat.zero_le _⟩ (fun H locs hP hD hS => ?_)
    refine lv_if_ne (tgt := 18) hx hb dX8_item_13 (by decide) (fun c_4 => ?_) (fun c_4 => ?_)
    · replace hf := ht_f c_4 hf
      refine lv_aload_n hx hb dX8_item_18 rfl (lv_at hl 0 rfl) ?_
      refine va_get (D := D) (ci := 8) (v := .ref jG) (C := RX8) (T := TX8) (N := 13) hx hb hts iw8 hown hK hP 0 rfl rfl 9 (by decide) kw1 (fun _ h9 => h9) rfl dX8_item_19 ?_
      refine lv_iload_n hx hb dX8_item_22 rfl (lv_at hl 1 rfl) ?_
      obtain ⟨g_5, hf⟩ := ht_gd_ob hf
      obtain ⟨g_6, hf⟩ := ht_gd_ob hf
      refine va_aldq hx hb hK hP 1 4 rfl rfl (ht_ix_in g_5) dX8_item_23 ?_
      refine W.eq (g2 := F0 m 24 ls [.ref jW]) (by rw [of_decide_eq_true g_6]; rfl) ?_
      refine lv_astore (lv' := [(4, .ref jW), (0, .ref jX), (1, .int p0), (2, .int p1), (3, .int p2)]) hx hb dX8_item_24 hl (by decide) rfl (fun ls hl => ?_)
      refine lv_aload hx hb dX8_item_26 (lv_at hl 0 rfl) ?_
      refine lv_ifnonnull (tgt := 34) hx hb dX8_item_28 (by decide) ?_
      refine lv_aload hx hb dX8_item_34 (lv_at hl 0 rfl) ?_
      refine va_get (D := D) (ci := 3) (v := .int RW.sort) (C := RX3) (T := TX3) (N := 2) hx hb hts iw3 hown hK hP 2 rfl rfl 0 (by decide) kw3 (fun _ h9 => h9) rfl dX8_item_36 ?_
      refine lv_iload_n hx hb dX8_item_39 rfl (lv_at hl 3 rfl) ?_
      refine lv_icmp_eq (tgt := 46) hx hb dX8_item_40 (by decide) (fun c_7 => ?_) (fun c_7 => ?_)
      · replace hf := ht_t c_7 hf
        refine lv_aload hx hb dX8_item_46 (lv_at hl 0 rfl) ?_
        refine lv_iload_n hx hb dX8_item_48 rfl (lv_at hl 4 rfl) ?_
        obtain ⟨o_8, ho_8, hf⟩ := ht_bn_ob hf
        refine ht_callVi (r := o_8) (rest := []) (As := [.int p2]) (wc := (wRo K jW aW RW.sort RW.items RW.len)) (wr := (wHT K jX kX_now kX_kept kX_tried kX_trials kX_pairings kX_tape kX_telling kX_dayRows kX_deed jG kX_shelvedPerson kX_shelvedRow RX.anythingKept ++ (wAq K 4 jG RG))) (w1 := (wRo K jW aW RW.sort RW.items RW.len)) (w2 := (wHT K jX kX_now kX_kept kX_tried kX_trials kX_pairings kX_tape kX_telling kX_dayRows kX_deed jG kX_shelvedPerson kX_shelvedRow RX.anythingKept ++ (wAq K 4 jG RG ++ (wRo K jW aW RW.sort RW.items RW.len)))) hF (ctX3_has l D K jW aW RW p2 o_8 ho_8 H.size) (cwV 1 hts gX8_item_X3_has rfl rfl rfl hdX3_has ⟨Nat.le_of_ble_eq_true rfl, Nat.le_of_ble_eq_true rfl⟩) hK hP hD hS hA [2, 3] [0, 1] rfl rfl (by decide) (by decide) (by decide) [0, 1, 2, 3] rfl (by decide) (va_recv hK hP (ci := 3) (q0 := 2) rfl rfl) rfl hl.1 rfl (Nat.le_of_ble_eq_true rfl) dX8_item_49 ⟨Nat.zero_le _, Nat.zero_le _⟩ (fun H locs hP hD hS => ?_)
        refine lv_if_eq (tgt := 66) hx hb dX8_item_52 (by decide) (fun c_9 => ?_) (fun c_9 => ?_)
        · replace hf := ht_t c_9 hf
          refine lv_bipush (v := -12) hx hb dX8_item_66 (by decide) ?_
          have ho := Option.some.inj hf
          subst ho; subst hQ
          exact ht_iret hx hb hr hlk rfl hK hP hD hS dX8_item_68
        · replace hf := ht_f c_9 hf
          refine lv_aload hx hb dX8_item_55 (lv_at hl 0 rfl) ?_
          refine va_get (D := D) (ci := 3) (v := .ref (aW 0)) (C := RX3) (T := TX3) (N := 2) hx hb hts iw3 hown hK hP 2 rfl rfl 1 (by decide) kw4 (fun _ h9 => h9) rfl dX8_item_57 ?_
          refine lv_iload_n hx hb dX8_item_60 rfl (lv_at hl 4 rfl) ?_
          obtain ⟨g_10, hf⟩ := ht_gd_ob hf
          refine va_lald hx hb hK hP 3 2 rfl rfl (ht_ix_in g_10) dX8_item_61 ?_
          refine lv_l2i hx hb dX8_item_62 rfl ?_
          refine lv_goto (tgt := 68) hx hb dX8_item_63 (by decide) ?_
          have ho := Option.some.inj hf
          subst ho; subst hQ
          exact ht_iret hx hb hr hlk rfl hK hP hD hS dX8_item_68
      · replace hf := ht_f c_7 hf
        refine lv_bipush (v := -13) hx hb dX8_item_43 (by decide) ?_
        have ho := Option.some.inj hf
        subst ho; subst hQ
        exact ht_iret hx hb hr hlk rfl hK hP hD hS dX8_item_45
    · replace hf := ht_t c_4 hf
      refine lv_iconst (v := -1) hx hb dX8_item_16 (by decide) ?_
      have ho := Option.some.inj hf
      subst ho; subst hQ
      exact ht_iret hx hb hr hlk rfl hK hP hD hS dX8_item_17
abbrev rmX8_item_n : Room := { frames := 2, cells := 0, slots := 0, locals := 42 }
def fX8_item_n (RX : HTV) (RG : AQ) (p0 : Int32) (p1 : Int32) (p2 : Int32) : Option Int32 := ht_bn (fX8_isSheet p0) (fun o_1 => if o_1 = 0 then (some (-1 : Int32)) else (ht_bn (fX8_within p1 (0 : Int32) (3 : Int32)) (fun o_3 => if o_3 = 0 then (some (-1 : Int32)) else (ht_gd (ht_ix p0 4) (ht_gd (decide (RG p0.toNatClampNeg = none)) (some (-11 : Int32)))))))
set_option maxHeartbeats 1000000 in
set_option maxRecDepth 100000 in
theorem ctX8_item_n (l : Launch) (D : va_G) (K : Nat → ClassId) (jX : Nat) (jG : Nat) (kX_now : Nat) (kX_kept : Nat) (kX_tried : Nat) (kX_trials : Nat) (kX_pairings : Nat) (kX_tape : Nat) (kX_telling : Nat) (kX_dayRows : Nat) (kX_deed : Nat) (kX_shelvedPerson : Nat) (kX_shelvedRow : Nat) (RX : HTV) (RG : AQ) (p0 : Int32) (p1 : Int32) (p2 : Int32) (o : Int32) (hf : fX8_item_n RX RG p0 p1 p2 = some o) (sz : Nat) : Met l yX8_item wsX8_item rmX8_item_n (ht_Pre D K [.ref jX, .int p0, .int p1, .int p2] (wHT K jX kX_now kX_kept kX_tried kX_trials kX_pairings kX_tape kX_telling kX_dayRows kX_deed jG kX_shelvedPerson kX_shelvedRow RX.anythingKept ++ (wAq K 4 jG RG)) sz) (ht_Qi D K (wHT K jX kX_now kX_kept kX_tried kX_trials kX_pairings kX_tape kX_telling kX_dayRows kX_deed jG kX_shelvedPerson kX_shelvedRow RX.anythingKept ++ (wAq K 4 jG RG)) o (va_A (wHT K jX kX_now kX_kept kX_tried kX_trials kX_pairings kX_tape kX_telling kX_dayRows kX_deed jG kX_shelvedPerson kX_shelvedRow RX.anythingKept ++ (wAq K 4 jG RG)) sz)) 0 0 (va_A (wHT K jX kX_now kX_kept kX_tried kX_trials kX_pairings kX_tape kX_telling kX_dayRows kX_deed jG kX_shelvedPerson kX_shelvedRow RX.anythingKept ++ (wAq K 4 jG RG)) sz) := by
  refine ht_enter (Qf := ht_Qi D K (wHT K jX kX_now kX_kept kX_tried kX_trials kX_pairings kX_tape kX_telling kX_dayRows kX_deed jG kX_shelvedPerson kX_shelvedRow RX.anythingKept ++ (wAq K 4 jG RG)) o) (cc := cX8_item) (maxL := 5) (rt := (some .int)) (by decide) rfl (Nat.le_of_ble_eq_true rfl) ?_ sz
  intro p e s m below meth c A Q H locs ls hQ hx hb hr hlk hmn hml hown hts hA hK hP hD hS hl
  have hown : s.vm.findClass RX8 = some m.cls := hown
  have hF : CallFix p m c cX8_item 5 s ([.ref jX, .int p0, .int p1, .int p2] : List Value).toArray wsX8_item RX8 := ⟨hx, hb, hml, hown, hts⟩
  have hl : lv_has ls 5 [(0, .ref jX), (1, .int p0), (2, .int p1), (3, .int p2)] := hl
  have iw8 : ∀ w ∈ u_ws RX8 TX8 13, w ∈ wsX8_item := by decide +kernel
  have kw1 := hts (.fieldLink RX8 72 "HeldTongues" "sheets" "[LHeldTongues$SheetRow;") (by decide +kernel)
  delta fX8_item_n at hf
  refine lv_iload_n hx hb dX8_item_0 rfl (lv_at hl 1 rfl) ?_
  obtain ⟨o_1, ho_1, hf⟩ := ht_bn_ob hf
  refine ht_callSi (r := o_1) (rest := []) (As := [.int p0]) (wc := []) (wr := (wHT K jX kX_now kX_kept kX_tried kX_trials kX_pairings kX_tape kX_telling kX_dayRows kX_deed jG kX_shelvedPerson kX_shelvedRow RX.anythingKept ++ (wAq K 4 jG RG))) (w1 := []) (w2 := (wHT K jX kX_now kX_kept kX_tried kX_trials kX_pairings kX_tape kX_telling kX_dayRows kX_deed jG kX_shelvedPerson kX_shelvedRow RX.anythingKept ++ (wAq K 4 jG RG))) hF (ctX8_isSheet l D K p0 o_1 ho_1 H.size) (va_cwS 1 hts gX8_item_X8_isSheet rfl rfl rfl hdX8_isSheet ⟨Nat.le_of_ble_eq_true rfl, Nat.le_of_ble_eq_true rfl⟩) hK hP hD hS hA [] [0, 1] rfl rfl (by decide) (by decide) (by decide) [0, 1] rfl (by decide) rfl hl.1 rfl (Nat.le_of_ble_eq_true rfl) dX8_item_1 ⟨Nat.zero_le _, Nat.zero_le _⟩ (fun H locs hP hD hS => ?_)
  refine lv_if_eq (tgt := 16) hx hb dX8_item_4 (by decide) (fun c_2 => ?_) (fun c_2 => ?_)
  · replace hf := ht_t c_2 hf
    refine lv_iconst (v := -1) hx hb dX8_item_16 (by decide) ?_
    have ho := Option.some.inj hf
    subst ho; subst hQ
    exact ht_iret hx hb hr hlk rfl hK hP hD hS dX8_item_17
  · replace hf := ht_f c_2 hf
    refine lv_iload_n hx hb dX8_item_7 rfl (lv_at hl 2 rfl) ?_
    refine lv_iconst (v := 0) hx hb dX8_item_8 (by decide) ?_
    refine lv_iconst (v := 3) hx hb dX8_item_9 (by decide) ?_
    obtain ⟨o_3, ho_3, hf⟩ := ht_bn_ob hf
    refine ht_callSi (r := o_3) (rest := []) (As := [.int p1, .int (0 : Int32), .int (3 : Int32)]) (wc := []) (wr := (wHT K jX kX_now kX_kept kX_tried kX_trials kX_pairings kX_tape kX_telling kX_dayRows kX_deed jG kX_shelvedPerson kX_shelvedRow RX.anythingKept ++ (wAq K 4 jG RG))) (w1 := []) (w2 := (wHT K jX kX_now kX_kept kX_tried kX_trials kX_pairings kX_tape kX_telling kX_dayRows kX_deed jG kX_shelvedPerson kX_shelvedRow RX.anythingKept ++ (wAq K 4 jG RG))) hF (ctX8_within l D K p1 (0 : Int32) (3 : Int32) o_3 ho_3 H.size) (va_cwS 3 hts gX8_item_X8_within rfl rfl rfl hdX8_within ⟨Nat.le_of_ble_eq_true rfl, Nat.le_of_ble_eq_true rfl⟩) hK hP hD hS hA [] [0, 1] rfl rfl (by decide) (by decide) (by decide) [0, 1] rfl (by decide) rfl hl.1 rfl (Nat.le_of_ble_eq_true rfl) dX8_item_10 ⟨Nat.zero_le _, Nat.zero_le _⟩ (fun H locs hP hD hS => ?_)
    refine lv_if_ne (tgt := 18) hx hb dX8_item_13 (by decide) (fun c_4 => ?_) (fun c_4 => ?_)
    · replace hf := ht_f c_4 hf
      refine lv_aload_n hx hb dX8_item_18 rfl (lv_at hl 0 rfl) ?_
      refine va_get (D := D) (ci := 8) (v := .ref jG) (C := RX8) (T := TX8) (N := 13) hx hb hts iw8 hown hK hP 0 rfl rfl 9 (by decide) kw1 (fun _ h9 => h9) rfl dX8_item_19 ?_
      refine lv_iload_n hx hb dX8_item_22 rfl (lv_at hl 1 rfl) ?_
      obtain ⟨g_5, hf⟩ := ht_gd_ob hf
      obtain ⟨g_6, hf⟩ := ht_gd_ob hf
      refine va_aldq hx hb hK hP 1 4 rfl rfl (ht_ix_in g_5) dX8_item_23 ?_
      refine W.eq (g2 := F0 m 24 ls [.null]) (by rw [of_decide_eq_true g_6]; rfl) ?_
      refine lv_astoreN (lv' := [(4, .null), (0, .ref jX), (1, .int p0), (2, .int p1), (3, .int p2)]) hx hb dX8_item_24 hl (by decide) rfl (fun ls hl => ?_)
      refine lv_aloadN hx hb dX8_item_26 (lv_at hl 0 rfl) ?_
      refine lv_ifnonnullN hx hb dX8_item_28 ?_
      refine lv_bipush (v := -11) hx hb dX8_item_31 (by decide) ?_
      have ho := Option.some.inj hf
      subst ho; subst hQ
      exact ht_iret hx hb hr hlk rfl hK hP hD hS dX8_item_33
    · replace hf := ht_t c_4 hf
      refine lv_iconst (v := -1) hx hb dX8_item_16 (by decide) ?_
      have ho := Option.some.inj hf
      subst ho; subst hQ
      exact ht_iret hx hb hr hlk rfl hK hP hD hS dX8_item_17
abbrev rmX8_placeOnShelf_s : Room := { frames := 0, cells := 0, slots := 0, locals := 0 }
theorem hdX8_placeOnShelf : yX8_placeOnShelf.cls = RX8 ∧ yX8_placeOnShelf.cls ≠ "java/lang/invoke/MethodHandle" ∧ yX8_placeOnShelf.cls ≠ "java/lang/invoke/VarHandle" ∧ (parseMethodDescriptor yX8_placeOnShelf.desc).map (fun d => d.parameters.length) = some 3 := by decide +kernel
def fX8_placeOnShelf_s (jW : Nat) (RX : HTV) (RY : AI) (RZ : AQ) (RW : RowV) (p0 : Int32) (p1 : Int32) : Option (AI × AQ) := ht_gd (ht_ix p0 4) (ht_nm (upd RY p0.toNatClampNeg p1) (fun vY_v_2 => ht_gd (ht_ix p0 4) (ht_nm (va_up RZ p0.toNatClampNeg (some jW)) (fun vZ_v_4 => some (vY_v_2, vZ_v_4)))))
set_option maxHeartbeats 1000000 in
set_option maxRecDepth 100000 in
theorem ctX8_placeOnShelf_s (l : Launch) (D : va_G) (K : Nat → ClassId) (jX : Nat) (jY : Nat) (jZ : Nat) (jW : Nat) (aW : Nat → Nat) (kX_now : Nat) (kX_kept : Nat) (kX_tried : Nat) (kX_trials : Nat) (kX_pairings : Nat) (kX_tape : Nat) (kX_telling : Nat) (kX_dayRows : Nat) (kX_deed : Nat) (kX_sheets : Nat) (RX : HTV) (RY : AI) (RZ : AQ) (RW : RowV) (p0 : Int32) (p1 : Int32) (o : (AI × AQ)) (hf : fX8_placeOnShelf_s jW RX RY RZ RW p0 p1 = some o) (sz : Nat) : Met l yX8_placeOnShelf wsX8_placeOnShelf rmX8_placeOnShelf_s (ht_Pre D K [.ref jX, .int p0, .int p1, .ref jW] (wHT K jX kX_now kX_kept kX_tried kX_trials kX_pairings kX_tape kX_telling kX_dayRows kX_deed kX_sheets jY jZ RX.anythingKept ++ (wAr K 4 jY RY ++ (wAq K 4 jZ RZ ++ (wRo K jW aW RW.sort RW.items RW.len)))) sz) (ht_Qv D K (wHT K jX kX_now kX_kept kX_tried kX_trials kX_pairings kX_tape kX_telling kX_dayRows kX_deed kX_sheets jY jZ RX.anythingKept ++ (wAr K 4 jY o.1 ++ (wAq K 4 jZ o.2 ++ (wRo K jW aW RW.sort RW.items RW.len)))) (va_A (wHT K jX kX_now kX_kept kX_tried kX_trials kX_pairings kX_tape kX_telling kX_dayRows kX_deed kX_sheets jY jZ RX.anythingKept ++ (wAr K 4 jY RY ++ (wAq K 4 jZ RZ ++ (wRo K jW aW RW.sort RW.items RW.len)))) sz)) 0 0 (va_A (wHT K jX kX_now kX_kept kX_tried kX_trials kX_pairings kX_tape kX_telling kX_dayRows kX_deed kX_sheets jY jZ RX.anythingKept ++ (wAr K 4 jY RY ++ (wAq K 4 jZ RZ ++ (wRo K jW aW RW.sort RW.items RW.len)))) sz) := by
  refine ht_enter (Qf := ht_Qv D K (wHT K jX kX_now kX_kept kX_tried kX_trials kX_pairings kX_tape kX_telling kX_dayRows kX_deed kX_sheets jY jZ RX.anythingKept ++ (wAr K 4 jY o.1 ++ (wAq K 4 jZ o.2 ++ (wRo K jW aW RW.sort RW.items RW.len))))) (cc := cX8_placeOnShelf) (maxL := 4) (rt := none) (by decide) rfl (Nat.le_of_ble_eq_true rfl) ?_ sz
  intro p e s m below meth c A Q H locs ls hQ hx hb hr hlk hmn hml hown hts hA hK hP hD hS hl
  have hown : s.vm.findClass RX8 = some m.cls := hown
  have hF : CallFix p m c cX8_placeOnShelf 4 s ([.ref jX, .int p0, .int p1, .ref jW] : List Value).toArray wsX8_placeOnShelf RX8 := ⟨hx, hb, hml, hown, hts⟩
  have hl : lv_has ls 4 [(0, .ref jX), (1, .int p0), (2, .int p1), (3, .ref jW)] := hl
  have iw8 : ∀ w ∈ u_ws RX8 TX8 13, w ∈ wsX8_placeOnShelf := by decide +kernel
  have kw1 := hts (.fieldLink RX8 76 "HeldTongues" "shelvedPerson" "[I") (by decide +kernel)
  have kw2 := hts (.fieldLink RX8 80 "HeldTongues" "shelvedRow" "[LHeldTongues$SheetRow;") (by decide +kernel)
  delta fX8_placeOnShelf_s at hf
  refine lv_aload_n hx hb dX8_placeOnShelf_0 rfl (lv_at hl 0 rfl) ?_
  refine va_get (D := D) (ci := 8) (v := .ref jY) (C := RX8) (T := TX8) (N := 13) hx hb hts iw8 hown hK hP 0 rfl rfl 10 (by decide) kw1 (fun _ h9 => h9) rfl dX8_placeOnShelf_1 ?_
  refine lv_iload_n hx hb dX8_placeOnShelf_4 rfl (lv_at hl 1 rfl) ?_
  refine lv_iload_n hx hb dX8_placeOnShelf_5 rfl (lv_at hl 2 rfl) ?_
  obtain ⟨g_1, hf⟩ := ht_gd_ob hf
  obtain ⟨vY_v_2, evY_v_2, hf⟩ := ht_nm_ob hf
  refine ht_iast (w2 := (wHT K jX kX_now kX_kept kX_tried kX_trials kX_pairings kX_tape kX_telling kX_dayRows kX_deed kX_sheets jY jZ RX.anythingKept ++ (wAr K 4 jY vY_v_2 ++ (wAq K 4 jZ RZ ++ (wRo K jW aW RW.sort RW.items RW.len))))) hx hb hK hP hD hS 1 1 rfl rfl g_1 dX8_placeOnShelf_6 evY_v_2 rfl (fun H locs hP hD hS => ?_)
  refine lv_aload_n hx hb dX8_placeOnShelf_7 rfl (lv_at hl 0 rfl) ?_
  refine va_get (D := D) (ci := 8) (v := .ref jZ) (C := RX8) (T := TX8) (N := 13) hx hb hts iw8 hown hK hP 0 rfl rfl 11 (by decide) kw2 (fun _ h9 => h9) rfl dX8_placeOnShelf_8 ?_
  refine lv_iload_n hx hb dX8_placeOnShelf_11 rfl (lv_at hl 1 rfl) ?_
  refine lv_aload_n hx hb dX8_placeOnShelf_12 rfl (lv_at hl 3 rfl) ?_
  obtain ⟨g_3, hf⟩ := ht_gd_ob hf
  obtain ⟨vZ_v_4, evZ_v_4, hf⟩ := ht_nm_ob hf
  refine ht_aast (w2 := (wHT K jX kX_now kX_kept kX_tried kX_trials kX_pairings kX_tape kX_telling kX_dayRows kX_deed kX_sheets jY jZ RX.anythingKept ++ (wAr K 4 jY vY_v_2 ++ (wAq K 4 jZ vZ_v_4 ++ (wRo K jW aW RW.sort RW.items RW.len))))) hx hb hK hP hD hS 2 4 3 3 rfl rfl rfl rfl g_3 dX8_placeOnShelf_13 evZ_v_4 rfl (fun H locs hP hD hS => ?_)
  have ho := Option.some.inj hf
  subst ho; subst hQ
  exact ht_vret hx hb hr hlk hK hP hD hS dX8_placeOnShelf_14
abbrev rmX8_placeOnShelf_n : Room := { frames := 0, cells := 0, slots := 0, locals := 0 }
def fX8_placeOnShelf_n (RX : HTV) (RY : AI) (RZ : AQ) (p0 : Int32) (p1 : Int32) : Option (AI × AQ) := ht_gd (ht_ix p0 4) (ht_nm (upd RY p0.toNatClampNeg p1) (fun vY_v_2 => ht_gd (ht_ix p0 4) (ht_nm (va_up RZ p0.toNatClampNeg none) (fun vZ_v_4 => some (vY_v_2, vZ_v_4)))))
set_option maxHeartbeats 1000000 in
set_option maxRecDepth 100000 in
theorem ctX8_placeOnShelf_n (l : Launch) (D : va_G) (K : Nat → ClassId) (jX : Nat) (jY : Nat) (jZ : Nat) (kX_now : Nat) (kX_kept : Nat) (kX_tried : Nat) (kX_trials : Nat) (kX_pairings : Nat) (kX_tape : Nat) (kX_telling : Nat) (kX_dayRows : Nat) (kX_deed : Nat) (kX_sheets : Nat) (RX : HTV) (RY : AI) (RZ : AQ) (p0 : Int32) (p1 : Int32) (o : (AI × AQ)) (hf : fX8_placeOnShelf_n RX RY RZ p0 p1 = some o) (sz : Nat) : Met l yX8_placeOnShelf wsX8_placeOnShelf rmX8_placeOnShelf_n (ht_Pre D K [.ref jX, .int p0, .int p1, .null] (wHT K jX kX_now kX_kept kX_tried kX_trials kX_pairings kX_tape kX_telling kX_dayRows kX_deed kX_sheets jY jZ RX.anythingKept ++ (wAr K 4 jY RY ++ (wAq K 4 jZ RZ))) sz) (ht_Qv D K (wHT K jX kX_now kX_kept kX_tried kX_trials kX_pairings kX_tape kX_telling kX_dayRows kX_deed kX_sheets jY jZ RX.anythingKept ++ (wAr K 4 jY o.1 ++ (wAq K 4 jZ o.2))) (va_A (wHT K jX kX_now kX_kept kX_tried kX_trials kX_pairings kX_tape kX_telling kX_dayRows kX_deed kX_sheets jY jZ RX.anythingKept ++ (wAr K 4 jY RY ++ (wAq K 4 jZ RZ))) sz)) 0 0 (va_A (wHT K jX kX_now kX_kept kX_tried kX_trials kX_pairings kX_tape kX_telling kX_dayRows kX_deed kX_sheets jY jZ RX.anythingKept ++ (wAr K 4 jY RY ++ (wAq K 4 jZ RZ))) sz) := by
  refine ht_enter (Qf := ht_Qv D K (wHT K jX kX_now kX_kept kX_tried kX_trials kX_pairings kX_tape kX_telling kX_dayRows kX_deed kX_sheets jY jZ RX.anythingKept ++ (wAr K 4 jY o.1 ++ (wAq K 4 jZ o.2)))) (cc := cX8_placeOnShelf) (maxL := 4) (rt := none) (by decide) rfl (Nat.le_of_ble_eq_true rfl) ?_ sz
  intro p e s m below meth c A Q H locs ls hQ hx hb hr hlk hmn hml hown hts hA hK hP hD hS hl
  have hown : s.vm.findClass RX8 = some m.cls := hown
  have hF : CallFix p m c cX8_placeOnShelf 4 s ([.ref jX, .int p0, .int p1, .null] : List Value).toArray wsX8_placeOnShelf RX8 := ⟨hx, hb, hml, hown, hts⟩
  have hl : lv_has ls 4 [(0, .ref jX), (1, .int p0), (2, .int p1), (3, .null)] := hl
  have iw8 : ∀ w ∈ u_ws RX8 TX8 13, w ∈ wsX8_placeOnShelf := by decide +kernel
  have kw1 := hts (.fieldLink RX8 76 "HeldTongues" "shelvedPerson" "[I") (by decide +kernel)
  have kw2 := hts (.fieldLink RX8 80 "HeldTongues" "shelvedRow" "[LHeldTongues$SheetRow;") (by decide +kernel)
  delta fX8_placeOnShelf_n at hf
  refine lv_aload_n hx hb dX8_placeOnShelf_0 rfl (lv_at hl 0 rfl) ?_
  refine va_get (D := D) (ci := 8) (v := .ref jY) (C := RX8) (T := TX8) (N := 13) hx hb hts iw8 hown hK hP 0 rfl rfl 10 (by decide) kw1 (fun _ h9 => h9) rfl dX8_placeOnShelf_1 ?_
  refine lv_iload_n hx hb dX8_placeOnShelf_4 rfl (lv_at hl 1 rfl) ?_
  refine lv_iload_n hx hb dX8_placeOnShelf_5 rfl (lv_at hl 2 rfl) ?_
  obtain ⟨g_1, hf⟩ := ht_gd_ob hf
  obtain ⟨vY_v_2, evY_v_2, hf⟩ := ht_nm_ob hf
  refine ht_iast (w2 := (wHT K jX kX_now kX_kept kX_tried kX_trials kX_pairings kX_tape kX_telling kX_dayRows kX_deed kX_sheets jY jZ RX.anythingKept ++ (wAr K 4 jY vY_v_2 ++ (wAq K 4 jZ RZ)))) hx hb hK hP hD hS 1 1 rfl rfl g_1 dX8_placeOnShelf_6 evY_v_2 rfl (fun H locs hP hD hS => ?_)
  refine lv_aload_n hx hb dX8_placeOnShelf_7 rfl (lv_at hl 0 rfl) ?_
  refine va_get (D := D) (ci := 8) (v := .ref jZ) (C := RX8) (T := TX8) (N := 13) hx hb hts iw8 hown hK hP 0 rfl rfl 11 (by decide) kw2 (fun _ h9 => h9) rfl dX8_placeOnShelf_8 ?_
  refine lv_iload_n hx hb dX8_placeOnShelf_11 rfl (lv_at hl 1 rfl) ?_
  refine lv_aload_nN hx hb dX8_placeOnShelf_12 rfl (lv_at hl 3 rfl) ?_
  obtain ⟨g_3, hf⟩ := ht_gd_ob hf
  obtain ⟨vZ_v_4, evZ_v_4, hf⟩ := ht_nm_ob hf
  refine ht_aastN (w2 := (wHT K jX kX_now kX_kept kX_tried kX_trials kX_pairings kX_tape kX_telling kX_dayRows kX_deed kX_sheets jY jZ RX.anythingKept ++ (wAr K 4 jY vY_v_2 ++ (wAq K 4 jZ vZ_v_4)))) hx hb hK hP hD hS 2 4 rfl rfl g_3 dX8_placeOnShelf_13 evZ_v_4 rfl (fun H locs hP hD hS => ?_)
  have ho := Option.some.inj hf
  subst ho; subst hQ
  exact ht_vret hx hb hr hlk hK hP hD hS dX8_placeOnShelf_14
abbrev rmX8_shelf_s : Room := { frames := 2, cells := 0, slots := 0, locals := 42 }
theorem hdX8_shelf : yX8_shelf.cls = RX8 ∧ yX8_shelf.cls ≠ "java/lang/invoke/MethodHandle" ∧ yX8_shelf.cls ≠ "java/lang/invoke/VarHandle" ∧ (parseMethodDescriptor yX8_shelf.desc).map (fun d => d.parameters.length) = some 3 := by decide +kernel
def fX8_shelf_s_b59 (jW : Nat) (RX : HTV) (RN : TownV) (RG : AQ) (RY : AI) (RZ : AQ) (RW : RowV) (x1 : Int32) (x2 : Int32) (vY_v : AI) (vZ_v : AQ) : Option (Int32 × AI × AQ) := if x2 = (2 : Int32) then (ht_bn (fX8_placeOnShelf_n RX vY_v vZ_v x1 (-1 : Int32)) (fun o_2 => some ((1 : Int32), o_2.1, o_2.2))) else (some ((-1 : Int32), vY_v, vZ_v))
def fX8_shelf_s_b33 (jW : Nat) (RX : HTV) (RN : TownV) (RG : AQ) (RY : AI) (RZ : AQ) (RW : RowV) (x1 : Int32) (x2 : Int32) (x3 : Int32) (vY_v : AI) (vZ_v : AQ) : Option (Int32 × AI × AQ) := if x2 = (1 : Int32) then (ht_bn (fX8_isSheet x3) (fun o_4 => if o_4 = 0 then (fX8_shelf_s_b59 jW RX RN RG RY RZ RW x1 x2 vY_v vZ_v) else (ht_gd (ht_ix x3 4) (ht_gd (decide (RG x3.toNatClampNeg = some jW)) (ht_bn (fX8_placeOnShelf_s jW RX vY_v vZ_v RW x1 (-1 : Int32)) (fun o_8 => some ((1 : Int32), o_8.1, o_8.2))))))) else (fX8_shelf_s_b59 jW RX RN RG RY RZ RW x1 x2 vY_v vZ_v)
def fX8_shelf_s (jW : Nat) (RX : HTV) (RN : TownV) (RG : AQ) (RY : AI) (RZ : AQ) (RW : RowV) (p0 : Int32) (p1 : Int32) (p2 : Int32) : Option (Int32 × AI × AQ) := ht_bn (fX8_isShelf p0) (fun o_9 => if o_9 = 0 then (some ((-1 : Int32), RY, RZ)) else (if p1 = 0 then (ht_bn (fX6_has RN p2) (fun o_12 => if o_12 = 0 then (fX8_shelf_s_b33 jW RX RN RG RY RZ RW p0 p1 p2 RY RZ) else (ht_bn (fX8_placeOnShelf_n RX RY RZ p0 p2) (fun o_14 => some ((1 : Int32), o_14.1, o_14.2))))) else (fX8_shelf_s_b33 jW RX RN RG RY RZ RW p0 p1 p2 RY RZ)))
set_option maxHeartbeats 1000000 in
set_option maxRecDepth 100000 in
theorem ctX8_shelf_s (l : Launch) (D : va_G) (K : Nat → ClassId) (jX : Nat) (jN : Nat) (aN : Nat → Nat) (jG : Nat) (jY : Nat) (jZ : Nat) (jW : Nat) (aW : Nat → Nat) (kX_kept : Nat) (kX_tried : Nat) (kX_trials : Nat) (kX_pairings : Nat) (kX_tape : Nat) (kX_telling : Nat) (kX_dayRows : Nat) (kX_deed : Nat) (RX : HTV) (RN : TownV) (RG : AQ) (RY : AI) (RZ : AQ) (RW : RowV) (p0 : Int32) (p1 : Int32) (p2 : Int32) (o : (Int32 × AI × AQ)) (hf : fX8_shelf_s jW RX RN RG RY RZ RW p0 p1 p2 = some o) (sz : Nat) : Met l yX8_shelf wsX8_shelf rmX8_shelf_s (ht_Pre D K [.ref jX, .int p0, .int p1, .int p2] (wHT K jX jN kX_kept kX_tried kX_trials kX_pairings kX_tape kX_telling kX_dayRows kX_deed jG jY jZ RX.anythingKept ++ (wTw K jN aN RN.laws RN.kind RN.need RN.saved RN.voice RN.partner RN.speaks RN.count RN.day RN.heard RN.geese RN.z ++ (wAq K 4 jG RG ++ (wAr K 4 jY RY ++ (wAq K 4 jZ RZ ++ (wRo K jW aW RW.sort RW.items RW.len)))))) sz) (ht_Qi D K (wHT K jX jN kX_kept kX_tried kX_trials kX_pairings kX_tape kX_telling kX_dayRows kX_deed jG jY jZ RX.anythingKept ++ (wTw K jN aN RN.laws RN.kind RN.need RN.saved RN.voice RN.partner RN.speaks RN.count RN.day RN.heard RN.geese RN.z ++ (wAq K 4 jG RG ++ (wAr K 4 jY o.2.1 ++ (wAq K 4 jZ o.2.2 ++ (wRo K jW aW RW.sort RW.items RW.len)))))) o.1 (va_A (wHT K jX jN kX_kept kX_tried kX_trials kX_pairings kX_tape kX_telling kX_dayRows kX_deed jG jY jZ RX.anythingKept ++ (wTw K jN aN RN.laws RN.kind RN.need RN.saved RN.voice RN.partner RN.speaks RN.count RN.day RN.heard RN.geese RN.z ++ (wAq K 4 jG RG ++ (wAr K 4 jY RY ++ (wAq K 4 jZ RZ ++ (wRo K jW aW RW.sort RW.items RW.len)))))) sz)) 0 0 (va_A (wHT K jX jN kX_kept kX_tried kX_trials kX_pairings kX_tape kX_telling kX_dayRows kX_deed jG jY jZ RX.anythingKept ++ (wTw K jN aN RN.laws RN.kind RN.need RN.saved RN.voice RN.partner RN.speaks RN.count RN.day RN.heard RN.geese RN.z ++ (wAq K 4 jG RG ++ (wAr K 4 jY RY ++ (wAq K 4 jZ RZ ++ (wRo K jW aW RW.sort RW.items RW.len)))))) sz) := by
  refine ht_enter (Qf := ht_Qi D K (wHT K jX jN kX_kept kX_tried kX_trials kX_pairings kX_tape kX_telling kX_dayRows kX_deed jG jY jZ RX.anythingKept ++ (wTw K jN aN RN.laws RN.kind RN.need RN.saved RN.voice RN.partner RN.speaks RN.count RN.day RN.heard RN.geese RN.z ++ (wAq K 4 jG RG ++ (wAr K 4 jY o.2.1 ++ (wAq K 4 jZ o.2.2 ++ (wRo K jW aW RW.sort RW.items RW.len)))))) o.1) (cc := cX8_shelf) (maxL := 4) (rt := (some .int)) (by decide) rfl (Nat.le_of_ble_eq_true rfl) ?_ sz
  intro p e s m below meth c A Q H locs ls hQ hx hb hr hlk hmn hml hown hts hA hK hP hD hS hl
  have hown : s.vm.findClass RX8 = some m.cls := hown
  have hF : CallFix p m c cX8_shelf 4 s ([.ref jX, .int p0, .int p1, .int p2] : List Value).toArray wsX8_shelf RX8 := ⟨hx, hb, hml, hown, hts⟩
  have hl : lv_has ls 4 [(0, .ref jX), (1, .int p0), (2, .int p1), (3, .int p2)] := hl
  have iw8 : ∀ w ∈ u_ws RX8 TX8 13, w ∈ wsX8_shelf := by decide +kernel
  have kw1 := hts (.fieldLink RX8 72 "HeldTongues" "sheets" "[LHeldTongues$SheetRow;") (by decide +kernel)
  have kw2 := hts (.fieldLink RX8 10 "HeldTongues" "now" "LHeldTongues$Town;") (by decide +kernel)
  have b59 : ∀ (x1 : Int32) (x2 : Int32) (vY_v : AI) (vZ_v : AQ) (H : Heap) (locs : List Loc) (ls : Array Slot), fX8_shelf_s_b59 jW RX RN RG RY RZ RW x1 x2 vY_v vZ_v = some o → va_P D vwCl (wHT K jX jN kX_kept kX_tried kX_trials kX_pairings kX_tape kX_telling kX_dayRows kX_deed jG jY jZ RX.anythingKept ++ (wTw K jN aN RN.laws RN.kind RN.need RN.saved RN.voice RN.partner RN.speaks RN.count RN.day RN.heard RN.geese RN.z ++ (wAq K 4 jG RG ++ (wAr K 4 jY vY_v ++ (wAq K 4 jZ vZ_v ++ (wRo K jW aW RW.sort RW.items RW.len)))))) H → va_D A (wHT K jX jN kX_kept kX_tried kX_trials kX_pairings kX_tape kX_telling kX_dayRows kX_deed jG jY jZ RX.anythingKept ++ (wTw K jN aN RN.laws RN.kind RN.need RN.saved RN.voice RN.partner RN.speaks RN.count RN.day RN.heard RN.geese RN.z ++ (wAq K 4 jG RG ++ (wAr K 4 jY vY_v ++ (wAq K 4 jZ vZ_v ++ (wRo K jW aW RW.sort RW.items RW.len)))))) → va_S A s.heap H locs → lv_has ls 4 [(0, .ref jX), (1, .int x1), (2, .int x2)] → W p l e (headSpec wsX8_shelf rmX8_shelf_s).room s m ([.ref jX, .int p0, .int p1, .int p2] : List Value).toArray below meth c H locs 0 0 Q (F0 m 59 ls []) := by
    intro x1 x2 vY_v vZ_v H locs ls hf hP hD hS hl
    delta fX8_shelf_s_b59 at hf
    refine lv_iload_n hx hb dX8_shelf_59 rfl (lv_at hl 2 rfl) ?_
    refine lv_iconst (v := 2) hx hb dX8_shelf_60 (by decide) ?_
    refine lv_icmp_ne (tgt := 73) hx hb dX8_shelf_61 (by decide) (fun c_1 => ?_) (fun c_1 => ?_)
    · replace hf := ht_f c_1 hf
      refine lv_iconst (v := -1) hx hb dX8_shelf_73 (by decide) ?_
      have ho := Option.some.inj hf
      subst ho; subst hQ
      exact ht_iret hx hb hr hlk rfl hK hP hD hS dX8_shelf_74
    · replace hf := ht_t c_1 hf
      refine lv_aload_n hx hb dX8_shelf_64 rfl (lv_at hl 0 rfl) ?_
      refine lv_iload_n hx hb dX8_shelf_65 rfl (lv_at hl 1 rfl) ?_
      refine lv_iconst (v := -1) hx hb dX8_shelf_66 (by decide) ?_
      refine lv_null hx hb dX8_shelf_67 ?_
      obtain ⟨o_2, ho_2, hf⟩ := ht_bn_ob hf
      refine ht_callVv (rest := []) (As := [.int x1, .int (-1 : Int32), .null]) (wc := (wHT K jX jN kX_kept kX_tried kX_trials kX_pairings kX_tape kX_telling kX_dayRows kX_deed jG jY jZ RX.anythingKept ++ (wAr K 4 jY vY_v ++ (wAq K 4 jZ vZ_v)))) (wr := (wTw K jN aN RN.laws RN.kind RN.need RN.saved RN.voice RN.partner RN.speaks RN.count RN.day RN.heard RN.geese RN.z ++ (wAq K 4 jG RG ++ (wRo K jW aW RW.sort RW.items RW.len)))) (w1 := (wHT K jX jN kX_kept kX_tried kX_trials kX_pairings kX_tape kX_telling kX_dayRows kX_deed jG jY jZ RX.anythingKept ++ (wAr K 4 jY o_2.1 ++ (wAq K 4 jZ o_2.2)))) (w2 := (wHT K jX jN kX_kept kX_tried kX_trials kX_pairings kX_tape kX_telling kX_dayRows kX_deed jG jY jZ RX.anythingKept ++ (wTw K jN aN RN.laws RN.kind RN.need RN.saved RN.voice RN.partner RN.speaks RN.count RN.day RN.heard RN.geese RN.z ++ (wAq K 4 jG RG ++ (wAr K 4 jY o_2.1 ++ (wAq K 4 jZ o_2.2 ++ (wRo K jW aW RW.sort RW.items RW.len))))))) hF (ctX8_placeOnShelf_n l D K jX jY jZ jN kX_kept kX_tried kX_trials kX_pairings kX_tape kX_telling kX_dayRows kX_deed jG RX vY_v vZ_v x1 (-1 : Int32) o_2 ho_2 H.size) (cwV 3 hts gX8_shelf_X8_placeOnShelf rfl rfl rfl hdX8_placeOnShelf ⟨Nat.le_of_ble_eq_true rfl, Nat.le_of_ble_eq_true rfl⟩) hK hP hD hS hA [0, 10, 11] [1, 2, 3, 4, 5, 6, 7, 8, 9, 12, 13] rfl rfl (by decide) (by decide) (by decide) [11, 0, 1, 2, 3, 4, 5, 6, 7, 8, 12, 13, 9, 10] rfl (by decide) (va_recv hK hP (ci := 8) (q0 := 0) rfl rfl) rfl hl.1 rfl (Nat.le_of_ble_eq_true rfl) dX8_shelf_68 ⟨Nat.zero_le _, Nat.zero_le _⟩ (fun H locs hP hD hS => ?_)
      refine lv_iconst (v := 1) hx hb dX8_shelf_71 (by decide) ?_
      have ho := Option.some.inj hf
      subst ho; subst hQ
      exact ht_iret hx hb hr hlk rfl hK hP hD hS dX8_shelf_72
  have b33 : ∀ (x1 : Int32) (x2 : Int32) (x3 : Int32) (vY_v : AI) (vZ_v : AQ) (H : Heap) (locs : List Loc) (ls : Array Slot), fX8_shelf_s_b33 jW RX RN RG RY RZ RW x1 x2 x3 vY_v vZ_v = some o → va_P D vwCl (wHT K jX jN kX_kept kX_tried kX_trials kX_pairings kX_tape kX_telling kX_dayRows kX_deed jG jY jZ RX.anythingKept ++ (wTw K jN aN RN.laws RN.kind RN.need RN.saved RN.voice RN.partner RN.speaks RN.count RN.day RN.heard RN.geese RN.z ++ (wAq K 4 jG RG ++ (wAr K 4 jY vY_v ++ (wAq K 4 jZ vZ_v ++ (wRo K jW aW RW.sort RW.items RW.len)))))) H → va_D A (wHT K jX jN kX_kept kX_tried kX_trials kX_pairings kX_tape kX_telling kX_dayRows kX_deed jG jY jZ RX.anythingKept ++ (wTw K jN aN RN.laws RN.kind RN.need RN.saved RN.voice RN.partner RN.speaks RN.count RN.day RN.heard RN.geese RN.z ++ (wAq K 4 jG RG ++ (wAr K 4 jY vY_v ++ (wAq K 4 jZ vZ_v ++ (wRo K jW aW RW.sort RW.items RW.len)))))) → va_S A s.heap H locs → lv_has ls 4 [(0, .ref jX), (1, .int x1), (2, .int x2), (3, .int x3)] → W p l e (headSpec wsX8_shelf rmX8_shelf_s).room s m ([.ref jX, .int p0, .int p1, .int p2] : List Value).toArray below meth c H locs 0 0 Q (F0 m 33 ls []) := by
    intro x1 x2 x3 vY_v vZ_v H locs ls hf hP hD hS hl
    delta fX8_shelf_s_b33 at hf
    refine lv_iload_n hx hb dX8_shelf_33 rfl (lv_at hl 2 rfl) ?_
    refine lv_iconst (v := 1) hx hb dX8_shelf_34 (by decide) ?_
    refine lv_icmp_ne (tgt := 59) hx hb dX8_shelf_35 (by decide) (fun c_3 => ?_) (fun c_3 => ?_)
    · replace hf := ht_f c_3 hf
      exact b59  x1 x2 vY_v vZ_v _ _ _ hf hP hD hS (lv_sub hl [0, 1, 2] rfl)
    · replace hf := ht_t c_3 hf
      refine lv_iload_n hx hb dX8_shelf_38 rfl (lv_at hl 3 rfl) ?_
      obtain ⟨o_4, ho_4, hf⟩ := ht_bn_ob hf
      refine ht_callSi (r := o_4) (rest := []) (As := [.int x3]) (wc := []) (wr := (wHT K jX jN kX_kept kX_tried kX_trials kX_pairings kX_tape kX_telling kX_dayRows kX_deed jG jY jZ RX.anythingKept ++ (wTw K jN aN RN.laws RN.kind RN.need RN.saved RN.voice RN.partner RN.speaks RN.count RN.day RN.heard RN.geese RN.z ++ (wAq K 4 jG RG ++ (wAr K 4 jY vY_v ++ (wAq K 4 jZ vZ_v ++ (wRo K jW aW RW.sort RW.items RW.len))))))) (w1 := []) (w2 := (wHT K jX jN kX_kept kX_tried kX_trials kX_pairings kX_tape kX_telling kX_dayRows kX_deed jG jY jZ RX.anythingKept ++ (wTw K jN aN RN.laws RN.kind RN.need RN.saved RN.voice RN.partner RN.speaks RN.count RN.day RN.heard RN.geese RN.z ++ (wAq K 4 jG RG ++ (wAr K 4 jY vY_v ++ (wAq K 4 jZ vZ_v ++ (wRo K jW aW RW.sort RW.items RW.len))))))) hF (ctX8_isSheet l D K x3 o_4 ho_4 H.size) (va_cwS 1 hts gX8_shelf_X8_isSheet rfl rfl rfl hdX8_isSheet ⟨Nat.le_of_ble_eq_true rfl, Nat.le_of_ble_eq_true rfl⟩) hK hP hD hS hA [] [0, 1, 2, 3, 4, 5, 6, 7, 8, 9, 10, 11, 12, 13] rfl rfl (by decide) (by decide) (by decide) [0, 1, 2, 3, 4, 5, 6, 7, 8, 9, 10, 11, 12, 13] rfl (by decide) rfl hl.1 rfl (Nat.le_of_ble_eq_true rfl) dX8_shelf_39 ⟨Nat.zero_le _, Nat.zero_le _⟩ (fun H locs hP hD hS => ?_)
      refine lv_if_eq (tgt := 59) hx hb dX8_shelf_42 (by decide) (fun c_5 => ?_) (fun c_5 => ?_)
      · replace hf := ht_t c_5 hf
        exact b59  x1 x2 vY_v vZ_v _ _ _ hf hP hD hS (lv_sub hl [0, 1, 2] rfl)
      · replace hf := ht_f c_5 hf
        refine lv_aload_n hx hb dX8_shelf_45 rfl (lv_at hl 0 rfl) ?_
        refine lv_iload_n hx hb dX8_shelf_46 rfl (lv_at hl 1 rfl) ?_
        refine lv_iconst (v := -1) hx hb dX8_shelf_47 (by decide) ?_
        refine lv_aload_n hx hb dX8_shelf_48 rfl (lv_at hl 0 rfl) ?_
        refine va_get (D := D) (ci := 8) (v := .ref jG) (C := RX8) (T := TX8) (N := 13) hx hb hts iw8 hown hK hP 0 rfl rfl 9 (by decide) kw1 (fun _ h9 => h9) rfl dX8_shelf_49 ?_
        refine lv_iload_n hx hb dX8_shelf_52 rfl (lv_at hl 3 rfl) ?_
        obtain ⟨g_6, hf⟩ := ht_gd_ob hf
        obtain ⟨g_7, hf⟩ := ht_gd_ob hf
        refine va_aldq hx hb hK hP 9 4 rfl rfl (ht_ix_in g_6) dX8_shelf_53 ?_
        refine W.eq (g2 := F0 m 54 ls [.ref jW, .int (-1 : Int32), .int x1, .ref jX]) (by rw [of_decide_eq_true g_7]; rfl) ?_
        obtain ⟨o_8, ho_8, hf⟩ := ht_bn_ob hf
        refine ht_callVv (rest := []) (As := [.int x1, .int (-1 : Int32), .ref jW]) (wc := (wHT K jX jN kX_kept kX_tried kX_trials kX_pairings kX_tape kX_telling kX_dayRows kX_deed jG jY jZ RX.anythingKept ++ (wAr K 4 jY vY_v ++ (wAq K 4 jZ vZ_v ++ (wRo K jW aW RW.sort RW.items RW.len))))) (wr := (wTw K jN aN RN.laws RN.kind RN.need RN.saved RN.voice RN.partner RN.speaks RN.count RN.day RN.heard RN.geese RN.z ++ (wAq K 4 jG RG))) (w1 := (wHT K jX jN kX_kept kX_tried kX_trials kX_pairings kX_tape kX_telling kX_dayRows kX_deed jG jY jZ RX.anythingKept ++ (wAr K 4 jY o_8.1 ++ (wAq K 4 jZ o_8.2 ++ (wRo K jW aW RW.sort RW.items RW.len))))) (w2 := (wHT K jX jN kX_kept kX_tried kX_trials kX_pairings kX_tape kX_telling kX_dayRows kX_deed jG jY jZ RX.anythingKept ++ (wTw K jN aN RN.laws RN.kind RN.need RN.saved RN.voice RN.partner RN.speaks RN.count RN.day RN.heard RN.geese RN.z ++ (wAq K 4 jG RG ++ (wAr K 4 jY o_8.1 ++ (wAq K 4 jZ o_8.2 ++ (wRo K jW aW RW.sort RW.items RW.len))))))) hF (ctX8_placeOnShelf_s l D K jX jY jZ jW aW jN kX_kept kX_tried kX_trials kX_pairings kX_tape kX_telling kX_dayRows kX_deed jG RX vY_v vZ_v RW x1 (-1 : Int32) o_8 ho_8 H.size) (cwV 3 hts gX8_shelf_X8_placeOnShelf rfl rfl rfl hdX8_placeOnShelf ⟨Nat.le_of_ble_eq_true rfl, Nat.le_of_ble_eq_true rfl⟩) hK hP hD hS hA [0, 10, 11, 12, 13] [1, 2, 3, 4, 5, 6, 7, 8, 9] rfl rfl (by decide) (by decide) (by decide) [9, 0, 1, 2, 3, 4, 5, 6, 7, 8, 10, 11, 12, 13] rfl (by decide) (va_recv hK hP (ci := 8) (q0 := 0) rfl rfl) rfl hl.1 rfl (Nat.le_of_ble_eq_true rfl) dX8_shelf_54 ⟨Nat.zero_le _, Nat.zero_le _⟩ (fun H locs hP hD hS => ?_)
        refine lv_iconst (v := 1) hx hb dX8_shelf_57 (by decide) ?_
        have ho := Option.some.inj hf
        subst ho; subst hQ
        exact ht_iret hx hb hr hlk rfl hK hP hD hS dX8_shelf_58
  delta fX8_shelf_s at hf
  refine lv_iload_n hx hb dX8_shelf_0 rfl (lv_at hl 1 rfl) ?_
  obtain ⟨o_9, ho_9, hf⟩ := ht_bn_ob hf
  refine ht_callSi (r := o_9) (rest := []) (As := [.int p0]) (wc := []) (wr := (wHT K jX jN kX_kept kX_tried kX_trials kX_pairings kX_tape kX_telling kX_dayRows kX_deed jG jY jZ RX.anythingKept ++ (wTw K jN aN RN.laws RN.kind RN.need RN.saved RN.voice RN.partner RN.speaks RN.count RN.day RN.heard RN.geese RN.z ++ (wAq K 4 jG RG ++ (wAr K 4 jY RY ++ (wAq K 4 jZ RZ ++ (wRo K jW aW RW.sort RW.items RW.len))))))) (w1 := []) (w2 := (wHT K jX jN kX_kept kX_tried kX_trials kX_pairings kX_tape kX_telling kX_dayRows kX_deed jG jY jZ RX.anythingKept ++ (wTw K jN aN RN.laws RN.kind RN.need RN.saved RN.voice RN.partner RN.speaks RN.count RN.day RN.heard RN.geese RN.z ++ (wAq K 4 jG RG ++ (wAr K 4 jY RY ++ (wAq K 4 jZ RZ ++ (wRo K jW aW RW.sort RW.items RW.len))))))) hF (ctX8_isShelf l D K p0 o_9 ho_9 H.size) (va_cwS 1 hts gX8_shelf_X8_isShelf rfl rfl rfl hdX8_isShelf ⟨Nat.le_of_ble_eq_true rfl, Nat.le_of_ble_eq_true rfl⟩) hK hP hD hS hA [] [0, 1, 2, 3, 4, 5, 6, 7, 8, 9, 10, 11, 12, 13] rfl rfl (by decide) (by decide) (by decide) [0, 1, 2, 3, 4, 5, 6, 7, 8, 9, 10, 11, 12, 13] rfl (by decide) rfl hl.1 rfl (Nat.le_of_ble_eq_true rfl) dX8_shelf_1 ⟨Nat.zero_le _, Nat.zero_le _⟩ (fun H locs hP hD hS => ?_)
  refine lv_if_ne (tgt := 9) hx hb dX8_shelf_4 (by decide) (fun c_10 => ?_) (fun c_10 => ?_)
  · replace hf := ht_f c_10 hf
    refine lv_iload_n hx hb dX8_shelf_9 rfl (lv_at hl 2 rfl) ?_
    refine lv_if_ne (tgt := 33) hx hb dX8_shelf_10 (by decide) (fun c_11 => ?_) (fun c_11 => ?_)
    · replace hf := ht_f c_11 hf
      exact b33  p0 p1 p2 RY RZ _ _ _ hf hP hD hS hl
    · replace hf := ht_t c_11 hf
      refine lv_aload_n hx hb dX8_shelf_13 rfl (lv_at hl 0 rfl) ?_
      refine va_get (D := D) (ci := 8) (v := .ref jN) (C := RX8) (T := TX8) (N := 13) hx hb hts iw8 hown hK hP 0 rfl rfl 0 (by decide) kw2 (fun _ h9 => h9) rfl dX8_shelf_14 ?_
      refine lv_iload_n hx hb dX8_shelf_17 rfl (lv_at hl 3 rfl) ?_
      obtain ⟨o_12, ho_12, hf⟩ := ht_bn_ob hf
      refine ht_callVi (r := o_12) (rest := []) (As := [.int p2]) (wc := (wTw K jN aN RN.laws RN.kind RN.need RN.saved RN.voice RN.partner RN.speaks RN.count RN.day RN.heard RN.geese RN.z)) (wr := (wHT K jX jN kX_kept kX_tried kX_trials kX_pairings kX_tape kX_telling kX_dayRows kX_deed jG jY jZ RX.anythingKept ++ (wAq K 4 jG RG ++ (wAr K 4 jY RY ++ (wAq K 4 jZ RZ ++ (wRo K jW aW RW.sort RW.items RW.len)))))) (w1 := (wTw K jN aN RN.laws RN.kind RN.need RN.saved RN.voice RN.partner RN.speaks RN.count RN.day RN.heard RN.geese RN.z)) (w2 := (wHT K jX jN kX_kept kX_tried kX_trials kX_pairings kX_tape kX_telling kX_dayRows kX_deed jG jY jZ RX.anythingKept ++ (wTw K jN aN RN.laws RN.kind RN.need RN.saved RN.voice RN.partner RN.speaks RN.count RN.day RN.heard RN.geese RN.z ++ (wAq K 4 jG RG ++ (wAr K 4 jY RY ++ (wAq K 4 jZ RZ ++ (wRo K jW aW RW.sort RW.items RW.len))))))) hF (ctX6_has l D K jN aN RN p2 o_12 ho_12 H.size) (cwV 1 hts gX8_shelf_X6_has rfl rfl rfl hdX6_has ⟨Nat.le_of_ble_eq_true rfl, Nat.le_of_ble_eq_true rfl⟩) hK hP hD hS hA [1, 2, 3, 4, 5, 6, 7, 8] [0, 9, 10, 11, 12, 13] rfl rfl (by decide) (by decide) (by decide) [0, 6, 7, 8, 9, 10, 11, 12, 13, 1, 2, 3, 4, 5] rfl (by decide) (va_recv hK hP (ci := 6) (q0 := 1) rfl rfl) rfl hl.1 rfl (Nat.le_of_ble_eq_true rfl) dX8_shelf_18 ⟨Nat.zero_le _, Nat.zero_le _⟩ (fun H locs hP hD hS => ?_)
      refine lv_if_eq (tgt := 33) hx hb dX8_shelf_21 (by decide) (fun c_13 => ?_) (fun c_13 => ?_)
      · replace hf := ht_t c_13 hf
        exact b33  p0 p1 p2 RY RZ _ _ _ hf hP hD hS hl
      · replace hf := ht_f c_13 hf
        refine lv_aload_n hx hb dX8_shelf_24 rfl (lv_at hl 0 rfl) ?_
        refine lv_iload_n hx hb dX8_shelf_25 rfl (lv_at hl 1 rfl) ?_
        refine lv_iload_n hx hb dX8_shelf_26 rfl (lv_at hl 3 rfl) ?_
        refine lv_null hx hb dX8_shelf_27 ?_
        obtain ⟨o_14, ho_14, hf⟩ := ht_bn_ob hf
        refine ht_callVv (rest := []) (As := [.int p0, .int p2, .null]) (wc := (wHT K jX jN kX_kept kX_tried kX_trials kX_pairings kX_tape kX_telling kX_dayRows kX_deed jG jY jZ RX.anythingKept ++ (wAr K 4 jY RY ++ (wAq K 4 jZ RZ)))) (wr := (wTw K jN aN RN.laws RN.kind RN.need RN.saved RN.voice RN.partner RN.speaks RN.count RN.day RN.heard RN.geese RN.z ++ (wAq K 4 jG RG ++ (wRo K jW aW RW.sort RW.items RW.len)))) (w1 := (wHT K jX jN kX_kept kX_tried kX_trials kX_pairings kX_tape kX_telling kX_dayRows kX_deed jG jY jZ RX.anythingKept ++ (wAr K 4 jY o_14.1 ++ (wAq K 4 jZ o_14.2)))) (w2 := (wHT K jX jN kX_kept kX_tried kX_trials kX_pairings kX_tape kX_telling kX_dayRows kX_deed jG jY jZ RX.anythingKept ++ (wTw K jN aN RN.laws RN.kind RN.need RN.saved RN.voice RN.partner RN.speaks RN.count RN.day RN.heard RN.geese RN.z ++ (wAq K 4 jG RG ++ (wAr K 4 jY o_14.1 ++ (wAq K 4 jZ o_14.2 ++ (wRo K jW aW RW.sort RW.items RW.len))))))) hF (ctX8_placeOnShelf_n l D K jX jY jZ jN kX_kept kX_tried kX_trials kX_pairings kX_tape kX_telling kX_dayRows kX_deed jG RX RY RZ p0 p2 o_14 ho_14 H.size) (cwV 3 hts gX8_shelf_X8_placeOnShelf rfl rfl rfl hdX8_placeOnShelf ⟨Nat.le_of_ble_eq_true rfl, Nat.le_of_ble_eq_true rfl⟩) hK hP hD hS hA [0, 10, 11] [1, 2, 3, 4, 5, 6, 7, 8, 9, 12, 13] rfl rfl (by decide) (by decide) (by decide) [11, 0, 1, 2, 3, 4, 5, 6, 7, 8, 12, 13, 9, 10] rfl (by decide) (va_recv hK hP (ci := 8) (q0 := 0) rfl rfl) rfl hl.1 rfl (Nat.le_of_ble_eq_true rfl) dX8_shelf_28 ⟨Nat.zero_le _, Nat.zero_le _⟩ (fun H locs hP hD hS => ?_)
        refine lv_iconst (v := 1) hx hb dX8_shelf_31 (by decide) ?_
        have ho := Option.some.inj hf
        subst ho; subst hQ
        exact ht_iret hx hb hr hlk rfl hK hP hD hS dX8_shelf_32
  · replace hf := ht_t c_10 hf
    refine lv_iconst (v := -1) hx hb dX8_shelf_7 (by decide) ?_
    have ho := Option.some.inj hf
    subst ho; subst hQ
    exact ht_iret hx hb hr hlk rfl hK hP hD hS dX8_shelf_8
abbrev rmX8_shelf_n : Room := { frames := 2, cells := 0, slots := 0, locals := 42 }
def fX8_shelf_n_b59 (RX : HTV) (RN : TownV) (RG : AQ) (RY : AI) (RZ : AQ) (x1 : Int32) (x2 : Int32) (vY_v : AI) (vZ_v : AQ) : Option (Int32 × AI × AQ) := if x2 = (2 : Int32) then (ht_bn (fX8_placeOnShelf_n RX vY_v vZ_v x1 (-1 : Int32)) (fun o_2 => some ((1 : Int32), o_2.1, o_2.2))) else (some ((-1 : Int32), vY_v, vZ_v))
def fX8_shelf_n_b33 (RX : HTV) (RN : TownV) (RG : AQ) (RY : AI) (RZ : AQ) (x1 : Int32) (x2 : Int32) (x3 : Int32) (vY_v : AI) (vZ_v : AQ) : Option (Int32 × AI × AQ) := if x2 = (1 : Int32) then (ht_bn (fX8_isSheet x3) (fun o_4 => if o_4 = 0 then (fX8_shelf_n_b59 RX RN RG RY RZ x1 x2 vY_v vZ_v) else (ht_gd (ht_ix x3 4) (ht_gd (decide (RG x3.toNatClampNeg = none)) (ht_bn (fX8_placeOnShelf_n RX vY_v vZ_v x1 (-1 : Int32)) (fun o_8 => some ((1 : Int32), o_8.1, o_8.2))))))) else (fX8_shelf_n_b59 RX RN RG RY RZ x1 x2 vY_v vZ_v)
def fX8_shelf_n (RX : HTV) (RN : TownV) (RG : AQ) (RY : AI) (RZ : AQ) (p0 : Int32) (p1 : Int32) (p2 : Int32) : Option (Int32 × AI × AQ) := ht_bn (fX8_isShelf p0) (fun o_9 => if o_9 = 0 then (some ((-1 : Int32), RY, RZ)) else (if p1 = 0 then (ht_bn (fX6_has RN p2) (fun o_12 => if o_12 = 0 then (fX8_shelf_n_b33 RX RN RG RY RZ p0 p1 p2 RY RZ) else (ht_bn (fX8_placeOnShelf_n RX RY RZ p0 p2) (fun o_14 => some ((1 : Int32), o_14.1, o_14.2))))) else (fX8_shelf_n_b33 RX RN RG RY RZ p0 p1 p2 RY RZ)))
set_option maxHeartbeats 1000000 in
set_option maxRecDepth 100000 in
theorem ctX8_shelf_n (l : Launch) (D : va_G) (K : Nat → ClassId) (jX : Nat) (jN : Nat) (aN : Nat → Nat) (jG : Nat) (jY : Nat) (jZ : Nat) (kX_kept : Nat) (kX_tried : Nat) (kX_trials : Nat) (kX_pairings : Nat) (kX_tape : Nat) (kX_telling : Nat) (kX_dayRows : Nat) (kX_deed : Nat) (RX : HTV) (RN : TownV) (RG : AQ) (RY : AI) (RZ : AQ) (p0 : Int32) (p1 : Int32) (p2 : Int32) (o : (Int32 × AI × AQ)) (hf : fX8_shelf_n RX RN RG RY RZ p0 p1 p2 = some o) (sz : Nat) : Met l yX8_shelf wsX8_shelf rmX8_shelf_n (ht_Pre D K [.ref jX, .int p0, .int p1, .int p2] (wHT K jX jN kX_kept kX_tried kX_trials kX_pairings kX_tape kX_telling kX_dayRows kX_deed jG jY jZ RX.anythingKept ++ (wTw K jN aN RN.laws RN.kind RN.need RN.saved RN.voice RN.partner RN.speaks RN.count RN.day RN.heard RN.geese RN.z ++ (wAq K 4 jG RG ++ (wAr K 4 jY RY ++ (wAq K 4 jZ RZ))))) sz) (ht_Qi D K (wHT K jX jN kX_kept kX_tried kX_trials kX_pairings kX_tape kX_telling kX_dayRows kX_deed jG jY jZ RX.anythingKept ++ (wTw K jN aN RN.laws RN.kind RN.need RN.saved RN.voice RN.partner RN.speaks RN.count RN.day RN.heard RN.geese RN.z ++ (wAq K 4 jG RG ++ (wAr K 4 jY o.2.1 ++ (wAq K 4 jZ o.2.2))))) o.1 (va_A (wHT K jX jN kX_kept kX_tried kX_trials kX_pairings kX_tape kX_telling kX_dayRows kX_deed jG jY jZ RX.anythingKept ++ (wTw K jN aN RN.laws RN.kind RN.need RN.saved RN.voice RN.partner RN.speaks RN.count RN.day RN.heard RN.geese RN.z ++ (wAq K 4 jG RG ++ (wAr K 4 jY RY ++ (wAq K 4 jZ RZ))))) sz)) 0 0 (va_A (wHT K jX jN kX_kept kX_tried kX_trials kX_pairings kX_tape kX_telling kX_dayRows kX_deed jG jY jZ RX.anythingKept ++ (wTw K jN aN RN.laws RN.kind RN.need RN.saved RN.voice RN.partner RN.speaks RN.count RN.day RN.heard RN.geese RN.z ++ (wAq K 4 jG RG ++ (wAr K 4 jY RY ++ (wAq K 4 jZ RZ))))) sz) := by
  refine ht_enter (Qf := ht_Qi D K (wHT K jX jN kX_kept kX_tried kX_trials kX_pairings kX_tape kX_telling kX_dayRows kX_deed jG jY jZ RX.anythingKept ++ (wTw K jN aN RN.laws RN.kind RN.need RN.saved RN.voice RN.partner RN.speaks RN.count RN.day RN.heard RN.geese RN.z ++ (wAq K 4 jG RG ++ (wAr K 4 jY o.2.1 ++ (wAq K 4 jZ o.2.2))))) o.1) (cc := cX8_shelf) (maxL := 4) (rt := (some .int)) (by decide) rfl (Nat.le_of_ble_eq_true rfl) ?_ sz
  intro p e s m below meth c A Q H locs ls hQ hx hb hr hlk hmn hml hown hts hA hK hP hD hS hl
  have hown : s.vm.findClass RX8 = some m.cls := hown
  have hF : CallFix p m c cX8_shelf 4 s ([.ref jX, .int p0, .int p1, .int p2] : List Value).toArray wsX8_shelf RX8 := ⟨hx, hb, hml, hown, hts⟩
  have hl : lv_has ls 4 [(0, .ref jX), (1, .int p0), (2, .int p1), (3, .int p2)] := hl
  have iw8 : ∀ w ∈ u_ws RX8 TX8 13, w ∈ wsX8_shelf := by decide +kernel
  have kw1 := hts (.fieldLink RX8 72 "HeldTongues" "sheets" "[LHeldTongues$SheetRow;") (by decide +kernel)
  have kw2 := hts (.fieldLink RX8 10 "HeldTongues" "now" "LHeldTongues$Town;") (by decide +kernel)
  have b59 : ∀ (x1 : Int32) (x2 : Int32) (vY_v : AI) (vZ_v : AQ) (H : Heap) (locs : List Loc) (ls : Array Slot), fX8_shelf_n_b59 RX RN RG RY RZ x1 x2 vY_v vZ_v = some o → va_P D vwCl (wHT K jX jN kX_kept kX_tried kX_trials kX_pairings kX_tape kX_telling kX_dayRows kX_deed jG jY jZ RX.anythingKept ++ (wTw K jN aN RN.laws RN.kind RN.need RN.saved RN.voice RN.partner RN.speaks RN.count RN.day RN.heard RN.geese RN.z ++ (wAq K 4 jG RG ++ (wAr K 4 jY vY_v ++ (wAq K 4 jZ vZ_v))))) H → va_D A (wHT K jX jN kX_kept kX_tried kX_trials kX_pairings kX_tape kX_telling kX_dayRows kX_deed jG jY jZ RX.anythingKept ++ (wTw K jN aN RN.laws RN.kind RN.need RN.saved RN.voice RN.partner RN.speaks RN.count RN.day RN.heard RN.geese RN.z ++ (wAq K 4 jG RG ++ (wAr K 4 jY vY_v ++ (wAq K 4 jZ vZ_v))))) → va_S A s.heap H locs → lv_has ls 4 [(0, .ref jX), (1, .int x1), (2, .int x2)] → W p l e (headSpec wsX8_shelf rmX8_shelf_n).room s m ([.ref jX, .int p0, .int p1, .int p2] : List Value).toArray below meth c H locs 0 0 Q (F0 m 59 ls []) := by
    intro x1 x2 vY_v vZ_v H locs ls hf hP hD hS hl
    delta fX8_shelf_n_b59 at hf
    refine lv_iload_n hx hb dX8_shelf_59 rfl (lv_at hl 2 rfl) ?_
    refine lv_iconst (v := 2) hx hb dX8_shelf_60 (by decide) ?_
    refine lv_icmp_ne (tgt := 73) hx hb dX8_shelf_61 (by decide) (fun c_1 => ?_) (fun c_1 => ?_)
    · replace hf := ht_f c_1 hf
      refine lv_iconst (v := -1) hx hb dX8_shelf_73 (by decide) ?_
      have ho := Option.some.inj hf
      subst ho; subst hQ
      exact ht_iret hx hb hr hlk rfl hK hP hD hS dX8_shelf_74
    · replace hf := ht_t c_1 hf
      refine lv_aload_n hx hb dX8_shelf_64 rfl (lv_at hl 0 rfl) ?_
      refine lv_iload_n hx hb dX8_shelf_65 rfl (lv_at hl 1 rfl) ?_
      refine lv_iconst (v := -1) hx hb dX8_shelf_66 (by decide) ?_
      refine lv_null hx hb dX8_shelf_67 ?_
      obtain ⟨o_2, ho_2, hf⟩ := ht_bn_ob hf
      refine ht_callVv (rest := []) (As := [.int x1, .int (-1 : Int32), .null]) (wc := (wHT K jX jN kX_kept kX_tried kX_trials kX_pairings kX_tape kX_telling kX_dayRows kX_deed jG jY jZ RX.anythingKept ++ (wAr K 4 jY vY_v ++ (wAq K 4 jZ vZ_v)))) (wr := (wTw K jN aN RN.laws RN.kind RN.need RN.saved RN.voice RN.partner RN.speaks RN.count RN.day RN.heard RN.geese RN.z ++ (wAq K 4 jG RG))) (w1 := (wHT K jX jN kX_kept kX_tried kX_trials kX_pairings kX_tape kX_telling kX_dayRows kX_deed jG jY jZ RX.anythingKept ++ (wAr K 4 jY o_2.1 ++ (wAq K 4 jZ o_2.2)))) (w2 := (wHT K jX jN kX_kept kX_tried kX_trials kX_pairings kX_tape kX_telling kX_dayRows kX_deed jG jY jZ RX.anythingKept ++ (wTw K jN aN RN.laws RN.kind RN.need RN.saved RN.voice RN.partner RN.speaks RN.count RN.day RN.heard RN.geese RN.z ++ (wAq K 4 jG RG ++ (wAr K 4 jY o_2.1 ++ (wAq K 4 jZ o_2.2)))))) hF (ctX8_placeOnShelf_n l D K jX jY jZ jN kX_kept kX_tried kX_trials kX_pairings kX_tape kX_telling kX_dayRows kX_deed jG RX vY_v vZ_v x1 (-1 : Int32) o_2 ho_2 H.size) (cwV 3 hts gX8_shelf_X8_placeOnShelf rfl rfl rfl hdX8_placeOnShelf ⟨Nat.le_of_ble_eq_true rfl, Nat.le_of_ble_eq_true rfl⟩) hK hP hD hS hA [0, 10, 11] [1, 2, 3, 4, 5, 6, 7, 8, 9] rfl rfl (by decide) (by decide) (by decide) [9, 0, 1, 2, 3, 4, 5, 6, 7, 8, 10, 11] rfl (by decide) (va_recv hK hP (ci := 8) (q0 := 0) rfl rfl) rfl hl.1 rfl (Nat.le_of_ble_eq_true rfl) dX8_shelf_68 ⟨Nat.zero_le _, Nat.zero_le _⟩ (fun H locs hP hD hS => ?_)
      refine lv_iconst (v := 1) hx hb dX8_shelf_71 (by decide) ?_
      have ho := Option.some.inj hf
      subst ho; subst hQ
      exact ht_iret hx hb hr hlk rfl hK hP hD hS dX8_shelf_72
  have b33 : ∀ (x1 : Int32) (x2 : Int32) (x3 : Int32) (vY_v : AI) (vZ_v : AQ) (H : Heap) (locs : List Loc) (ls : Array Slot), fX8_shelf_n_b33 RX RN RG RY RZ x1 x2 x3 vY_v vZ_v = some o → va_P D vwCl (wHT K jX jN kX_kept kX_tried kX_trials kX_pairings kX_tape kX_telling kX_dayRows kX_deed jG jY jZ RX.anythingKept ++ (wTw K jN aN RN.laws RN.kind RN.need RN.saved RN.voice RN.partner RN.speaks RN.count RN.day RN.heard RN.geese RN.z ++ (wAq K 4 jG RG ++ (wAr K 4 jY vY_v ++ (wAq K 4 jZ vZ_v))))) H → va_D A (wHT K jX jN kX_kept kX_tried kX_trials kX_pairings kX_tape kX_telling kX_dayRows kX_deed jG jY jZ RX.anythingKept ++ (wTw K jN aN RN.laws RN.kind RN.need RN.saved RN.voice RN.partner RN.speaks RN.count RN.day RN.heard RN.geese RN.z ++ (wAq K 4 jG RG ++ (wAr K 4 jY vY_v ++ (wAq K 4 jZ vZ_v))))) → va_S A s.heap H locs → lv_has ls 4 [(0, .ref jX), (1, .int x1), (2, .int x2), (3, .int x3)] → W p l e (headSpec wsX8_shelf rmX8_shelf_n).room s m ([.ref jX, .int p0, .int p1, .int p2] : List Value).toArray below meth c H locs 0 0 Q (F0 m 33 ls []) := by
    intro x1 x2 x3 vY_v vZ_v H locs ls hf hP hD hS hl
    delta fX8_shelf_n_b33 at hf
    refine lv_iload_n hx hb dX8_shelf_33 rfl (lv_at hl 2 rfl) ?_
    refine lv_iconst (v := 1) hx hb dX8_shelf_34 (by decide) ?_
    refine lv_icmp_ne (tgt := 59) hx hb dX8_shelf_35 (by decide) (fun c_3 => ?_) (fun c_3 => ?_)
    · replace hf := ht_f c_3 hf
      exact b59  x1 x2 vY_v vZ_v _ _ _ hf hP hD hS (lv_sub hl [0, 1, 2] rfl)
    · replace hf := ht_t c_3 hf
      refine lv_iload_n hx hb dX8_shelf_38 rfl (lv_at hl 3 rfl) ?_
      obtain ⟨o_4, ho_4, hf⟩ := ht_bn_ob hf
      refine ht_callSi (r := o_4) (rest := []) (As := [.int x3]) (wc := []) (wr := (wHT K jX jN kX_kept kX_tried kX_trials kX_pairings kX_tape kX_telling kX_dayRows kX_deed jG jY jZ RX.anythingKept ++ (wTw K jN aN RN.laws RN.kind RN.need RN.saved RN.voice RN.partner RN.speaks RN.count RN.day RN.heard RN.geese RN.z ++ (wAq K 4 jG RG ++ (wAr K 4 jY vY_v ++ (wAq K 4 jZ vZ_v)))))) (w1 := []) (w2 := (wHT K jX jN kX_kept kX_tried kX_trials kX_pairings kX_tape kX_telling kX_dayRows kX_deed jG jY jZ RX.anythingKept ++ (wTw K jN aN RN.laws RN.kind RN.need RN.saved RN.voice RN.partner RN.speaks RN.count RN.day RN.heard RN.geese RN.z ++ (wAq K 4 jG RG ++ (wAr K 4 jY vY_v ++ (wAq K 4 jZ vZ_v)))))) hF (ctX8_isSheet l D K x3 o_4 ho_4 H.size) (va_cwS 1 hts gX8_shelf_X8_isSheet rfl rfl rfl hdX8_isSheet ⟨Nat.le_of_ble_eq_true rfl, Nat.le_of_ble_eq_true rfl⟩) hK hP hD hS hA [] [0, 1, 2, 3, 4, 5, 6, 7, 8, 9, 10, 11] rfl rfl (by decide) (by decide) (by decide) [0, 1, 2, 3, 4, 5, 6, 7, 8, 9, 10, 11] rfl (by decide) rfl hl.1 rfl (Nat.le_of_ble_eq_true rfl) dX8_shelf_39 ⟨Nat.zero_le _, Nat.zero_le _⟩ (fun H locs hP hD hS => ?_)
      refine lv_if_eq (tgt := 59) hx hb dX8_shelf_42 (by decide) (fun c_5 => ?_) (fun c_5 => ?_)
      · replace hf := ht_t c_5 hf
        exact b59  x1 x2 vY_v vZ_v _ _ _ hf hP hD hS (lv_sub hl [0, 1, 2] rfl)
      · replace hf := ht_f c_5 hf
        refine lv_aload_n hx hb dX8_shelf_45 rfl (lv_at hl 0 rfl) ?_
        refine lv_iload_n hx hb dX8_shelf_46 rfl (lv_at hl 1 rfl) ?_
        refine lv_iconst (v := -1) hx hb dX8_shelf_47 (by decide) ?_
        refine lv_aload_n hx hb dX8_shelf_48 rfl (lv_at hl 0 rfl) ?_
        refine va_get (D := D) (ci := 8) (v := .ref jG) (C := RX8) (T := TX8) (N := 13) hx hb hts iw8 hown hK hP 0 rfl rfl 9 (by decide) kw1 (fun _ h9 => h9) rfl dX8_shelf_49 ?_
        refine lv_iload_n hx hb dX8_shelf_52 rfl (lv_at hl 3 rfl) ?_
        obtain ⟨g_6, hf⟩ := ht_gd_ob hf
        obtain ⟨g_7, hf⟩ := ht_gd_ob hf
        refine va_aldq hx hb hK hP 9 4 rfl rfl (ht_ix_in g_6) dX8_shelf_53 ?_
        refine W.eq (g2 := F0 m 54 ls [.null, .int (-1 : Int32), .int x1, .ref jX]) (by rw [of_decide_eq_true g_7]; rfl) ?_
        obtain ⟨o_8, ho_8, hf⟩ := ht_bn_ob hf
        refine ht_callVv (rest := []) (As := [.int x1, .int (-1 : Int32), .null]) (wc := (wHT K jX jN kX_kept kX_tried kX_trials kX_pairings kX_tape kX_telling kX_dayRows kX_deed jG jY jZ RX.anythingKept ++ (wAr K 4 jY vY_v ++ (wAq K 4 jZ vZ_v)))) (wr := (wTw K jN aN RN.laws RN.kind RN.need RN.saved RN.voice RN.partner RN.speaks RN.count RN.day RN.heard RN.geese RN.z ++ (wAq K 4 jG RG))) (w1 := (wHT K jX jN kX_kept kX_tried kX_trials kX_pairings kX_tape kX_telling kX_dayRows kX_deed jG jY jZ RX.anythingKept ++ (wAr K 4 jY o_8.1 ++ (wAq K 4 jZ o_8.2)))) (w2 := (wHT K jX jN kX_kept kX_tried kX_trials kX_pairings kX_tape kX_telling kX_dayRows kX_deed jG jY jZ RX.anythingKept ++ (wTw K jN aN RN.laws RN.kind RN.need RN.saved RN.voice RN.partner RN.speaks RN.count RN.day RN.heard RN.geese RN.z ++ (wAq K 4 jG RG ++ (wAr K 4 jY o_8.1 ++ (wAq K 4 jZ o_8.2)))))) hF (ctX8_placeOnShelf_n l D K jX jY jZ jN kX_kept kX_tried kX_trials kX_pairings kX_tape kX_telling kX_dayRows kX_deed jG RX vY_v vZ_v x1 (-1 : Int32) o_8 ho_8 H.size) (cwV 3 hts gX8_shelf_X8_placeOnShelf rfl rfl rfl hdX8_placeOnShelf ⟨Nat.le_of_ble_eq_true rfl, Nat.le_of_ble_eq_true rfl⟩) hK hP hD hS hA [0, 10, 11] [1, 2, 3, 4, 5, 6, 7, 8, 9] rfl rfl (by decide) (by decide) (by decide) [9, 0, 1, 2, 3, 4, 5, 6, 7, 8, 10, 11] rfl (by decide) (va_recv hK hP (ci := 8) (q0 := 0) rfl rfl) rfl hl.1 rfl (Nat.le_of_ble_eq_true rfl) dX8_shelf_54 ⟨Nat.zero_le _, Nat.zero_le _⟩ (fun H locs hP hD hS => ?_)
        refine lv_iconst (v := 1) hx hb dX8_shelf_57 (by decide) ?_
        have ho := Option.some.inj hf
        subst ho; subst hQ
        exact ht_iret hx hb hr hlk rfl hK hP hD hS dX8_shelf_58
  delta fX8_shelf_n at hf
  refine lv_iload_n hx hb dX8_shelf_0 rfl (lv_at hl 1 rfl) ?_
  obtain ⟨o_9, ho_9, hf⟩ := ht_bn_ob hf
  refine ht_callSi (r := o_9) (rest := []) (As := [.int p0]) (wc := []) (wr := (wHT K jX jN kX_kept kX_tried kX_trials kX_pairings kX_tape kX_telling kX_dayRows kX_deed jG jY jZ RX.anythingKept ++ (wTw K jN aN RN.laws RN.kind RN.need RN.saved RN.voice RN.partner RN.speaks RN.count RN.day RN.heard RN.geese RN.z ++ (wAq K 4 jG RG ++ (wAr K 4 jY RY ++ (wAq K 4 jZ RZ)))))) (w1 := []) (w2 := (wHT K jX jN kX_kept kX_tried kX_trials kX_pairings kX_tape kX_telling kX_dayRows kX_deed jG jY jZ RX.anythingKept ++ (wTw K jN aN RN.laws RN.kind RN.need RN.saved RN.voice RN.partner RN.speaks RN.count RN.day RN.heard RN.geese RN.z ++ (wAq K 4 jG RG ++ (wAr K 4 jY RY ++ (wAq K 4 jZ RZ)))))) hF (ctX8_isShelf l D K p0 o_9 ho_9 H.size) (va_cwS 1 hts gX8_shelf_X8_isShelf rfl rfl rfl hdX8_isShelf ⟨Nat.le_of_ble_eq_true rfl, Nat.le_of_ble_eq_true rfl⟩) hK hP hD hS hA [] [0, 1, 2, 3, 4, 5, 6, 7, 8, 9, 10, 11] rfl rfl (by decide) (by decide) (by decide) [0, 1, 2, 3, 4, 5, 6, 7, 8, 9, 10, 11] rfl (by decide) rfl hl.1 rfl (Nat.le_of_ble_eq_true rfl) dX8_shelf_1 ⟨Nat.zero_le _, Nat.zero_le _⟩ (fun H locs hP hD hS => ?_)
  refine lv_if_ne (tgt := 9) hx hb dX8_shelf_4 (by decide) (fun c_10 => ?_) (fun c_10 => ?_)
  · replace hf := ht_f c_10 hf
    refine lv_iload_n hx hb dX8_shelf_9 rfl (lv_at hl 2 rfl) ?_
    refine lv_if_ne (tgt := 33) hx hb dX8_shelf_10 (by decide) (fun c_11 => ?_) (fun c_11 => ?_)
    · replace hf := ht_f c_11 hf
      exact b33  p0 p1 p2 RY RZ _ _ _ hf hP hD hS hl
    · replace hf := ht_t c_11 hf
      refine lv_aload_n hx hb dX8_shelf_13 rfl (lv_at hl 0 rfl) ?_
      refine va_get (D := D) (ci := 8) (v := .ref jN) (C := RX8) (T := TX8) (N := 13) hx hb hts iw8 hown hK hP 0 rfl rfl 0 (by decide) kw2 (fun _ h9 => h9) rfl dX8_shelf_14 ?_
      refine lv_iload_n hx hb dX8_shelf_17 rfl (lv_at hl 3 rfl) ?_
      obtain ⟨o_12, ho_12, hf⟩ := ht_bn_ob hf
      refine ht_callVi (r := o_12) (rest := []) (As := [.int p2]) (wc := (wTw K jN aN RN.laws RN.kind RN.need RN.saved RN.voice RN.partner RN.speaks RN.count RN.day RN.heard RN.geese RN.z)) (wr := (wHT K jX jN kX_kept kX_tried kX_trials kX_pairings kX_tape kX_telling kX_dayRows kX_deed jG jY jZ RX.anythingKept ++ (wAq K 4 jG RG ++ (wAr K 4 jY RY ++ (wAq K 4 jZ RZ))))) (w1 := (wTw K jN aN RN.laws RN.kind RN.need RN.saved RN.voice RN.partner RN.speaks RN.count RN.day RN.heard RN.geese RN.z)) (w2 := (wHT K jX jN kX_kept kX_tried kX_trials kX_pairings kX_tape kX_telling kX_dayRows kX_deed jG jY jZ RX.anythingKept ++ (wTw K jN aN RN.laws RN.kind RN.need RN.saved RN.voice RN.partner RN.speaks RN.count RN.day RN.heard RN.geese RN.z ++ (wAq K 4 jG RG ++ (wAr K 4 jY RY ++ (wAq K 4 jZ RZ)))))) hF (ctX6_has l D K jN aN RN p2 o_12 ho_12 H.size) (cwV 1 hts gX8_shelf_X6_has rfl rfl rfl hdX6_has ⟨Nat.le_of_ble_eq_true rfl, Nat.le_of_ble_eq_true rfl⟩) hK hP hD hS hA [1, 2, 3, 4, 5, 6, 7, 8] [0, 9, 10, 11] rfl rfl (by decide) (by decide) (by decide) [0, 4, 5, 6, 7, 8, 9, 10, 11, 1, 2, 3] rfl (by decide) (va_recv hK hP (ci := 6) (q0 := 1) rfl rfl) rfl hl.1 rfl (Nat.le_of_ble_eq_true rfl) dX8_shelf_18 ⟨Nat.zero_le _, Nat.zero_le _⟩ (fun H locs hP hD hS => ?_)
      refine lv_if_eq (tgt := 33) hx hb dX8_shelf_21 (by decide) (fun c_13 => ?_) (fun c_13 => ?_)
      · replace hf := ht_t c_13 hf
        exact b33  p0 p1 p2 RY RZ _ _ _ hf hP hD hS hl
      · replace hf := ht_f c_13 hf
        refine lv_aload_n hx hb dX8_shelf_24 rfl (lv_at hl 0 rfl) ?_
        refine lv_iload_n hx hb dX8_shelf_25 rfl (lv_at hl 1 rfl) ?_
        refine lv_iload_n hx hb dX8_shelf_26 rfl (lv_at hl 3 rfl) ?_
        refine lv_null hx hb dX8_shelf_27 ?_
        obtain ⟨o_14, ho_14, hf⟩ := ht_bn_ob hf
        refine ht_callVv (rest := []) (As := [.int p0, .int p2, .null]) (wc := (wHT K jX jN kX_kept kX_tried kX_trials kX_pairings kX_tape kX_telling kX_dayRows kX_deed jG jY jZ RX.anythingKept ++ (wAr K 4 jY RY ++ (wAq K 4 jZ RZ)))) (wr := (wTw K jN aN RN.laws RN.kind RN.need RN.saved RN.voice RN.partner RN.speaks RN.count RN.day RN.heard RN.geese RN.z ++ (wAq K 4 jG RG))) (w1 := (wHT K jX jN kX_kept kX_tried kX_trials kX_pairings kX_tape kX_telling kX_dayRows kX_deed jG jY jZ RX.anythingKept ++ (wAr K 4 jY o_14.1 ++ (wAq K 4 jZ o_14.2)))) (w2 := (wHT K jX jN kX_kept kX_tried kX_trials kX_pairings kX_tape kX_telling kX_dayRows kX_deed jG jY jZ RX.anythingKept ++ (wTw K jN aN RN.laws RN.kind RN.need RN.saved RN.voice RN.partner RN.speaks RN.count RN.day RN.heard RN.geese RN.z ++ (wAq K 4 jG RG ++ (wAr K 4 jY o_14.1 ++ (wAq K 4 jZ o_14.2)))))) hF (ctX8_placeOnShelf_n l D K jX jY jZ jN kX_kept kX_tried kX_trials kX_pairings kX_tape kX_telling kX_dayRows kX_deed jG RX RY RZ p0 p2 o_14 ho_14 H.size) (cwV 3 hts gX8_shelf_X8_placeOnShelf rfl rfl rfl hdX8_placeOnShelf ⟨Nat.le_of_ble_eq_true rfl, Nat.le_of_ble_eq_true rfl⟩) hK hP hD hS hA [0, 10, 11] [1, 2, 3, 4, 5, 6, 7, 8, 9] rfl rfl (by decide) (by decide) (by decide) [9, 0, 1, 2, 3, 4, 5, 6, 7, 8, 10, 11] rfl (by decide) (va_recv hK hP (ci := 8) (q0 := 0) rfl rfl) rfl hl.1 rfl (Nat.le_of_ble_eq_true rfl) dX8_shelf_28 ⟨Nat.zero_le _, Nat.zero_le _⟩ (fun H locs hP hD hS => ?_)
        refine lv_iconst (v := 1) hx hb dX8_shelf_31 (by decide) ?_
        have ho := Option.some.inj hf
        subst ho; subst hQ
        exact ht_iret hx hb hr hlk rfl hK hP hD hS dX8_shelf_32
  · replace hf := ht_t c_10 hf
    refine lv_iconst (v := -1) hx hb dX8_shelf_7 (by decide) ?_
    have ho := Option.some.inj hf
    subst ho; subst hQ
    exact ht_iret hx hb hr hlk rfl hK hP hD hS dX8_shelf_8
abbrev rmX8_taken_s : Room := { frames := 2, cells := 0, slots := 0, locals := 42 }
theorem hdX8_taken : yX8_taken.cls = RX8 ∧ yX8_taken.cls ≠ "java/lang/invoke/MethodHandle" ∧ yX8_taken.cls ≠ "java/lang/invoke/VarHandle" ∧ (parseMethodDescriptor yX8_taken.desc).map (fun d => d.parameters.length) = some 2 := by decide +kernel
def fX8_taken_s_b29 (jW : Nat) (RX : HTV) (RN : TownV) (RY : AI) (RZ : AQ) (RW : RowV) (x1 : Int32) (x2 : Int32) : Option Int32 := ht_gd (ht_ix x1 4) (ht_gd (decide (RZ x1.toNatClampNeg = some jW)) (if RW.sort = (x2 - (10 : Int32)) then (some (Int32.ofNat RW.len)) else (some (-13 : Int32))))
def fX8_taken_s (jW : Nat) (RX : HTV) (RN : TownV) (RY : AI) (RZ : AQ) (RW : RowV) (p0 : Int32) (p1 : Int32) : Option Int32 := ht_bn (fX8_within p1 (10 : Int32) (13 : Int32)) (fun o_4 => ht_bn (fX8_isShelf p0) (fun o_5 => if o_5 = 0 then (some (-1 : Int32)) else (ht_bn (fX8_isKind p1) (fun o_7 => if o_7 = 0 then (if o_4 = 0 then (some (-1 : Int32)) else (fX8_taken_s_b29 jW RX RN RY RZ RW p0 p1)) else (fX8_taken_s_b29 jW RX RN RY RZ RW p0 p1)))))
set_option maxHeartbeats 1000000 in
set_option maxRecDepth 100000 in
theorem ctX8_taken_s (l : Launch) (D : va_G) (K : Nat → ClassId) (jX : Nat) (jN : Nat) (aN : Nat → Nat) (jY : Nat) (jZ : Nat) (jW : Nat) (aW : Nat → Nat) (kX_kept : Nat) (kX_tried : Nat) (kX_trials : Nat) (kX_pairings : Nat) (kX_tape : Nat) (kX_telling : Nat) (kX_dayRows : Nat) (kX_deed : Nat) (kX_sheets : Nat) (RX : HTV) (RN : TownV) (RY : AI) (RZ : AQ) (RW : RowV) (p0 : Int32) (p1 : Int32) (o : Int32) (hf : fX8_taken_s jW RX RN RY RZ RW p0 p1 = some o) (sz : Nat) : Met l yX8_taken wsX8_taken rmX8_taken_s (ht_Pre D K [.ref jX, .int p0, .int p1] (wHT K jX jN kX_kept kX_tried kX_trials kX_pairings kX_tape kX_telling kX_dayRows kX_deed kX_sheets jY jZ RX.anythingKept ++ (wTw K jN aN RN.laws RN.kind RN.need RN.saved RN.voice RN.partner RN.speaks RN.count RN.day RN.heard RN.geese RN.z ++ (wAr K 4 jY RY ++ (wAq K 4 jZ RZ ++ (wRo K jW aW RW.sort RW.items RW.len))))) sz) (ht_Qi D K (wHT K jX jN kX_kept kX_tried kX_trials kX_pairings kX_tape kX_telling kX_dayRows kX_deed kX_sheets jY jZ RX.anythingKept ++ (wTw K jN aN RN.laws RN.kind RN.need RN.saved RN.voice RN.partner RN.speaks RN.count RN.day RN.heard RN.geese RN.z ++ (wAr K 4 jY RY ++ (wAq K 4 jZ RZ ++ (wRo K jW aW RW.sort RW.items RW.len))))) o (va_A (wHT K jX jN kX_kept kX_tried kX_trials kX_pairings kX_tape kX_telling kX_dayRows kX_deed kX_sheets jY jZ RX.anythingKept ++ (wTw K jN aN RN.laws RN.kind RN.need RN.saved RN.voice RN.partner RN.speaks RN.count RN.day RN.heard RN.geese RN.z ++ (wAr K 4 jY RY ++ (wAq K 4 jZ RZ ++ (wRo K jW aW RW.sort RW.items RW.len))))) sz)) 0 0 (va_A (wHT K jX jN kX_kept kX_tried kX_trials kX_pairings kX_tape kX_telling kX_dayRows kX_deed kX_sheets jY jZ RX.anythingKept ++ (wTw K jN aN RN.laws RN.kind RN.need RN.saved RN.voice RN.partner RN.speaks RN.count RN.day RN.heard RN.geese RN.z ++ (wAr K 4 jY RY ++ (wAq K 4 jZ RZ ++ (wRo K jW aW RW.sort RW.items RW.len))))) sz) := by
  refine ht_enter (Qf := ht_Qi D K (wHT K jX jN kX_kept kX_tried kX_trials kX_pairings kX_tape kX_telling kX_dayRows kX_deed kX_sheets jY jZ RX.anythingKept ++ (wTw K jN aN RN.laws RN.kind RN.need RN.saved RN.voice RN.partner RN.speaks RN.count RN.day RN.heard RN.geese RN.z ++ (wAr K 4 jY RY ++ (wAq K 4 jZ RZ ++ (wRo K jW aW RW.sort RW.items RW.len))))) o) (cc := cX8_taken) (maxL := 6) (rt := (some .int)) (by decide) rfl (Nat.le_of_ble_eq_true rfl) ?_ sz
  intro p e s m below meth c A Q H locs ls hQ hx hb hr hlk hmn hml hown hts hA hK hP hD hS hl
  have hown : s.vm.findClass RX8 = some m.cls := hown
  have hF : CallFix p m c cX8_taken 6 s ([.ref jX, .int p0, .int p1] : List Value).toArray wsX8_taken RX8 := ⟨hx, hb, hml, hown, hts⟩
  have hl : lv_has ls 6 [(0, .ref jX), (1, .int p0), (2, .int p1)] := hl
  have iw8 : ∀ w ∈ u_ws RX8 TX8 13, w ∈ wsX8_taken := by decide +kernel
  have kw1 := hts (.fieldLink RX8 80 "HeldTongues" "shelvedRow" "[LHeldTongues$SheetRow;") (by decide +kernel)
  have iw3 : ∀ w ∈ u_ws RX3 TX3 2, w ∈ wsX8_taken := by decide +kernel
  have kw3 := hts (.fieldLink RX8 278 "HeldTongues$SheetRow" "sort" "I") (by decide +kernel)
  have kw4 := hts (.fieldLink RX8 281 "HeldTongues$SheetRow" "items" "[J") (by decide +kernel)
  have b29 : ∀ (x1 : Int32) (x2 : Int32) (H : Heap) (locs : List Loc) (ls : Array Slot), fX8_taken_s_b29 jW RX RN RY RZ RW x1 x2 = some o → va_P D vwCl (wHT K jX jN kX_kept kX_tried kX_trials kX_pairings kX_tape kX_telling kX_dayRows kX_deed kX_sheets jY jZ RX.anythingKept ++ (wTw K jN aN RN.laws RN.kind RN.need RN.saved RN.voice RN.partner RN.speaks RN.count RN.day RN.heard RN.geese RN.z ++ (wAr K 4 jY RY ++ (wAq K 4 jZ RZ ++ (wRo K jW aW RW.sort RW.items RW.len))))) H → va_D A (wHT K jX jN kX_kept kX_tried kX_trials kX_pairings kX_tape kX_telling kX_dayRows kX_deed kX_sheets jY jZ RX.anythingKept ++ (wTw K jN aN RN.laws RN.kind RN.need RN.saved RN.voice RN.partner RN.speaks RN.count RN.day RN.heard RN.geese RN.z ++ (wAr K 4 jY RY ++ (wAq K 4 jZ RZ ++ (wRo K jW aW RW.sort RW.items RW.len))))) → va_S A s.heap H locs → lv_has ls 6 [(0, .ref jX), (1, .int x1), (2, .int x2)] → W p l e (headSpec wsX8_taken rmX8_taken_s).room s m ([.ref jX, .int p0, .int p1] : List Value).toArray below meth c H locs 0 0 Q (F0 m 29 ls []) := by
    intro x1 x2 H locs ls hf hP hD hS hl
    delta fX8_taken_s_b29 at hf
    refine lv_aload_n hx hb dX8_taken_29 rfl (lv_at hl 0 rfl) ?_
    refine va_get (D := D) (ci := 8) (v := .ref jZ) (C := RX8) (T := TX8) (N := 13) hx hb hts iw8 hown hK hP 0 rfl rfl 11 (by decide) kw1 (fun _ h9 => h9) rfl dX8_taken_30 ?_
    refine lv_iload_n hx hb dX8_taken_33 rfl (lv_at hl 1 rfl) ?_
    obtain ⟨g_1, hf⟩ := ht_gd_ob hf
    obtain ⟨g_2, hf⟩ := ht_gd_ob hf
    refine va_aldq hx hb hK hP 10 4 rfl rfl (ht_ix_in g_1) dX8_taken_34 ?_
    refine W.eq (g2 := F0 m 35 ls [.ref jW]) (by rw [of_decide_eq_true g_2]; rfl) ?_
    refine lv_astore (lv' := [(4, .ref jW), (0, .ref jX), (1, .int x1), (2, .int x2)]) hx hb dX8_taken_35 hl (by decide) rfl (fun ls hl => ?_)
    refine lv_aload hx hb dX8_taken_37 (lv_at hl 0 rfl) ?_
    refine lv_ifnull hx hb dX8_taken_39 ?_
    refine lv_aload hx hb dX8_taken_42 (lv_at hl 0 rfl) ?_
    refine va_get (D := D) (ci := 3) (v := .int RW.sort) (C := RX3) (T := TX3) (N := 2) hx hb hts iw3 hown hK hP 11 rfl rfl 0 (by decide) kw3 (fun _ h9 => h9) rfl dX8_taken_44 ?_
    refine lv_iload_n hx hb dX8_taken_47 rfl (lv_at hl 3 rfl) ?_
    refine lv_bipush (v := 10) hx hb dX8_taken_48 (by decide) ?_
    refine lv_isub hx hb dX8_taken_50 ?_
    refine lv_icmp_ne (tgt := 63) hx hb dX8_taken_51 (by decide) (fun c_3 => ?_) (fun c_3 => ?_)
    · replace hf := ht_f c_3 hf
      refine lv_bipush (v := -13) hx hb dX8_taken_63 (by decide) ?_
      have ho := Option.some.inj hf
      subst ho; subst hQ
      exact ht_iret hx hb hr hlk rfl hK hP hD hS dX8_taken_65
    · replace hf := ht_t c_3 hf
      refine lv_aload hx hb dX8_taken_54 (lv_at hl 0 rfl) ?_
      refine va_get (D := D) (ci := 3) (v := .ref (aW 0)) (C := RX3) (T := TX3) (N := 2) hx hb hts iw3 hown hK hP 11 rfl rfl 1 (by decide) kw4 (fun _ h9 => h9) rfl dX8_taken_56 ?_
      refine va_alen (v := (Int32.ofNat RW.len)) hx hb hK hP 12 2 rfl rfl rfl dX8_taken_59 ?_
      refine lv_goto (tgt := 65) hx hb dX8_taken_60 (by decide) ?_
      have ho := Option.some.inj hf
      subst ho; subst hQ
      exact ht_iret hx hb hr hlk rfl hK hP hD hS dX8_taken_65
  delta fX8_taken_s at hf
  refine lv_iload_n hx hb dX8_taken_0 rfl (lv_at hl 2 rfl) ?_
  refine lv_bipush (v := 10) hx hb dX8_taken_1 (by decide) ?_
  refine lv_bipush (v := 13) hx hb dX8_taken_3 (by decide) ?_
  obtain ⟨o_4, ho_4, hf⟩ := ht_bn_ob hf
  refine ht_callSi (r := o_4) (rest := []) (As := [.int p1, .int (10 : Int32), .int (13 : Int32)]) (wc := []) (wr := (wHT K jX jN kX_kept kX_tried kX_trials kX_pairings kX_tape kX_telling kX_dayRows kX_deed kX_sheets jY jZ RX.anythingKept ++ (wTw K jN aN RN.laws RN.kind RN.need RN.saved RN.voice RN.partner RN.speaks RN.count RN.day RN.heard RN.geese RN.z ++ (wAr K 4 jY RY ++ (wAq K 4 jZ RZ ++ (wRo K jW aW RW.sort RW.items RW.len)))))) (w1 := []) (w2 := (wHT K jX jN kX_kept kX_tried kX_trials kX_pairings kX_tape kX_telling kX_dayRows kX_deed kX_sheets jY jZ RX.anythingKept ++ (wTw K jN aN RN.laws RN.kind RN.need RN.saved RN.voice RN.partner RN.speaks RN.count RN.day RN.heard RN.geese RN.z ++ (wAr K 4 jY RY ++ (wAq K 4 jZ RZ ++ (wRo K jW aW RW.sort RW.items RW.len)))))) hF (ctX8_within l D K p1 (10 : Int32) (13 : Int32) o_4 ho_4 H.size) (va_cwS 3 hts gX8_taken_X8_within rfl rfl rfl hdX8_within ⟨Nat.le_of_ble_eq_true rfl, Nat.le_of_ble_eq_true rfl⟩) hK hP hD hS hA [] [0, 1, 2, 3, 4, 5, 6, 7, 8, 9, 10, 11, 12] rfl rfl (by decide) (by decide) (by decide) [0, 1, 2, 3, 4, 5, 6, 7, 8, 9, 10, 11, 12] rfl (by decide) rfl hl.1 rfl (Nat.le_of_ble_eq_true rfl) dX8_taken_5 ⟨Nat.zero_le _, Nat.zero_le _⟩ (fun H locs hP hD hS => ?_)
  refine lv_istore_n (lv' := [(3, .int o_4), (0, .ref jX), (1, .int p0), (2, .int p1)]) hx hb dX8_taken_8 rfl hl (by decide) rfl (fun ls hl => ?_)
  refine lv_iload_n hx hb dX8_taken_9 rfl (lv_at hl 2 rfl) ?_
  obtain ⟨o_5, ho_5, hf⟩ := ht_bn_ob hf
  refine ht_callSi (r := o_5) (rest := []) (As := [.int p0]) (wc := []) (wr := (wHT K jX jN kX_kept kX_tried kX_trials kX_pairings kX_tape kX_telling kX_dayRows kX_deed kX_sheets jY jZ RX.anythingKept ++ (wTw K jN aN RN.laws RN.kind RN.need RN.saved RN.voice RN.partner RN.speaks RN.count RN.day RN.heard RN.geese RN.z ++ (wAr K 4 jY RY ++ (wAq K 4 jZ RZ ++ (wRo K jW aW RW.sort RW.items RW.len)))))) (w1 := []) (w2 := (wHT K jX jN kX_kept kX_tried kX_trials kX_pairings kX_tape kX_telling kX_dayRows kX_deed kX_sheets jY jZ RX.anythingKept ++ (wTw K jN aN RN.laws RN.kind RN.need RN.saved RN.voice RN.partner RN.speaks RN.count RN.day RN.heard RN.geese RN.z ++ (wAr K 4 jY RY ++ (wAq K 4 jZ RZ ++ (wRo K jW aW RW.sort RW.items RW.len)))))) hF (ctX8_isShelf l D K p0 o_5 ho_5 H.size) (va_cwS 1 hts gX8_taken_X8_isShelf rfl rfl rfl hdX8_isShelf ⟨Nat.le_of_ble_eq_true rfl, Nat.le_of_ble_eq_true rfl⟩) hK hP hD hS hA [] [0, 1, 2, 3, 4, 5, 6, 7, 8, 9, 10, 11, 12] rfl rfl (by decide) (by decide) (by decide) [0, 1, 2, 3, 4, 5, 6, 7, 8, 9, 10, 11, 12] rfl (by decide) rfl hl.1 rfl (Nat.le_of_ble_eq_true rfl) dX8_taken_10 ⟨Nat.zero_le _, Nat.zero_le _⟩ (fun H locs hP hD hS => ?_)
  refine lv_if_eq (tgt := 27) hx hb dX8_taken_13 (by decide) (fun c_6 => ?_) (fun c_6 => ?_)
  · replace hf := ht_t c_6 hf
    refine lv_iconst (v := -1) hx hb dX8_taken_27 (by decide) ?_
    have ho := Option.some.inj hf
    subst ho; subst hQ
    exact ht_iret hx hb hr hlk rfl hK hP hD hS dX8_taken_28
  · replace hf := ht_f c_6 hf
    refine lv_iload_n hx hb dX8_taken_16 rfl (lv_at hl 3 rfl) ?_
    obtain ⟨o_7, ho_7, hf⟩ := ht_bn_ob hf
    refine ht_callSi (r := o_7) (rest := []) (As := [.int p1]) (wc := []) (wr := (wHT K jX jN kX_kept kX_tried kX_trials kX_pairings kX_tape kX_telling kX_dayRows kX_deed kX_sheets jY jZ RX.anythingKept ++ (wTw K jN aN RN.laws RN.kind RN.need RN.saved RN.voice RN.partner RN.speaks RN.count RN.day RN.heard RN.geese RN.z ++ (wAr K 4 jY RY ++ (wAq K 4 jZ RZ ++ (wRo K jW aW RW.sort RW.items RW.len)))))) (w1 := []) (w2 := (wHT K jX jN kX_kept kX_tried kX_trials kX_pairings kX_tape kX_telling kX_dayRows kX_deed kX_sheets jY jZ RX.anythingKept ++ (wTw K jN aN RN.laws RN.kind RN.need RN.saved RN.voice RN.partner RN.speaks RN.count RN.day RN.heard RN.geese RN.z ++ (wAr K 4 jY RY ++ (wAq K 4 jZ RZ ++ (wRo K jW aW RW.sort RW.items RW.len)))))) hF (ctX8_isKind l D K p1 o_7 ho_7 H.size) (va_cwS 1 hts gX8_taken_X8_isKind rfl rfl rfl hdX8_isKind ⟨Nat.le_of_ble_eq_true rfl, Nat.le_of_ble_eq_true rfl⟩) hK hP hD hS hA [] [0, 1, 2, 3, 4, 5, 6, 7, 8, 9, 10, 11, 12] rfl rfl (by decide) (by decide) (by decide) [0, 1, 2, 3, 4, 5, 6, 7, 8, 9, 10, 11, 12] rfl (by decide) rfl hl.1 rfl (Nat.le_of_ble_eq_true rfl) dX8_taken_17 ⟨Nat.zero_le _, Nat.zero_le _⟩ (fun H locs hP hD hS => ?_)
    refine lv_if_ne (tgt := 29) hx hb dX8_taken_20 (by decide) (fun c_8 => ?_) (fun c_8 => ?_)
    · replace hf := ht_f c_8 hf
      exact b29  p0 p1 _ _ _ hf hP hD hS (lv_sub hl [1, 2, 3] rfl)
    · replace hf := ht_t c_8 hf
      refine lv_iload_n hx hb dX8_taken_23 rfl (lv_at hl 0 rfl) ?_
      refine lv_if_ne (tgt := 29) hx hb dX8_taken_24 (by decide) (fun c_9 => ?_) (fun c_9 => ?_)
      · replace hf := ht_f c_9 hf
        exact b29  p0 p1 _ _ _ hf hP hD hS (lv_sub hl [1, 2, 3] rfl)
      · replace hf := ht_t c_9 hf
        refine lv_iconst (v := -1) hx hb dX8_taken_27 (by decide) ?_
        have ho := Option.some.inj hf
        subst ho; subst hQ
        exact ht_iret hx hb hr hlk rfl hK hP hD hS dX8_taken_28
abbrev rmX8_taken_n : Room := { frames := 2, cells := 0, slots := 0, locals := 42 }
def fX8_taken_n_b29 (RX : HTV) (RN : TownV) (RY : AI) (RZ : AQ) (x1 : Int32) (x2 : Int32) : Option Int32 := ht_gd (ht_ix x1 4) (ht_gd (decide (RZ x1.toNatClampNeg = none)) (ht_gd (ht_ix x1 4) (ht_nm (RY x1.toNatClampNeg) (fun x5_4 => ht_bn (fX6_has RN x5_4) (fun o_5 => if o_5 = 0 then (some (-11 : Int32)) else (ht_bn (fX8_isKind x2) (fun o_7 => if o_7 = 0 then (some (-13 : Int32)) else (ht_gd (ht_ix x5_4 8) (ht_bn (fX8_isUnder (RN.kind x5_4.toNatClampNeg) x2) (fun o_10 => if o_10 = 0 then (some (-13 : Int32)) else (some x5_4)))))))))))
def fX8_taken_n (RX : HTV) (RN : TownV) (RY : AI) (RZ : AQ) (p0 : Int32) (p1 : Int32) : Option Int32 := ht_bn (fX8_within p1 (10 : Int32) (13 : Int32)) (fun o_12 => ht_bn (fX8_isShelf p0) (fun o_13 => if o_13 = 0 then (some (-1 : Int32)) else (ht_bn (fX8_isKind p1) (fun o_15 => if o_15 = 0 then (if o_12 = 0 then (some (-1 : Int32)) else (fX8_taken_n_b29 RX RN RY RZ p0 p1)) else (fX8_taken_n_b29 RX RN RY RZ p0 p1)))))
set_option maxHeartbeats 1000000 in
set_option maxRecDepth 100000 in
theorem ctX8_taken_n (l : Launch) (D : va_G) (K : Nat → ClassId) (jX : Nat) (jN : Nat) (aN : Nat → Nat) (jY : Nat) (jZ : Nat) (kX_kept : Nat) (kX_tried : Nat) (kX_trials : Nat) (kX_pairings : Nat) (kX_tape : Nat) (kX_telling : Nat) (kX_dayRows : Nat) (kX_deed : Nat) (kX_sheets : Nat) (RX : HTV) (RN : TownV) (RY : AI) (RZ : AQ) (p0 : Int32) (p1 : Int32) (o : Int32) (hf : fX8_taken_n RX RN RY RZ p0 p1 = some o) (sz : Nat) : Met l yX8_taken wsX8_taken rmX8_taken_n (ht_Pre D K [.ref jX, .int p0, .int p1] (wHT K jX jN kX_kept kX_tried kX_trials kX_pairings kX_tape kX_telling kX_dayRows kX_deed kX_sheets jY jZ RX.anythingKept ++ (wTw K jN aN RN.laws RN.kind RN.need RN.saved RN.voice RN.partner RN.speaks RN.count RN.day RN.heard RN.geese RN.z ++ (wAr K 4 jY RY ++ (wAq K 4 jZ RZ)))) sz) (ht_Qi D K (wHT K jX jN kX_kept kX_tried kX_trials kX_pairings kX_tape kX_telling kX_dayRows kX_deed kX_sheets jY jZ RX.anythingKept ++ (wTw K jN aN RN.laws RN.kind RN.need RN.saved RN.voice RN.partner RN.speaks RN.count RN.day RN.heard RN.geese RN.z ++ (wAr K 4 jY RY ++ (wAq K 4 jZ RZ)))) o (va_A (wHT K jX jN kX_kept kX_tried kX_trials kX_pairings kX_tape kX_telling kX_dayRows kX_deed kX_sheets jY jZ RX.anythingKept ++ (wTw K jN aN RN.laws RN.kind RN.need RN.saved RN.voice RN.partner RN.speaks RN.count RN.day RN.heard RN.geese RN.z ++ (wAr K 4 jY RY ++ (wAq K 4 jZ RZ)))) sz)) 0 0 (va_A (wHT K jX jN kX_kept kX_tried kX_trials kX_pairings kX_tape kX_telling kX_dayRows kX_deed kX_sheets jY jZ RX.anythingKept ++ (wTw K jN aN RN.laws RN.kind RN.need RN.saved RN.voice RN.partner RN.speaks RN.count RN.day RN.heard RN.geese RN.z ++ (wAr K 4 jY RY ++ (wAq K 4 jZ RZ)))) sz) := by
  refine ht_enter (Qf := ht_Qi D K (wHT K jX jN kX_kept kX_tried kX_trials kX_pairings kX_tape kX_telling kX_dayRows kX_deed kX_sheets jY jZ RX.anythingKept ++ (wTw K jN aN RN.laws RN.kind RN.need RN.saved RN.voice RN.partner RN.speaks RN.count RN.day RN.heard RN.geese RN.z ++ (wAr K 4 jY RY ++ (wAq K 4 jZ RZ)))) o) (cc := cX8_taken) (maxL := 6) (rt := (some .int)) (by decide) rfl (Nat.le_of_ble_eq_true rfl) ?_ sz
  intro p e s m below meth c A Q H locs ls hQ hx hb hr hlk hmn hml hown hts hA hK hP hD hS hl
  have hown : s.vm.findClass RX8 = some m.cls := hown
  have hF : CallFix p m c cX8_taken 6 s ([.ref jX, .int p0, .int p1] : List Value).toArray wsX8_taken RX8 := ⟨hx, hb, hml, hown, hts⟩
  have hl : lv_has ls 6 [(0, .ref jX), (1, .int p0), (2, .int p1)] := hl
  have iw8 : ∀ w ∈ u_ws RX8 TX8 13, w ∈ wsX8_taken := by decide +kernel
  have kw1 := hts (.fieldLink RX8 80 "HeldTongues" "shelvedRow" "[LHeldTongues$SheetRow;") (by decide +kernel)
  have kw2 := hts (.fieldLink RX8 76 "HeldTongues" "shelvedPerson" "[I") (by decide +kernel)
  have kw3 := hts (.fieldLink RX8 10 "HeldTongues" "now" "LHeldTongues$Town;") (by decide +kernel)
  have iw6 : ∀ w ∈ u_ws RX6 TX6 12, w ∈ wsX8_taken := by decide +kernel
  have kw5 := hts (.fieldLink RX8 139 "HeldTongues$Town" "kind" "[I") (by decide +kernel)
  have b29 : ∀ (x1 : Int32) (x2 : Int32) (H : Heap) (locs : List Loc) (ls : Array Slot), fX8_taken_n_b29 RX RN RY RZ x1 x2 = some o → va_P D vwCl (wHT K jX jN kX_kept kX_tried kX_trials kX_pairings kX_tape kX_telling kX_dayRows kX_deed kX_sheets jY jZ RX.anythingKept ++ (wTw K jN aN RN.laws RN.kind RN.need RN.saved RN.voice RN.partner RN.speaks RN.count RN.day RN.heard RN.geese RN.z ++ (wAr K 4 jY RY ++ (wAq K 4 jZ RZ)))) H → va_D A (wHT K jX jN kX_kept kX_tried kX_trials kX_pairings kX_tape kX_telling kX_dayRows kX_deed kX_sheets jY jZ RX.anythingKept ++ (wTw K jN aN RN.laws RN.kind RN.need RN.saved RN.voice RN.partner RN.speaks RN.count RN.day RN.heard RN.geese RN.z ++ (wAr K 4 jY RY ++ (wAq K 4 jZ RZ)))) → va_S A s.heap H locs → lv_has ls 6 [(0, .ref jX), (1, .int x1), (2, .int x2)] → W p l e (headSpec wsX8_taken rmX8_taken_n).room s m ([.ref jX, .int p0, .int p1] : List Value).toArray below meth c H locs 0 0 Q (F0 m 29 ls []) := by
    intro x1 x2 H locs ls hf hP hD hS hl
    delta fX8_taken_n_b29 at hf
    refine lv_aload_n hx hb dX8_taken_29 rfl (lv_at hl 0 rfl) ?_
    refine va_get (D := D) (ci := 8) (v := .ref jZ) (C := RX8) (T := TX8) (N := 13) hx hb hts iw8 hown hK hP 0 rfl rfl 11 (by decide) kw1 (fun _ h9 => h9) rfl dX8_taken_30 ?_
    refine lv_iload_n hx hb dX8_taken_33 rfl (lv_at hl 1 rfl) ?_
    obtain ⟨g_1, hf⟩ := ht_gd_ob hf
    obtain ⟨g_2, hf⟩ := ht_gd_ob hf
    refine va_aldq hx hb hK hP 10 4 rfl rfl (ht_ix_in g_1) dX8_taken_34 ?_
    refine W.eq (g2 := F0 m 35 ls [.null]) (by rw [of_decide_eq_true g_2]; rfl) ?_
    refine lv_astoreN (lv' := [(4, .null), (0, .ref jX), (1, .int x1), (2, .int x2)]) hx hb dX8_taken_35 hl (by decide) rfl (fun ls hl => ?_)
    refine lv_aloadN hx hb dX8_taken_37 (lv_at hl 0 rfl) ?_
    refine lv_ifnullN (tgt := 66) hx hb dX8_taken_39 (by decide) ?_
    refine lv_aload_n hx hb dX8_taken_66 rfl (lv_at hl 1 rfl) ?_
    refine va_get (D := D) (ci := 8) (v := .ref jY) (C := RX8) (T := TX8) (N := 13) hx hb hts iw8 hown hK hP 0 rfl rfl 10 (by decide) kw2 (fun _ h9 => h9) rfl dX8_taken_67 ?_
    refine lv_iload_n hx hb dX8_taken_70 rfl (lv_at hl 2 rfl) ?_
    obtain ⟨g_3, hf⟩ := ht_gd_ob hf
    refine va_iald hx hb hK hP 9 1 rfl rfl (ht_ix_in g_3) dX8_taken_71 ?_
    obtain ⟨x5_4, ex5_4, hf⟩ := ht_nm_ob hf
    rw [← ex5_4]
    refine lv_istore (lv' := [(5, .int x5_4), (4, .null), (0, .ref jX), (1, .int x1), (2, .int x2)]) hx hb dX8_taken_72 hl (by decide) rfl (fun ls hl => ?_)
    refine lv_aload_n hx hb dX8_taken_74 rfl (lv_at hl 2 rfl) ?_
    refine va_get (D := D) (ci := 8) (v := .ref jN) (C := RX8) (T := TX8) (N := 13) hx hb hts iw8 hown hK hP 0 rfl rfl 0 (by decide) kw3 (fun _ h9 => h9) rfl dX8_taken_75 ?_
    refine lv_iload hx hb dX8_taken_78 (lv_at hl 0 rfl) ?_
    obtain ⟨o_5, ho_5, hf⟩ := ht_bn_ob hf
    refine ht_callVi (r := o_5) (rest := []) (As := [.int x5_4]) (wc := (wTw K jN aN RN.laws RN.kind RN.need RN.saved RN.voice RN.partner RN.speaks RN.count RN.day RN.heard RN.geese RN.z)) (wr := (wHT K jX jN kX_kept kX_tried kX_trials kX_pairings kX_tape kX_telling kX_dayRows kX_deed kX_sheets jY jZ RX.anythingKept ++ (wAr K 4 jY RY ++ (wAq K 4 jZ RZ)))) (w1 := (wTw K jN aN RN.laws RN.kind RN.need RN.saved RN.voice RN.partner RN.speaks RN.count RN.day RN.heard RN.geese RN.z)) (w2 := (wHT K jX jN kX_kept kX_tried kX_trials kX_pairings kX_tape kX_telling kX_dayRows kX_deed kX_sheets jY jZ RX.anythingKept ++ (wTw K jN aN RN.laws RN.kind RN.need RN.saved RN.voice RN.partner RN.speaks RN.count RN.day RN.heard RN.geese RN.z ++ (wAr K 4 jY RY ++ (wAq K 4 jZ RZ))))) hF (ctX6_has l D K jN aN RN x5_4 o_5 ho_5 H.size) (cwV 1 hts gX8_taken_X6_has rfl rfl rfl hdX6_has ⟨Nat.le_of_ble_eq_true rfl, Nat.le_of_ble_eq_true rfl⟩) hK hP hD hS hA [1, 2, 3, 4, 5, 6, 7, 8] [0, 9, 10] rfl rfl (by decide) (by decide) (by decide) [0, 3, 4, 5, 6, 7, 8, 9, 10, 1, 2] rfl (by decide) (va_recv hK hP (ci := 6) (q0 := 1) rfl rfl) rfl hl.1 rfl (Nat.le_of_ble_eq_true rfl) dX8_taken_80 ⟨Nat.zero_le _, Nat.zero_le _⟩ (fun H locs hP hD hS => ?_)
    refine lv_if_ne (tgt := 89) hx hb dX8_taken_83 (by decide) (fun c_6 => ?_) (fun c_6 => ?_)
    · replace hf := ht_f c_6 hf
      refine lv_iload_n hx hb dX8_taken_89 rfl (lv_at hl 4 rfl) ?_
      obtain ⟨o_7, ho_7, hf⟩ := ht_bn_ob hf
      refine ht_callSi (r := o_7) (rest := []) (As := [.int x2]) (wc := []) (wr := (wHT K jX jN kX_kept kX_tried kX_trials kX_pairings kX_tape kX_telling kX_dayRows kX_deed kX_sheets jY jZ RX.anythingKept ++ (wTw K jN aN RN.laws RN.kind RN.need RN.saved RN.voice RN.partner RN.speaks RN.count RN.day RN.heard RN.geese RN.z ++ (wAr K 4 jY RY ++ (wAq K 4 jZ RZ))))) (w1 := []) (w2 := (wHT K jX jN kX_kept kX_tried kX_trials kX_pairings kX_tape kX_telling kX_dayRows kX_deed kX_sheets jY jZ RX.anythingKept ++ (wTw K jN aN RN.laws RN.kind RN.need RN.saved RN.voice RN.partner RN.speaks RN.count RN.day RN.heard RN.geese RN.z ++ (wAr K 4 jY RY ++ (wAq K 4 jZ RZ))))) hF (ctX8_isKind l D K x2 o_7 ho_7 H.size) (va_cwS 1 hts gX8_taken_X8_isKind rfl rfl rfl hdX8_isKind ⟨Nat.le_of_ble_eq_true rfl, Nat.le_of_ble_eq_true rfl⟩) hK hP hD hS hA [] [0, 1, 2, 3, 4, 5, 6, 7, 8, 9, 10] rfl rfl (by decide) (by decide) (by decide) [0, 1, 2, 3, 4, 5, 6, 7, 8, 9, 10] rfl (by decide) rfl hl.1 rfl (Nat.le_of_ble_eq_true rfl) dX8_taken_90 ⟨Nat.zero_le _, Nat.zero_le _⟩ (fun H locs hP hD hS => ?_)
      refine lv_if_eq (tgt := 118) hx hb dX8_taken_93 (by decide) (fun c_8 => ?_) (fun c_8 => ?_)
      · replace hf := ht_t c_8 hf
        refine lv_bipush (v := -13) hx hb dX8_taken_118 (by decide) ?_
        have ho := Option.some.inj hf
        subst ho; subst hQ
        exact ht_iret hx hb hr hlk rfl hK hP hD hS dX8_taken_120
      · replace hf := ht_f c_8 hf
        refine lv_aload_n hx hb dX8_taken_96 rfl (lv_at hl 2 rfl) ?_
        refine va_get (D := D) (ci := 8) (v := .ref jN) (C := RX8) (T := TX8) (N := 13) hx hb hts iw8 hown hK hP 0 rfl rfl 0 (by decide) kw3 (fun _ h9 => h9) rfl dX8_taken_97 ?_
        refine va_get (D := D) (ci := 6) (v := .ref (aN 1)) (C := RX6) (T := TX6) (N := 12) hx hb hts iw6 hown hK hP 1 rfl rfl 1 (by decide) kw5 (fun _ h9 => h9) rfl dX8_taken_100 ?_
        refine lv_iload hx hb dX8_taken_103 (lv_at hl 0 rfl) ?_
        obtain ⟨g_9, hf⟩ := ht_gd_ob hf
        refine va_iald hx hb hK hP 3 1 rfl rfl (ht_ix_in g_9) dX8_taken_105 ?_
        refine lv_iload_n hx hb dX8_taken_106 rfl (lv_at hl 4 rfl) ?_
        obtain ⟨o_10, ho_10, hf⟩ := ht_bn_ob hf
        refine ht_callSi (r := o_10) (rest := []) (As := [.int (RN.kind x5_4.toNatClampNeg), .int x2]) (wc := []) (wr := (wHT K jX jN kX_kept kX_tried kX_trials kX_pairings kX_tape kX_telling kX_dayRows kX_deed kX_sheets jY jZ RX.anythingKept ++ (wTw K jN aN RN.laws RN.kind RN.need RN.saved RN.voice RN.partner RN.speaks RN.count RN.day RN.heard RN.geese RN.z ++ (wAr K 4 jY RY ++ (wAq K 4 jZ RZ))))) (w1 := []) (w2 := (wHT K jX jN kX_kept kX_tried kX_trials kX_pairings kX_tape kX_telling kX_dayRows kX_deed kX_sheets jY jZ RX.anythingKept ++ (wTw K jN aN RN.laws RN.kind RN.need RN.saved RN.voice RN.partner RN.speaks RN.count RN.day RN.heard RN.geese RN.z ++ (wAr K 4 jY RY ++ (wAq K 4 jZ RZ))))) hF (ctX8_isUnder l D K (RN.kind x5_4.toNatClampNeg) x2 o_10 ho_10 H.size) (va_cwS 2 hts gX8_taken_X8_isUnder rfl rfl rfl hdX8_isUnder ⟨Nat.le_of_ble_eq_true rfl, Nat.le_of_ble_eq_true rfl⟩) hK hP hD hS hA [] [0, 1, 2, 3, 4, 5, 6, 7, 8, 9, 10] rfl rfl (by decide) (by decide) (by decide) [0, 1, 2, 3, 4, 5, 6, 7, 8, 9, 10] rfl (by decide) rfl hl.1 rfl (Nat.le_of_ble_eq_true rfl) dX8_taken_107 ⟨Nat.zero_le _, Nat.zero_le _⟩ (fun H locs hP hD hS => ?_)
        refine lv_if_eq (tgt := 118) hx hb dX8_taken_110 (by decide) (fun c_11 => ?_) (fun c_11 => ?_)
        · replace hf := ht_t c_11 hf
          refine lv_bipush (v := -13) hx hb dX8_taken_118 (by decide) ?_
          have ho := Option.some.inj hf
          subst ho; subst hQ
          exact ht_iret hx hb hr hlk rfl hK hP hD hS dX8_taken_120
        · replace hf := ht_f c_11 hf
          refine lv_iload hx hb dX8_taken_113 (lv_at hl 0 rfl) ?_
          refine lv_goto (tgt := 120) hx hb dX8_taken_115 (by decide) ?_
          have ho := Option.some.inj hf
          subst ho; subst hQ
          exact ht_iret hx hb hr hlk rfl hK hP hD hS dX8_taken_120
    · replace hf := ht_t c_6 hf
      refine lv_bipush (v := -11) hx hb dX8_taken_86 (by decide) ?_
      have ho := Option.some.inj hf
      subst ho; subst hQ
      exact ht_iret hx hb hr hlk rfl hK hP hD hS dX8_taken_88
  delta fX8_taken_n at hf
  refine lv_iload_n hx hb dX8_taken_0 rfl (lv_at hl 2 rfl) ?_
  refine lv_bipush (v := 10) hx hb dX8_taken_1 (by decide) ?_
  refine lv_bipush (v := 13) hx hb dX8_taken_3 (by decide) ?_
  obtain ⟨o_12, ho_12, hf⟩ := ht_bn_ob hf
  refine ht_callSi (r := o_12) (rest := []) (As := [.int p1, .int (10 : Int32), .int (13 : Int32)]) (wc := []) (wr := (wHT K jX jN kX_kept kX_tried kX_trials kX_pairings kX_tape kX_telling kX_dayRows kX_deed kX_sheets jY jZ RX.anythingKept ++ (wTw K jN aN RN.laws RN.kind RN.need RN.saved RN.voice RN.partner RN.speaks RN.count RN.day RN.heard RN.geese RN.z ++ (wAr K 4 jY RY ++ (wAq K 4 jZ RZ))))) (w1 := []) (w2 := (wHT K jX jN kX_kept kX_tried kX_trials kX_pairings kX_tape kX_telling kX_dayRows kX_deed kX_sheets jY jZ RX.anythingKept ++ (wTw K jN aN RN.laws RN.kind RN.need RN.saved RN.voice RN.partner RN.speaks RN.count RN.day RN.heard RN.geese RN.z ++ (wAr K 4 jY RY ++ (wAq K 4 jZ RZ))))) hF (ctX8_within l D K p1 (10 : Int32) (13 : Int32) o_12 ho_12 H.size) (va_cwS 3 hts gX8_taken_X8_within rfl rfl rfl hdX8_within ⟨Nat.le_of_ble_eq_true rfl, Nat.le_of_ble_eq_true rfl⟩) hK hP hD hS hA [] [0, 1, 2, 3, 4, 5, 6, 7, 8, 9, 10] rfl rfl (by decide) (by decide) (by decide) [0, 1, 2, 3, 4, 5, 6, 7, 8, 9, 10] rfl (by decide) rfl hl.1 rfl (Nat.le_of_ble_eq_true rfl) dX8_taken_5 ⟨Nat.zero_le _, Nat.zero_le _⟩ (fun H locs hP hD hS => ?_)
  refine lv_istore_n (lv' := [(3, .int o_12), (0, .ref jX), (1, .int p0), (2, .int p1)]) hx hb dX8_taken_8 rfl hl (by decide) rfl (fun ls hl => ?_)
  refine lv_iload_n hx hb dX8_taken_9 rfl (lv_at hl 2 rfl) ?_
  obtain ⟨o_13, ho_13, hf⟩ := ht_bn_ob hf
  refine ht_callSi (r := o_13) (rest := []) (As := [.int p0]) (wc := []) (wr := (wHT K jX jN kX_kept kX_tried kX_trials kX_pairings kX_tape kX_telling kX_dayRows kX_deed kX_sheets jY jZ RX.anythingKept ++ (wTw K jN aN RN.laws RN.kind RN.need RN.saved RN.voice RN.partner RN.speaks RN.count RN.day RN.heard RN.geese RN.z ++ (wAr K 4 jY RY ++ (wAq K 4 jZ RZ))))) (w1 := []) (w2 := (wHT K jX jN kX_kept kX_tried kX_trials kX_pairings kX_tape kX_telling kX_dayRows kX_deed kX_sheets jY jZ RX.anythingKept ++ (wTw K jN aN RN.laws RN.kind RN.need RN.saved RN.voice RN.partner RN.speaks RN.count RN.day RN.heard RN.geese RN.z ++ (wAr K 4 jY RY ++ (wAq K 4 jZ RZ))))) hF (ctX8_isShelf l D K p0 o_13 ho_13 H.size) (va_cwS 1 hts gX8_taken_X8_isShelf rfl rfl rfl hdX8_isShelf ⟨Nat.le_of_ble_eq_true rfl, Nat.le_of_ble_eq_true rfl⟩) hK hP hD hS hA [] [0, 1, 2, 3, 4, 5, 6, 7, 8, 9, 10] rfl rfl (by decide) (by decide) (by decide) [0, 1, 2, 3, 4, 5, 6, 7, 8, 9, 10] rfl (by decide) rfl hl.1 rfl (Nat.le_of_ble_eq_true rfl) dX8_taken_10 ⟨Nat.zero_le _, Nat.zero_le _⟩ (fun H locs hP hD hS => ?_)
  refine lv_if_eq (tgt := 27) hx hb dX8_taken_13 (by decide) (fun c_14 => ?_) (fun c_14 => ?_)
  · replace hf := ht_t c_14 hf
    refine lv_iconst (v := -1) hx hb dX8_taken_27 (by decide) ?_
    have ho := Option.some.inj hf
    subst ho; subst hQ
    exact ht_iret hx hb hr hlk rfl hK hP hD hS dX8_taken_28
  · replace hf := ht_f c_14 hf
    refine lv_iload_n hx hb dX8_taken_16 rfl (lv_at hl 3 rfl) ?_
    obtain ⟨o_15, ho_15, hf⟩ := ht_bn_ob hf
    refine ht_callSi (r := o_15) (rest := []) (As := [.int p1]) (wc := []) (wr := (wHT K jX jN kX_kept kX_tried kX_trials kX_pairings kX_tape kX_telling kX_dayRows kX_deed kX_sheets jY jZ RX.anythingKept ++ (wTw K jN aN RN.laws RN.kind RN.need RN.saved RN.voice RN.partner RN.speaks RN.count RN.day RN.heard RN.geese RN.z ++ (wAr K 4 jY RY ++ (wAq K 4 jZ RZ))))) (w1 := []) (w2 := (wHT K jX jN kX_kept kX_tried kX_trials kX_pairings kX_tape kX_telling kX_dayRows kX_deed kX_sheets jY jZ RX.anythingKept ++ (wTw K jN aN RN.laws RN.kind RN.need RN.saved RN.voice RN.partner RN.speaks RN.count RN.day RN.heard RN.geese RN.z ++ (wAr K 4 jY RY ++ (wAq K 4 jZ RZ))))) hF (ctX8_isKind l D K p1 o_15 ho_15 H.size) (va_cwS 1 hts gX8_taken_X8_isKind rfl rfl rfl hdX8_isKind ⟨Nat.le_of_ble_eq_true rfl, Nat.le_of_ble_eq_true rfl⟩) hK hP hD hS hA [] [0, 1, 2, 3, 4, 5, 6, 7, 8, 9, 10] rfl rfl (by decide) (by decide) (by decide) [0, 1, 2, 3, 4, 5, 6, 7, 8, 9, 10] rfl (by decide) rfl hl.1 rfl (Nat.le_of_ble_eq_true rfl) dX8_taken_17 ⟨Nat.zero_le _, Nat.zero_le _⟩ (fun H locs hP hD hS => ?_)
    refine lv_if_ne (tgt := 29) hx hb dX8_taken_20 (by decide) (fun c_16 => ?_) (fun c_16 => ?_)
    · replace hf := ht_f c_16 hf
      exact b29  p0 p1 _ _ _ hf hP hD hS (lv_sub hl [1, 2, 3] rfl)
    · replace hf := ht_t c_16 hf
      refine lv_iload_n hx hb dX8_taken_23 rfl (lv_at hl 0 rfl) ?_
      refine lv_if_ne (tgt := 29) hx hb dX8_taken_24 (by decide) (fun c_17 => ?_) (fun c_17 => ?_)
      · replace hf := ht_f c_17 hf
        exact b29  p0 p1 _ _ _ hf hP hD hS (lv_sub hl [1, 2, 3] rfl)
      · replace hf := ht_t c_17 hf
        refine lv_iconst (v := -1) hx hb dX8_taken_27 (by decide) ?_
        have ho := Option.some.inj hf
        subst ho; subst hQ
        exact ht_iret hx hb hr hlk rfl hK hP hD hS dX8_taken_28
