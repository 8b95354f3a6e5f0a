abbrev rmX4_take : Room := { frames := 0, cells := 0, slots := 0, locals := 0 }
theorem hdX4_take : yX4_take.cls = RX4 ∧ yX4_take.cls ≠ "java/lang/invoke/MethodHandle" ∧ yX4_take.cls ≠ "java/lang/invoke/VarHandle" ∧ (parseMethodDescriptor yX4_take.desc).map (fun d => d.parameters.length) = some 2 := by decide +kernel
def fX4_take_b3 (RA : TapeV) (k3 : Int64 → Int32 → Int32 → AI → Int32 → Option (AI × Int32)) (x1 : Int64) (x3 : Int32) (x4 : Int32) (vA_bytes : AI) (vA_length : Int32) : Option (AI × Int32) := if x3 ≤ x4 then (some (vA_bytes, vA_length)) else (if (200 : Int32) ≤ vA_length then (some (vA_bytes, vA_length)) else (ht_gd (ht_ix vA_length 200) (ht_nm (upd vA_bytes vA_length.toNatClampNeg (vp_nar .byte ((((x1.toUInt64 >>> (((8 : Int32) * x4).toInt64.toUInt64 &&& Int64.toUInt64 63)).toInt64).toInt32).toInt8.toInt32))) (fun vA_bytes_4 => ht_nm (vA_length + (1 : Int32)) (fun vA_length_5 => ht_nm (x4 + (1 : Int32)) (fun x4_6 => k3 x1 x3 x4_6 vA_bytes_4 vA_length_5))))))
def fX4_take (RA : TapeV) (p0 : Int64) (p1 : Int32) : Option (AI × Int32) := ht_lp5 (fX4_take_b3 RA) FU p0 p1 (0 : Int32) RA.bytes RA.length
set_option maxHeartbeats 1000000 in
set_option maxRecDepth 100000 in
theorem ctX4_take (l : Launch) (D : va_G) (K : Nat → ClassId) (jA : Nat) (aA : Nat → Nat) (RA : TapeV) (p0 : Int64) (p1 : Int32) (o : (AI × Int32)) (hf : fX4_take RA p0 p1 = some o) (sz : Nat) : Met l yX4_take wsX4_take rmX4_take (ht_Pre D K [.ref jA, .long p0, .int p1] (wTa K jA aA RA.bytes RA.length) sz) (ht_Qv D K (wTa K jA aA o.1 o.2) (va_A (wTa K jA aA RA.bytes RA.length) sz)) 0 0 (va_A (wTa K jA aA RA.bytes RA.length) sz) := by
  refine ht_enter (Qf := ht_Qv D K (wTa K jA aA o.1 o.2)) (cc := cX4_take) (maxL := 5) (rt := none) (by decide) rfl (Nat.le_of_ble_eq_true rfl) ?_ sz
  intro p e s m below meth c A Q H locs ls hQ hx hb hr hlk hmn hml hown hts hA hK hP hD hS hl
  have hown : s.vm.findClass RX4 = some m.cls := hown
  have hF : CallFix p m c cX4_take 5 s ([.ref jA, .long p0, .int p1] : List Value).toArray wsX4_take RX4 := ⟨hx, hb, hml, hown, hts⟩
  have hl : lv_has ls 5 [(0, .ref jA), (1, .long p0), (3, .int p1)] := hl
  have iw4 : ∀ w ∈ u_ws RX4 TX4 2, w ∈ wsX4_take := by decide +kernel
  have kw1 := hts (.fieldLink RX4 15 "HeldTongues$Tape" "length" "I") (by decide +kernel)
  have kw2 := hts (.fieldLink RX4 9 "HeldTongues$Tape" "bytes" "[B") (by decide +kernel)
  have b3 : ∀ (n : Nat) (x1 : Int64) (x3 : Int32) (x4 : Int32) (vA_bytes : AI) (vA_length : Int32) (H : Heap) (locs : List Loc) (ls : Array Slot), ht_lp5 (fX4_take_b3 RA) n x1 x3 x4 vA_bytes vA_length = some o → va_P D vwCl (wTa K jA aA vA_bytes vA_length) H → va_D A (wTa K jA aA vA_bytes vA_length) → va_S A s.heap H locs → lv_has ls 5 [(0, .ref jA), (1, .long x1), (3, .int x3), (4, .int x4)] → W p l e (headSpec wsX4_take rmX4_take).room s m ([.ref jA, .long p0, .int p1] : List Value).toArray below meth c H locs 0 0 Q (F0 m 3 ls []) := by
    intro n
    induction n with
    | zero =>
      intro x1 x3 x4 vA_bytes vA_length H locs ls hf hP hD hS hl
      cases (show (none : Option (AI × Int32)) = some o from hf)
    | succ n hk3 =>
      intro x1 x3 x4 vA_bytes vA_length H locs ls hf hP hD hS hl
      replace hf : fX4_take_b3 RA (ht_lp5 (fX4_take_b3 RA) n) x1 x3 x4 vA_bytes vA_length = some o := hf
      delta fX4_take_b3 at hf
      refine lv_iload hx hb dX4_take_3 (lv_at hl 3 rfl) ?_
      refine lv_iload_n hx hb dX4_take_5 rfl (lv_at hl 2 rfl) ?_
      refine lv_icmp_ge (tgt := 53) hx hb dX4_take_6 (by decide) (fun c_1 => ?_) (fun c_1 => ?_)
      · replace hf := ht_t c_1 hf
        have ho := Option.some.inj hf
        subst ho; subst hQ
        exact ht_vret hx hb hr hlk hK hP hD hS dX4_take_53
      · replace hf := ht_f c_1 hf
        refine lv_aload_n hx hb dX4_take_9 rfl (lv_at hl 0 rfl) ?_
        refine va_get (D := D) (ci := 4) (v := .int vA_length) (C := RX4) (T := TX4) (N := 2) hx hb hts iw4 hown hK hP 0 rfl rfl 1 (by decide) kw1 (fun _ h9 => h9) rfl dX4_take_10 ?_
        refine lv_sipush (v := 200) hx hb dX4_take_13 (by decide) ?_
        refine lv_icmp_ge (tgt := 53) hx hb dX4_take_16 (by decide) (fun c_2 => ?_) (fun c_2 => ?_)
        · replace hf := ht_t c_2 hf
          have ho := Option.some.inj hf
          subst ho; subst hQ
          exact ht_vret hx hb hr hlk hK hP hD hS dX4_take_53
        · replace hf := ht_f c_2 hf
          refine lv_aload_n hx hb dX4_take_19 rfl (lv_at hl 0 rfl) ?_
          refine va_get (D := D) (ci := 4) (v := .ref (aA 0)) (C := RX4) (T := TX4) (N := 2) hx hb hts iw4 hown hK hP 0 rfl rfl 0 (by decide) kw2 (fun _ h9 => h9) rfl dX4_take_20 ?_
          refine lv_aload_n hx hb dX4_take_23 rfl (lv_at hl 0 rfl) ?_
          refine va_get (D := D) (ci := 4) (v := .int vA_length) (C := RX4) (T := TX4) (N := 2) hx hb hts iw4 hown hK hP 0 rfl rfl 1 (by decide) kw1 (fun _ h9 => h9) rfl dX4_take_24 ?_
          refine lv_lload_n hx hb dX4_take_27 rfl (lv_at hl 1 rfl) ?_
          refine lv_bipush (v := 8) hx hb dX4_take_28 (by decide) ?_
          refine lv_iload hx hb dX4_take_30 (lv_at hl 3 rfl) ?_
          refine lv_imul hx hb dX4_take_32 ?_
          refine lv_lushr hx hb dX4_take_33 rfl ?_
          refine lv_l2i hx hb dX4_take_34 rfl ?_
          refine lv_i2b hx hb dX4_take_35 rfl ?_
          obtain ⟨g_3, hf⟩ := ht_gd_ob hf
          obtain ⟨vA_bytes_4, evA_bytes_4, hf⟩ := ht_nm_ob hf
          refine ht_bast (w2 := (wTa K jA aA vA_bytes_4 vA_length)) hx hb hK hP hD hS 1 0 rfl rfl g_3 dX4_take_36 evA_bytes_4 rfl (fun H locs hP hD hS => ?_)
          refine lv_aload_n hx hb dX4_take_37 rfl (lv_at hl 0 rfl) ?_
          refine lv_dup hx hb dX4_take_38 rfl ?_
          refine va_get (D := D) (ci := 4) (v := .int vA_length) (C := RX4) (T := TX4) (N := 2) hx hb hts iw4 hown hK hP 0 rfl rfl 1 (by decide) kw1 (fun _ h9 => h9) rfl dX4_take_39 ?_
          refine lv_iconst (v := 1) hx hb dX4_take_42 (by decide) ?_
          refine lv_iadd hx hb dX4_take_43 ?_
          obtain ⟨vA_length_5, evA_length_5, hf⟩ := ht_nm_ob hf
          rw [← evA_length_5]
          refine ht_put (ci := 4) (v := .int vA_length_5) (ty := .int) (C := RX4) (T := TX4) (N := 2) (w2 := (wTa K jA aA vA_bytes_4 vA_length_5)) hx hb hts iw4 tyX4 tyX4_ok nmX4 hown hK hP hD hS 0 rfl rfl 1 (by decide) kw1 (fun _ h9 => h9) rfl (by decide +kernel) rfl rfl (Nat.le_of_ble_eq_true rfl) dX4_take_44 rfl (fun H locs hP hD hS => ?_)
          obtain ⟨x4_6, ex4_6, hf⟩ := ht_nm_ob hf
          refine lv_iinc (v := x4_6) (lv' := [(4, .int x4_6), (0, .ref jA), (1, .long x1), (3, .int x3)]) hx hb dX4_take_47 hl (k := 3) rfl (by rw [ex4_6]; rfl) (by decide) rfl (fun ls hl => ?_)
          refine lv_goto (tgt := 3) hx hb dX4_take_50 (by decide) ?_
          exact hk3 x1 x3 x4_6 vA_bytes_4 vA_length_5 _ _ _ hf hP hD hS (lv_sub hl [1, 2, 3, 0] rfl)
  delta fX4_take at hf
  refine lv_iconst (v := 0) hx hb dX4_take_0 (by decide) ?_
  refine lv_istore (lv' := [(4, .int (0 : Int32)), (0, .ref jA), (1, .long p0), (3, .int p1)]) hx hb dX4_take_1 hl (by decide) rfl (fun ls hl => ?_)
  exact b3  FU p0 p1 (0 : Int32) RA.bytes RA.length _ _ _ hf hP hD hS (lv_sub hl [1, 2, 3, 0] rfl)
abbrev rmX1_forget : Room := { frames := 0, cells := 0, slots := 0, locals := 0 }
theorem hdX1_forget : yX1_forget.cls = RX1 ∧ yX1_forget.cls ≠ "java/lang/invoke/MethodHandle" ∧ yX1_forget.cls ≠ "java/lang/invoke/VarHandle" ∧ (parseMethodDescriptor yX1_forget.desc).map (fun d => d.parameters.length) = some 0 := by decide +kernel
def fX1_forget (RE : DeedV) : Option (Int32 × Int32) := some ((0 : Int32), (0 : Int32))
set_option maxHeartbeats 1000000 in
set_option maxRecDepth 100000 in
theorem ctX1_forget (l : Launch) (D : va_G) (K : Nat → ClassId) (jE : Nat) (aE : Nat → Nat) (RE : DeedV) (o : (Int32 × Int32)) (hf : fX1_forget RE = some o) (sz : Nat) : Met l yX1_forget wsX1_forget rmX1_forget (ht_Pre D K [.ref jE] (wDe K jE aE RE.bodies RE.begun RE.partedByZero RE.kind RE.number RE.voice) sz) (ht_Qv D K (wDe K jE aE RE.bodies o.1 o.2 RE.kind RE.number RE.voice) (va_A (wDe K jE aE RE.bodies RE.begun RE.partedByZero RE.kind RE.number RE.voice) sz)) 0 0 (va_A (wDe K jE aE RE.bodies RE.begun RE.partedByZero RE.kind RE.number RE.voice) sz) := by
  refine ht_enter (Qf := ht_Qv D K (wDe K jE aE RE.bodies o.1 o.2 RE.kind RE.number RE.voice)) (cc := cX1_forget) (maxL := 1) (rt := none) (by decide) rfl (Nat.le_of_ble_eq_true rfl) ?_ sz
  intro p e s m below meth c A Q H locs ls hQ hx hb hr hlk hmn hml hown hts hA hK hP hD hS hl
  have hown : s.vm.findClass RX1 = some m.cls := hown
  have hF : CallFix p m c cX1_forget 1 s ([.ref jE] : List Value).toArray wsX1_forget RX1 := ⟨hx, hb, hml, hown, hts⟩
  have hl : lv_has ls 1 [(0, .ref jE)] := hl
  have iw1 : ∀ w ∈ u_ws RX1 TX1 6, w ∈ wsX1_forget := by decide +kernel
  have kw1 := hts (.fieldLink RX1 15 "HeldTongues$Deed" "begun" "I") (by decide +kernel)
  have kw2 := hts (.fieldLink RX1 19 "HeldTongues$Deed" "partedByZero" "Z") (by decide +kernel)
  delta fX1_forget at hf
  refine lv_aload_n hx hb dX1_forget_0 rfl (lv_at hl 0 rfl) ?_
  refine lv_iconst (v := 0) hx hb dX1_forget_1 (by decide) ?_
  refine ht_put (ci := 1) (v := .int (0 : Int32)) (ty := .int) (C := RX1) (T := TX1) (N := 6) (w2 := (wDe K jE aE RE.bodies (0 : Int32) RE.partedByZero RE.kind RE.number RE.voice)) hx hb hts iw1 tyX1 tyX1_ok nmX1 hown hK hP hD hS 0 rfl rfl 1 (by decide) kw1 (fun _ h9 => h9) rfl (by decide +kernel) rfl rfl (Nat.le_of_ble_eq_true rfl) dX1_forget_2 rfl (fun H locs hP hD hS => ?_)
  refine lv_aload_n hx hb dX1_forget_5 rfl (lv_at hl 0 rfl) ?_
  refine lv_iconst (v := 0) hx hb dX1_forget_6 (by decide) ?_
  refine ht_put (ci := 1) (v := .int (0 : Int32)) (ty := .boolean) (C := RX1) (T := TX1) (N := 6) (w2 := (wDe K jE aE RE.bodies (0 : Int32) (0 : Int32) RE.kind RE.number RE.voice)) hx hb hts iw1 tyX1 tyX1_ok nmX1 hown hK hP hD hS 0 rfl rfl 2 (by decide) kw2 (fun _ h9 => h9) rfl (by decide +kernel) rfl rfl (Nat.le_of_ble_eq_true rfl) dX1_forget_7 rfl (fun H locs hP hD hS => ?_)
  have ho := Option.some.inj hf
  subst ho; subst hQ
  exact ht_vret hx hb hr hlk hK hP hD hS dX1_forget_10
abbrev rmX1_begin : Room := { frames := 0, cells := 0, slots := 0, locals := 0 }
theorem hdX1_begin : yX1_begin.cls = RX1 ∧ yX1_begin.cls ≠ "java/lang/invoke/MethodHandle" ∧ yX1_begin.cls ≠ "java/lang/invoke/VarHandle" ∧ (parseMethodDescriptor yX1_begin.desc).map (fun d => d.parameters.length) = some 1 := by decide +kernel
def fX1_begin (RE : DeedV) (p0 : Int32) : Option (AI × Int32) := if (30 : Int32) ≤ RE.begun then (some (RE.bodies, RE.begun)) else (ht_gd (ht_ix RE.begun 30) (ht_nm (upd RE.bodies RE.begun.toNatClampNeg p0) (fun vE_bodies_3 => ht_nm (RE.begun + (1 : Int32)) (fun vE_begun_4 => some (vE_bodies_3, vE_begun_4)))))
set_option maxHeartbeats 1000000 in
set_option maxRecDepth 100000 in
theorem ctX1_begin (l : Launch) (D : va_G) (K : Nat → ClassId) (jE : Nat) (aE : Nat → Nat) (RE : DeedV) (p0 : Int32) (o : (AI × Int32)) (hf : fX1_begin RE p0 = some o) (sz : Nat) : Met l yX1_begin wsX1_begin rmX1_begin (ht_Pre D K [.ref jE, .int p0] (wDe K jE aE RE.bodies RE.begun RE.partedByZero RE.kind RE.number RE.voice) sz) (ht_Qv D K (wDe K jE aE o.1 o.2 RE.partedByZero RE.kind RE.number RE.voice) (va_A (wDe K jE aE RE.bodies RE.begun RE.partedByZero RE.kind RE.number RE.voice) sz)) 0 0 (va_A (wDe K jE aE RE.bodies RE.begun RE.partedByZero RE.kind RE.number RE.voice) sz) := by
  refine ht_enter (Qf := ht_Qv D K (wDe K jE aE o.1 o.2 RE.partedByZero RE.kind RE.number RE.voice)) (cc := cX1_begin) (maxL := 2) (rt := none) (by decide) rfl (Nat.le_of_ble_eq_true rfl) ?_ sz
  intro p e s m below meth c A Q H locs ls hQ hx hb hr hlk hmn hml hown hts hA hK hP hD hS hl
  have hown : s.vm.findClass RX1 = some m.cls := hown
  have hF : CallFix p m c cX1_begin 2 s ([.ref jE, .int p0] : List Value).toArray wsX1_begin RX1 := ⟨hx, hb, hml, hown, hts⟩
  have hl : lv_has ls 2 [(0, .ref jE), (1, .int p0)] := hl
  have iw1 : ∀ w ∈ u_ws RX1 TX1 6, w ∈ wsX1_begin := by decide +kernel
  have kw1 := hts (.fieldLink RX1 15 "HeldTongues$Deed" "begun" "I") (by decide +kernel)
  have kw2 := hts (.fieldLink RX1 9 "HeldTongues$Deed" "bodies" "[I") (by decide +kernel)
  delta fX1_begin at hf
  refine lv_aload_n hx hb dX1_begin_0 rfl (lv_at hl 0 rfl) ?_
  refine va_get (D := D) (ci := 1) (v := .int RE.begun) (C := RX1) (T := TX1) (N := 6) hx hb hts iw1 hown hK hP 0 rfl rfl 1 (by decide) kw1 (fun _ h9 => h9) rfl dX1_begin_1 ?_
  refine lv_bipush (v := 30) hx hb dX1_begin_4 (by decide) ?_
  refine lv_icmp_ge (tgt := 29) hx hb dX1_begin_6 (by decide) (fun c_1 => ?_) (fun c_1 => ?_)
  · replace hf := ht_t c_1 hf
    have ho := Option.some.inj hf
    subst ho; subst hQ
    exact ht_vret hx hb hr hlk hK hP hD hS dX1_begin_29
  · replace hf := ht_f c_1 hf
    refine lv_aload_n hx hb dX1_begin_9 rfl (lv_at hl 0 rfl) ?_
    refine va_get (D := D) (ci := 1) (v := .ref (aE 0)) (C := RX1) (T := TX1) (N := 6) hx hb hts iw1 hown hK hP 0 rfl rfl 0 (by decide) kw2 (fun _ h9 => h9) rfl dX1_begin_10 ?_
    refine lv_aload_n hx hb dX1_begin_13 rfl (lv_at hl 0 rfl) ?_
    refine va_get (D := D) (ci := 1) (v := .int RE.begun) (C := RX1) (T := TX1) (N := 6) hx hb hts iw1 hown hK hP 0 rfl rfl 1 (by decide) kw1 (fun _ h9 => h9) rfl dX1_begin_14 ?_
    refine lv_iload_n hx hb dX1_begin_17 rfl (lv_at hl 1 rfl) ?_
    obtain ⟨g_2, hf⟩ := ht_gd_ob hf
    obtain ⟨vE_bodies_3, evE_bodies_3, hf⟩ := ht_nm_ob hf
    refine ht_iast (w2 := (wDe K jE aE vE_bodies_3 RE.begun RE.partedByZero RE.kind RE.number RE.voice)) hx hb hK hP hD hS 1 1 rfl rfl g_2 dX1_begin_18 evE_bodies_3 rfl (fun H locs hP hD hS => ?_)
    refine lv_aload_n hx hb dX1_begin_19 rfl (lv_at hl 0 rfl) ?_
    refine lv_dup hx hb dX1_begin_20 rfl ?_
    refine va_get (D := D) (ci := 1) (v := .int RE.begun) (C := RX1) (T := TX1) (N := 6) hx hb hts iw1 hown hK hP 0 rfl rfl 1 (by decide) kw1 (fun _ h9 => h9) rfl dX1_begin_21 ?_
    refine lv_iconst (v := 1) hx hb dX1_begin_24 (by decide) ?_
    refine lv_iadd hx hb dX1_begin_25 ?_
    obtain ⟨vE_begun_4, evE_begun_4, hf⟩ := ht_nm_ob hf
    rw [← evE_begun_4]
    refine ht_put (ci := 1) (v := .int vE_begun_4) (ty := .int) (C := RX1) (T := TX1) (N := 6) (w2 := (wDe K jE aE vE_bodies_3 vE_begun_4 RE.partedByZero RE.kind RE.number RE.voice)) hx hb hts iw1 tyX1 tyX1_ok nmX1 hown hK hP hD hS 0 rfl rfl 1 (by decide) kw1 (fun _ h9 => h9) rfl (by decide +kernel) rfl rfl (Nat.le_of_ble_eq_true rfl) dX1_begin_26 rfl (fun H locs hP hD hS => ?_)
    have ho := Option.some.inj hf
    subst ho; subst hQ
    exact ht_vret hx hb hr hlk hK hP hD hS dX1_begin_29
abbrev rmX1_isWifely : Room := { frames := 0, cells := 0, slots := 0, locals := 0 }
theorem hdX1_isWifely : yX1_isWifely.cls = RX1 ∧ yX1_isWifely.cls ≠ "java/lang/invoke/MethodHandle" ∧ yX1_isWifely.cls ≠ "java/lang/invoke/VarHandle" ∧ (parseMethodDescriptor yX1_isWifely.desc).map (fun d => d.parameters.length) = some 0 := by decide +kernel
def fX1_isWifely_b16 (RE : DeedV) : Option Int32 := some (1 : Int32)
def fX1_isWifely (RE : DeedV) : Option Int32 := if RE.kind = (1 : Int32) then (fX1_isWifely_b16 RE ) else (if RE.kind = (3 : Int32) then (fX1_isWifely_b16 RE ) else (some (0 : Int32)))
set_option maxHeartbeats 1000000 in
set_option maxRecDepth 100000 in
theorem ctX1_isWifely (l : Launch) (D : va_G) (K : Nat → ClassId) (jE : Nat) (aE : Nat → Nat) (RE : DeedV) (o : Int32) (hf : fX1_isWifely RE = some o) (sz : Nat) : Met l yX1_isWifely wsX1_isWifely rmX1_isWifely (ht_Pre D K [.ref jE] (wDe K jE aE RE.bodies RE.begun RE.partedByZero RE.kind RE.number RE.voice) sz) (ht_Qi D K (wDe K jE aE RE.bodies RE.begun RE.partedByZero RE.kind RE.number RE.voice) o (va_A (wDe K jE aE RE.bodies RE.begun RE.partedByZero RE.kind RE.number RE.voice) sz)) 0 0 (va_A (wDe K jE aE RE.bodies RE.begun RE.partedByZero RE.kind RE.number RE.voice) sz) := by
  refine ht_enter (Qf := ht_Qi D K (wDe K jE aE RE.bodies RE.begun RE.partedByZero RE.kind RE.number RE.voice) o) (cc := cX1_isWifely) (maxL := 1) (rt := (some .boolean)) (by decide) rfl (Nat.le_of_ble_eq_true rfl) ?_ sz
  intro p e s m below meth c A Q H locs ls hQ hx hb hr hlk hmn hml hown hts hA hK hP hD hS hl
  have hown : s.vm.findClass RX1 = some m.cls := hown
  have hF : CallFix p m c cX1_isWifely 1 s ([.ref jE] : List Value).toArray wsX1_isWifely RX1 := ⟨hx, hb, hml, hown, hts⟩
  have hl : lv_has ls 1 [(0, .ref jE)] := hl
  have iw1 : ∀ w ∈ u_ws RX1 TX1 6, w ∈ wsX1_isWifely := by decide +kernel
  have kw1 := hts (.fieldLink RX1 28 "HeldTongues$Deed" "kind" "I") (by decide +kernel)
  have b16 : ∀ (H : Heap) (locs : List Loc) (ls : Array Slot), fX1_isWifely_b16 RE  = some o → va_P D vwCl (wDe K jE aE RE.bodies RE.begun RE.partedByZero RE.kind RE.number RE.voice) H → va_D A (wDe K jE aE RE.bodies RE.begun RE.partedByZero RE.kind RE.number RE.voice) → va_S A s.heap H locs → lv_has ls 1 [] → W p l e (headSpec wsX1_isWifely rmX1_isWifely).room s m ([.ref jE] : List Value).toArray below meth c H locs 0 0 Q (F0 m 16 ls []) := by
    intro  H locs ls hf hP hD hS hl
    delta fX1_isWifely_b16 at hf
    refine lv_iconst (v := 1) hx hb dX1_isWifely_16 (by decide) ?_
    refine lv_goto (tgt := 21) hx hb dX1_isWifely_17 (by decide) ?_
    have ho := Option.some.inj hf
    subst ho; subst hQ
    exact ht_iret hx hb hr hlk (show narrow .boolean (.int (1 : Int32)) = .int (1 : Int32) from rfl) hK hP hD hS dX1_isWifely_21
  delta fX1_isWifely at hf
  refine lv_aload_n hx hb dX1_isWifely_0 rfl (lv_at hl 0 rfl) ?_
  refine va_get (D := D) (ci := 1) (v := .int RE.kind) (C := RX1) (T := TX1) (N := 6) hx hb hts iw1 hown hK hP 0 rfl rfl 3 (by decide) kw1 (fun _ h9 => h9) rfl dX1_isWifely_1 ?_
  refine lv_iconst (v := 1) hx hb dX1_isWifely_4 (by decide) ?_
  refine lv_icmp_eq (tgt := 16) hx hb dX1_isWifely_5 (by decide) (fun c_1 => ?_) (fun c_1 => ?_)
  · replace hf := ht_t c_1 hf
    exact b16  _ _ _ hf hP hD hS (lv_sub hl [] rfl)
  · replace hf := ht_f c_1 hf
    refine lv_aload_n hx hb dX1_isWifely_8 rfl (lv_at hl 0 rfl) ?_
    refine va_get (D := D) (ci := 1) (v := .int RE.kind) (C := RX1) (T := TX1) (N := 6) hx hb hts iw1 hown hK hP 0 rfl rfl 3 (by decide) kw1 (fun _ h9 => h9) rfl dX1_isWifely_9 ?_
    refine lv_iconst (v := 3) hx hb dX1_isWifely_12 (by decide) ?_
    refine lv_icmp_ne (tgt := 20) hx hb dX1_isWifely_13 (by decide) (fun c_2 => ?_) (fun c_2 => ?_)
    · replace hf := ht_f c_2 hf
      refine lv_iconst (v := 0) hx hb dX1_isWifely_20 (by decide) ?_
      have ho := Option.some.inj hf
      subst ho; subst hQ
      exact ht_iret hx hb hr hlk (show narrow .boolean (.int (0 : Int32)) = .int (0 : Int32) from rfl) hK hP hD hS dX1_isWifely_21
    · replace hf := ht_t c_2 hf
      exact b16  _ _ _ hf hP hD hS (lv_sub hl [] rfl)
abbrev rmX1_isMonkish : Room := { frames := 0, cells := 0, slots := 0, locals := 0 }
theorem hdX1_isMonkish : yX1_isMonkish.cls = RX1 ∧ yX1_isMonkish.cls ≠ "java/lang/invoke/MethodHandle" ∧ yX1_isMonkish.cls ≠ "java/lang/invoke/VarHandle" ∧ (parseMethodDescriptor yX1_isMonkish.desc).map (fun d => d.parameters.length) = some 0 := by decide +kernel
def fX1_isMonkish_b16 (RE : DeedV) : Option Int32 := some (1 : Int32)
def fX1_isMonkish (RE : DeedV) : Option Int32 := if RE.kind = (2 : Int32) then (fX1_isMonkish_b16 RE ) else (if RE.kind = (4 : Int32) then (fX1_isMonkish_b16 RE ) else (some (0 : Int32)))
set_option maxHeartbeats 1000000 in
set_option maxRecDepth 100000 in
theorem ctX1_isMonkish (l : Launch) (D : va_G) (K : Nat → ClassId) (jE : Nat) (aE : Nat → Nat) (RE : DeedV) (o : Int32) (hf : fX1_isMonkish RE = some o) (sz : Nat) : Met l yX1_isMonkish wsX1_isMonkish rmX1_isMonkish (ht_Pre D K [.ref jE] (wDe K jE aE RE.bodies RE.begun RE.partedByZero RE.kind RE.number RE.voice) sz) (ht_Qi D K (wDe K jE aE RE.bodies RE.begun RE.partedByZero RE.kind RE.number RE.voice) o (va_A (wDe K jE aE RE.bodies RE.begun RE.partedByZero RE.kind RE.number RE.voice) sz)) 0 0 (va_A (wDe K jE aE RE.bodies RE.begun RE.partedByZero RE.kind RE.number RE.voice) sz) := by
  refine ht_enter (Qf := ht_Qi D K (wDe K jE aE RE.bodies RE.begun RE.partedByZero RE.kind RE.number RE.voice) o) (cc := cX1_isMonkish) (maxL := 1) (rt := (some .boolean)) (by decide) rfl (Nat.le_of_ble_eq_true rfl) ?_ sz
  intro p e s m below meth c A Q H locs ls hQ hx hb hr hlk hmn hml hown hts hA hK hP hD hS hl
  have hown : s.vm.findClass RX1 = some m.cls := hown
  have hF : CallFix p m c cX1_isMonkish 1 s ([.ref jE] : List Value).toArray wsX1_isMonkish RX1 := ⟨hx, hb, hml, hown, hts⟩
  have hl : lv_has ls 1 [(0, .ref jE)] := hl
  have iw1 : ∀ w ∈ u_ws RX1 TX1 6, w ∈ wsX1_isMonkish := by decide +kernel
  have kw1 := hts (.fieldLink RX1 28 "HeldTongues$Deed" "kind" "I") (by decide +kernel)
  have b16 : ∀ (H : Heap) (locs : List Loc) (ls : Array Slot), fX1_isMonkish_b16 RE  = some o → va_P D vwCl (wDe K jE aE RE.bodies RE.begun RE.partedByZero RE.kind RE.number RE.voice) H → va_D A (wDe K jE aE RE.bodies RE.begun RE.partedByZero RE.kind RE.number RE.voice) → va_S A s.heap H locs → lv_has ls 1 [] → W p l e (headSpec wsX1_isMonkish rmX1_isMonkish).room s m ([.ref jE] : List Value).toArray below meth c H locs 0 0 Q (F0 m 16 ls []) := by
    intro  H locs ls hf hP hD hS hl
    delta fX1_isMonkish_b16 at hf
    refine lv_iconst (v := 1) hx hb dX1_isMonkish_16 (by decide) ?_
    refine lv_goto (tgt := 21) hx hb dX1_isMonkish_17 (by decide) ?_
    have ho := Option.some.inj hf
    subst ho; subst hQ
    exact ht_iret hx hb hr hlk (show narrow .boolean (.int (1 : Int32)) = .int (1 : Int32) from rfl) hK hP hD hS dX1_isMonkish_21
  delta fX1_isMonkish at hf
  refine lv_aload_n hx hb dX1_isMonkish_0 rfl (lv_at hl 0 rfl) ?_
  refine va_get (D := D) (ci := 1) (v := .int RE.kind) (C := RX1) (T := TX1) (N := 6) hx hb hts iw1 hown hK hP 0 rfl rfl 3 (by decide) kw1 (fun _ h9 => h9) rfl dX1_isMonkish_1 ?_
  refine lv_iconst (v := 2) hx hb dX1_isMonkish_4 (by decide) ?_
  refine lv_icmp_eq (tgt := 16) hx hb dX1_isMonkish_5 (by decide) (fun c_1 => ?_) (fun c_1 => ?_)
  · replace hf := ht_t c_1 hf
    exact b16  _ _ _ hf hP hD hS (lv_sub hl [] rfl)
  · replace hf := ht_f c_1 hf
    refine lv_aload_n hx hb dX1_isMonkish_8 rfl (lv_at hl 0 rfl) ?_
    refine va_get (D := D) (ci := 1) (v := .int RE.kind) (C := RX1) (T := TX1) (N := 6) hx hb hts iw1 hown hK hP 0 rfl rfl 3 (by decide) kw1 (fun _ h9 => h9) rfl dX1_isMonkish_9 ?_
    refine lv_iconst (v := 4) hx hb dX1_isMonkish_12 (by decide) ?_
    refine lv_icmp_ne (tgt := 20) hx hb dX1_isMonkish_13 (by decide) (fun c_2 => ?_) (fun c_2 => ?_)
    · replace hf := ht_f c_2 hf
      refine lv_iconst (v := 0) hx hb dX1_isMonkish_20 (by decide) ?_
      have ho := Option.some.inj hf
      subst ho; subst hQ
      exact ht_iret hx hb hr hlk (show narrow .boolean (.int (0 : Int32)) = .int (0 : Int32) from rfl) hK hP hD hS dX1_isMonkish_21
    · replace hf := ht_t c_2 hf
      exact b16  _ _ _ hf hP hD hS (lv_sub hl [] rfl)
abbrev rmX1_mutters : Room := { frames := 1, cells := 0, slots := 0, locals := 21 }
theorem hdX1_mutters : yX1_mutters.cls = RX1 ∧ yX1_mutters.cls ≠ "java/lang/invoke/MethodHandle" ∧ yX1_mutters.cls ≠ "java/lang/invoke/VarHandle" ∧ (parseMethodDescriptor yX1_mutters.desc).map (fun d => d.parameters.length) = some 1 := by decide +kernel
def fX1_mutters_b80 (RE : DeedV) (x2 : Int32) (vE_bodies : AI) (vE_begun : Int32) : Option (Int32 × AI × Int32) := if RE.kind = (3 : Int32) then (ht_nm (x2 + (7 : Int32)) (fun x2_2 => some (x2_2, vE_bodies, vE_begun))) else (some (x2, vE_bodies, vE_begun))
def fX1_mutters_b68 (RE : DeedV) (x2 : Int32) (vE_bodies : AI) (vE_begun : Int32) : Option (Int32 × AI × Int32) := if RE.kind = (4 : Int32) then (ht_nm (x2 - (5 : Int32)) (fun x2_4 => fX1_mutters_b80 RE x2_4 vE_bodies vE_begun)) else (fX1_mutters_b80 RE x2 vE_bodies vE_begun)
def fX1_mutters_b41 (RE : DeedV) (x1 : Int32) (vE_bodies : AI) (vE_begun : Int32) : Option (Int32 × AI × Int32) := ht_bn (fX1_begin (vE_bodies, vE_begun, RE.partedByZero, RE.kind, RE.number, RE.voice) (10 : Int32)) (fun o_5 => ht_nm (x1 + (RE.number * (6 : Int32))) (fun x2_6 => ht_bn (fX1_isMonkish (o_5.1, o_5.2, RE.partedByZero, RE.kind, RE.number, RE.voice)) (fun o_7 => if o_7 = 0 then (fX1_mutters_b68 RE x2_6 o_5.1 o_5.2) else (ht_nm ((0 : Int32) - x2_6) (fun x2_9 => fX1_mutters_b68 RE x2_9 o_5.1 o_5.2)))))
def fX1_mutters_b28 (RE : DeedV) (x1 : Int32) (vE_bodies : AI) (vE_begun : Int32) : Option (Int32 × AI × Int32) := ht_bn (fX1_isMonkish (vE_bodies, vE_begun, RE.partedByZero, RE.kind, RE.number, RE.voice)) (fun o_10 => if o_10 = 0 then (fX1_mutters_b41 RE x1 vE_bodies vE_begun) else (ht_bn (fX1_begin (vE_bodies, vE_begun, RE.partedByZero, RE.kind, RE.number, RE.voice) (30 : Int32)) (fun o_12 => fX1_mutters_b41 RE x1 o_12.1 o_12.2)))
def fX1_mutters_b14 (RE : DeedV) (x1 : Int32) (vE_bodies : AI) (vE_begun : Int32) : Option (Int32 × AI × Int32) := if RE.kind = (4 : Int32) then (ht_bn (fX1_begin (vE_bodies, vE_begun, RE.partedByZero, RE.kind, RE.number, RE.voice) (40 : Int32)) (fun o_14 => fX1_mutters_b28 RE x1 o_14.1 o_14.2)) else (fX1_mutters_b28 RE x1 vE_bodies vE_begun)
def fX1_mutters (RE : DeedV) (p0 : Int32) : Option (Int32 × AI × Int32) := if RE.kind = (3 : Int32) then (ht_bn (fX1_begin RE (51 : Int32)) (fun o_16 => fX1_mutters_b14 RE p0 o_16.1 o_16.2)) else (fX1_mutters_b14 RE p0 RE.bodies RE.begun)
set_option maxHeartbeats 1000000 in
set_option maxRecDepth 100000 in
theorem ctX1_mutters (l : Launch) (D : va_G) (K : Nat → ClassId) (jE : Nat) (aE : Nat → Nat) (RE : DeedV) (p0 : Int32) (o : (Int32 × AI × Int32)) (hf : fX1_mutters RE p0 = some o) (sz : Nat) : Met l yX1_mutters wsX1_mutters rmX1_mutters (ht_Pre D K [.ref jE, .int p0] (wDe K jE aE RE.bodies RE.begun RE.partedByZero RE.kind RE.number RE.voice) sz) (ht_Qi D K (wDe K jE aE o.2.1 o.2.2 RE.partedByZero RE.kind RE.number RE.voice) o.1 (va_A (wDe K jE aE RE.bodies RE.begun RE.partedByZero RE.kind RE.number RE.voice) sz)) 0 0 (va_A (wDe K jE aE RE.bodies RE.begun RE.partedByZero RE.kind RE.number RE.voice) sz) := by
  refine ht_enter (Qf := ht_Qi D K (wDe K jE aE o.2.1 o.2.2 RE.partedByZero RE.kind RE.number RE.voice) o.1) (cc := cX1_mutters) (maxL := 3) (rt := (some .int)) (by decide) rfl (Nat.le_of_ble_eq_true rfl) ?_ sz
  intro p e s m below meth c A Q H locs ls hQ hx hb hr hlk hmn hml hown hts hA hK hP hD hS hl
  have hown : s.vm.findClass RX1 = some m.cls := hown
  have hF : CallFix p m c cX1_mutters 3 s ([.ref jE, .int p0] : List Value).toArray wsX1_mutters RX1 := ⟨hx, hb, hml, hown, hts⟩
  have hl : lv_has ls 3 [(0, .ref jE), (1, .int p0)] := hl
  have iw1 : ∀ w ∈ u_ws RX1 TX1 6, w ∈ wsX1_mutters := by decide +kernel
  have kw1 := hts (.fieldLink RX1 28 "HeldTongues$Deed" "kind" "I") (by decide +kernel)
  have kw2 := hts (.fieldLink RX1 30 "HeldTongues$Deed" "number" "I") (by decide +kernel)
  have b80 : ∀ (x2 : Int32) (vE_bodies : AI) (vE_begun : Int32) (H : Heap) (locs : List Loc) (ls : Array Slot), fX1_mutters_b80 RE x2 vE_bodies vE_begun = some o → va_P D vwCl (wDe K jE aE vE_bodies vE_begun RE.partedByZero RE.kind RE.number RE.voice) H → va_D A (wDe K jE aE vE_bodies vE_begun RE.partedByZero RE.kind RE.number RE.voice) → va_S A s.heap H locs → lv_has ls 3 [(0, .ref jE), (2, .int x2)] → W p l e (headSpec wsX1_mutters rmX1_mutters).room s m ([.ref jE, .int p0] : List Value).toArray below meth c H locs 0 0 Q (F0 m 80 ls []) := by
    intro x2 vE_bodies vE_begun H locs ls hf hP hD hS hl
    delta fX1_mutters_b80 at hf
    refine lv_aload_n hx hb dX1_mutters_80 rfl (lv_at hl 0 rfl) ?_
    refine va_get (D := D) (ci := 1) (v := .int RE.kind) (C := RX1) (T := TX1) (N := 6) hx hb hts iw1 hown hK hP 0 rfl rfl 3 (by decide) kw1 (fun _ h9 => h9) rfl dX1_mutters_81 ?_
    refine lv_iconst (v := 3) hx hb dX1_mutters_84 (by decide) ?_
    refine lv_icmp_ne (tgt := 93) hx hb dX1_mutters_85 (by decide) (fun c_1 => ?_) (fun c_1 => ?_)
    · replace hf := ht_f c_1 hf
      refine lv_iload_n hx hb dX1_mutters_93 rfl (lv_at hl 1 rfl) ?_
      have ho := Option.some.inj hf
      subst ho; subst hQ
      exact ht_iret hx hb hr hlk rfl hK hP hD hS dX1_mutters_94
    · replace hf := ht_t c_1 hf
      refine lv_iload_n hx hb dX1_mutters_88 rfl (lv_at hl 1 rfl) ?_
      refine lv_bipush (v := 7) hx hb dX1_mutters_89 (by decide) ?_
      refine lv_iadd hx hb dX1_mutters_91 ?_
      obtain ⟨x2_2, ex2_2, hf⟩ := ht_nm_ob hf
      rw [← ex2_2]
      refine lv_istore_n (lv' := [(2, .int x2_2), (0, .ref jE)]) hx hb dX1_mutters_92 rfl hl (by decide) rfl (fun ls hl => ?_)
      refine lv_iload_n hx hb dX1_mutters_93 rfl (lv_at hl 0 rfl) ?_
      have ho := Option.some.inj hf
      subst ho; subst hQ
      exact ht_iret hx hb hr hlk rfl hK hP hD hS dX1_mutters_94
  have b68 : ∀ (x2 : Int32) (vE_bodies : AI) (vE_begun : Int32) (H : Heap) (locs : List Loc) (ls : Array Slot), fX1_mutters_b68 RE x2 vE_bodies vE_begun = some o → va_P D vwCl (wDe K jE aE vE_bodies vE_begun RE.partedByZero RE.kind RE.number RE.voice) H → va_D A (wDe K jE aE vE_bodies vE_begun RE.partedByZero RE.kind RE.number RE.voice) → va_S A s.heap H locs → lv_has ls 3 [(0, .ref jE), (2, .int x2)] → W p l e (headSpec wsX1_mutters rmX1_mutters).room s m ([.ref jE, .int p0] : List Value).toArray below meth c H locs 0 0 Q (F0 m 68 ls []) := by
    intro x2 vE_bodies vE_begun H locs ls hf hP hD hS hl
    delta fX1_mutters_b68 at hf
    refine lv_aload_n hx hb dX1_mutters_68 rfl (lv_at hl 0 rfl) ?_
    refine va_get (D := D) (ci := 1) (v := .int RE.kind) (C := RX1) (T := TX1) (N := 6) hx hb hts iw1 hown hK hP 0 rfl rfl 3 (by decide) kw1 (fun _ h9 => h9) rfl dX1_mutters_69 ?_
    refine lv_iconst (v := 4) hx hb dX1_mutters_72 (by decide) ?_
    refine lv_icmp_ne (tgt := 80) hx hb dX1_mutters_73 (by decide) (fun c_3 => ?_) (fun c_3 => ?_)
    · replace hf := ht_f c_3 hf
      exact b80  x2 vE_bodies vE_begun _ _ _ hf hP hD hS hl
    · replace hf := ht_t c_3 hf
      refine lv_iload_n hx hb dX1_mutters_76 rfl (lv_at hl 1 rfl) ?_
      refine lv_iconst (v := 5) hx hb dX1_mutters_77 (by decide) ?_
      refine lv_isub hx hb dX1_mutters_78 ?_
      obtain ⟨x2_4, ex2_4, hf⟩ := ht_nm_ob hf
      rw [← ex2_4]
      refine lv_istore_n (lv' := [(2, .int x2_4), (0, .ref jE)]) hx hb dX1_mutters_79 rfl hl (by decide) rfl (fun ls hl => ?_)
      exact b80  x2_4 vE_bodies vE_begun _ _ _ hf hP hD hS (lv_sub hl [1, 0] rfl)
  have b41 : ∀ (x1 : Int32) (vE_bodies : AI) (vE_begun : Int32) (H : Heap) (locs : List Loc) (ls : Array Slot), fX1_mutters_b41 RE x1 vE_bodies vE_begun = some o → va_P D vwCl (wDe K jE aE vE_bodies vE_begun RE.partedByZero RE.kind RE.number RE.voice) H → va_D A (wDe K jE aE vE_bodies vE_begun RE.partedByZero RE.kind RE.number RE.voice) → va_S A s.heap H locs → lv_has ls 3 [(0, .ref jE), (1, .int x1)] → W p l e (headSpec wsX1_mutters rmX1_mutters).room s m ([.ref jE, .int p0] : List Value).toArray below meth c H locs 0 0 Q (F0 m 41 ls []) := by
    intro x1 vE_bodies vE_begun H locs ls hf hP hD hS hl
    delta fX1_mutters_b41 at hf
    refine lv_aload_n hx hb dX1_mutters_41 rfl (lv_at hl 0 rfl) ?_
    refine lv_bipush (v := 10) hx hb dX1_mutters_42 (by decide) ?_
    obtain ⟨o_5, ho_5, hf⟩ := ht_bn_ob hf
    refine ht_callVv (rest := []) (As := [.int (10 : Int32)]) (wc := (wDe K jE aE vE_bodies vE_begun RE.partedByZero RE.kind RE.number RE.voice)) (wr := []) (w1 := (wDe K jE aE o_5.1 o_5.2 RE.partedByZero RE.kind RE.number RE.voice)) (w2 := (wDe K jE aE o_5.1 o_5.2 RE.partedByZero RE.kind RE.number RE.voice)) hF (ctX1_begin l D K jE aE (vE_bodies, vE_begun, RE.partedByZero, RE.kind, RE.number, RE.voice) (10 : Int32) o_5 ho_5 H.size) (cwV 1 hts gX1_mutters_X1_begin rfl rfl rfl hdX1_begin ⟨Nat.le_of_ble_eq_true rfl, Nat.le_of_ble_eq_true rfl⟩) hK hP hD hS hA [0, 1] [] rfl rfl (by decide) (by decide) (by decide) [0, 1] rfl (by decide) (va_recv hK hP (ci := 1) (q0 := 0) rfl rfl) rfl hl.1 rfl (Nat.le_of_ble_eq_true rfl) dX1_mutters_44 ⟨Nat.zero_le _, Nat.zero_le _⟩ (fun H locs hP hD hS => ?_)
    refine lv_iload_n hx hb dX1_mutters_47 rfl (lv_at hl 1 rfl) ?_
    refine lv_aload_n hx hb dX1_mutters_48 rfl (lv_at hl 0 rfl) ?_
    refine va_get (D := D) (ci := 1) (v := .int RE.number) (C := RX1) (T := TX1) (N := 6) hx hb hts iw1 hown hK hP 0 rfl rfl 4 (by decide) kw2 (fun _ h9 => h9) rfl dX1_mutters_49 ?_
    refine lv_bipush (v := 6) hx hb dX1_mutters_52 (by decide) ?_
    refine lv_imul hx hb dX1_mutters_54 ?_
    refine lv_iadd hx hb dX1_mutters_55 ?_
    obtain ⟨x2_6, ex2_6, hf⟩ := ht_nm_ob hf
    rw [← ex2_6]
    refine lv_istore_n (lv' := [(2, .int x2_6), (0, .ref jE), (1, .int x1)]) hx hb dX1_mutters_56 rfl hl (by decide) rfl (fun ls hl => ?_)
    refine lv_aload_n hx hb dX1_mutters_57 rfl (lv_at hl 1 rfl) ?_
    obtain ⟨o_7, ho_7, hf⟩ := ht_bn_ob hf
    refine ht_callVi (r := o_7) (rest := []) (As := []) (wc := (wDe K jE aE o_5.1 o_5.2 RE.partedByZero RE.kind RE.number RE.voice)) (wr := []) (w1 := (wDe K jE aE o_5.1 o_5.2 RE.partedByZero RE.kind RE.number RE.voice)) (w2 := (wDe K jE aE o_5.1 o_5.2 RE.partedByZero RE.kind RE.number RE.voice)) hF (ctX1_isMonkish l D K jE aE (o_5.1, o_5.2, RE.partedByZero, RE.kind, RE.number, RE.voice) o_7 ho_7 H.size) (cwV 0 hts gX1_mutters_X1_isMonkish rfl rfl rfl hdX1_isMonkish ⟨Nat.le_of_ble_eq_true rfl, Nat.le_of_ble_eq_true rfl⟩) hK hP hD hS hA [0, 1] [] rfl rfl (by decide) (by decide) (by decide) [0, 1] rfl (by decide) (va_recv hK hP (ci := 1) (q0 := 0) rfl rfl) rfl hl.1 rfl (Nat.le_of_ble_eq_true rfl) dX1_mutters_58 ⟨Nat.zero_le _, Nat.zero_le _⟩ (fun H locs hP hD hS => ?_)
    refine lv_if_eq (tgt := 68) hx hb dX1_mutters_61 (by decide) (fun c_8 => ?_) (fun c_8 => ?_)
    · replace hf := ht_t c_8 hf
      exact b68  x2_6 o_5.1 o_5.2 _ _ _ hf hP hD hS (lv_sub hl [1, 0] rfl)
    · replace hf := ht_f c_8 hf
      refine lv_iconst (v := 0) hx hb dX1_mutters_64 (by decide) ?_
      refine lv_iload_n hx hb dX1_mutters_65 rfl (lv_at hl 0 rfl) ?_
      refine lv_isub hx hb dX1_mutters_66 ?_
      obtain ⟨x2_9, ex2_9, hf⟩ := ht_nm_ob hf
      rw [← ex2_9]
      refine lv_istore_n (lv' := [(2, .int x2_9), (0, .ref jE), (1, .int x1)]) hx hb dX1_mutters_67 rfl hl (by decide) rfl (fun ls hl => ?_)
      exact b68  x2_9 o_5.1 o_5.2 _ _ _ hf hP hD hS (lv_sub hl [1, 0] rfl)
  have b28 : ∀ (x1 : Int32) (vE_bodies : AI) (vE_begun : Int32) (H : Heap) (locs : List Loc) (ls : Array Slot), fX1_mutters_b28 RE x1 vE_bodies vE_begun = some o → va_P D vwCl (wDe K jE aE vE_bodies vE_begun RE.partedByZero RE.kind RE.number RE.voice) H → va_D A (wDe K jE aE vE_bodies vE_begun RE.partedByZero RE.kind RE.number RE.voice) → va_S A s.heap H locs → lv_has ls 3 [(0, .ref jE), (1, .int x1)] → W p l e (headSpec wsX1_mutters rmX1_mutters).room s m ([.ref jE, .int p0] : List Value).toArray below meth c H locs 0 0 Q (F0 m 28 ls []) := by
    intro x1 vE_bodies vE_begun H locs ls hf hP hD hS hl
    delta fX1_mutters_b28 at hf
    refine lv_aload_n hx hb dX1_mutters_28 rfl (lv_at hl 0 rfl) ?_
    obtain ⟨o_10, ho_10, hf⟩ := ht_bn_ob hf
    refine ht_callVi (r := o_10) (rest := []) (As := []) (wc := (wDe K jE aE vE_bodies vE_begun RE.partedByZero RE.kind RE.number RE.voice)) (wr := []) (w1 := (wDe K jE aE vE_bodies vE_begun RE.partedByZero RE.kind RE.number RE.voice)) (w2 := (wDe K jE aE vE_bodies vE_begun RE.partedByZero RE.kind RE.number RE.voice)) hF (ctX1_isMonkish l D K jE aE (vE_bodies, vE_begun, RE.partedByZero, RE.kind, RE.number, RE.voice) o_10 ho_10 H.size) (cwV 0 hts gX1_mutters_X1_isMonkish rfl rfl rfl hdX1_isMonkish ⟨Nat.le_of_ble_eq_true rfl, Nat.le_of_ble_eq_true rfl⟩) hK hP hD hS hA [0, 1] [] rfl rfl (by decide) (by decide) (by decide) [0, 1] rfl (by decide) (va_recv hK hP (ci := 1) (q0 := 0) rfl rfl) rfl hl.1 rfl (Nat.le_of_ble_eq_true rfl) dX1_mutters_29 ⟨Nat.zero_le _, Nat.zero_le _⟩ (fun H locs hP hD hS => ?_)
    refine lv_if_eq (tgt := 41) hx hb dX1_mutters_32 (by decide) (fun c_11 => ?_) (fun c_11 => ?_)
    · replace hf := ht_t c_11 hf
      exact b41  x1 vE_bodies vE_begun _ _ _ hf hP hD hS hl
    · replace hf := ht_f c_11 hf
      refine lv_aload_n hx hb dX1_mutters_35 rfl (lv_at hl 0 rfl) ?_
      refine lv_bipush (v := 30) hx hb dX1_mutters_36 (by decide) ?_
      obtain ⟨o_12, ho_12, hf⟩ := ht_bn_ob hf
      refine ht_callVv (rest := []) (As := [.int (30 : Int32)]) (wc := (wDe K jE aE vE_bodies vE_begun RE.partedByZero RE.kind RE.number RE.voice)) (wr := []) (w1 := (wDe K jE aE o_12.1 o_12.2 RE.partedByZero RE.kind RE.number RE.voice)) (w2 := (wDe K jE aE o_12.1 o_12.2 RE.partedByZero RE.kind RE.number RE.voice)) hF (ctX1_begin l D K jE aE (vE_bodies, vE_begun, RE.partedByZero, RE.kind, RE.number, RE.voice) (30 : Int32) o_12 ho_12 H.size) (cwV 1 hts gX1_mutters_X1_begin rfl rfl rfl hdX1_begin ⟨Nat.le_of_ble_eq_true rfl, Nat.le_of_ble_eq_true rfl⟩) hK hP hD hS hA [0, 1] [] rfl rfl (by decide) (by decide) (by decide) [0, 1] rfl (by decide) (va_recv hK hP (ci := 1) (q0 := 0) rfl rfl) rfl hl.1 rfl (Nat.le_of_ble_eq_true rfl) dX1_mutters_38 ⟨Nat.zero_le _, Nat.zero_le _⟩ (fun H locs hP hD hS => ?_)
      exact b41  x1 o_12.1 o_12.2 _ _ _ hf hP hD hS hl
  have b14 : ∀ (x1 : Int32) (vE_bodies : AI) (vE_begun : Int32) (H : Heap) (locs : List Loc) (ls : Array Slot), fX1_mutters_b14 RE x1 vE_bodies vE_begun = some o → va_P D vwCl (wDe K jE aE vE_bodies vE_begun RE.partedByZero RE.kind RE.number RE.voice) H → va_D A (wDe K jE aE vE_bodies vE_begun RE.partedByZero RE.kind RE.number RE.voice) → va_S A s.heap H locs → lv_has ls 3 [(0, .ref jE), (1, .int x1)] → W p l e (headSpec wsX1_mutters rmX1_mutters).room s m ([.ref jE, .int p0] : List Value).toArray below meth c H locs 0 0 Q (F0 m 14 ls []) := by
    intro x1 vE_bodies vE_begun H locs ls hf hP hD hS hl
    delta fX1_mutters_b14 at hf
    refine lv_aload_n hx hb dX1_mutters_14 rfl (lv_at hl 0 rfl) ?_
    refine va_get (D := D) (ci := 1) (v := .int RE.kind) (C := RX1) (T := TX1) (N := 6) hx hb hts iw1 hown hK hP 0 rfl rfl 3 (by decide) kw1 (fun _ h9 => h9) rfl dX1_mutters_15 ?_
    refine lv_iconst (v := 4) hx hb dX1_mutters_18 (by decide) ?_
    refine lv_icmp_ne (tgt := 28) hx hb dX1_mutters_19 (by decide) (fun c_13 => ?_) (fun c_13 => ?_)
    · replace hf := ht_f c_13 hf
      exact b28  x1 vE_bodies vE_begun _ _ _ hf hP hD hS hl
    · replace hf := ht_t c_13 hf
      refine lv_aload_n hx hb dX1_mutters_22 rfl (lv_at hl 0 rfl) ?_
      refine lv_bipush (v := 40) hx hb dX1_mutters_23 (by decide) ?_
      obtain ⟨o_14, ho_14, hf⟩ := ht_bn_ob hf
      refine ht_callVv (rest := []) (As := [.int (40 : Int32)]) (wc := (wDe K jE aE vE_bodies vE_begun RE.partedByZero RE.kind RE.number RE.voice)) (wr := []) (w1 := (wDe K jE aE o_14.1 o_14.2 RE.partedByZero RE.kind RE.number RE.voice)) (w2 := (wDe K jE aE o_14.1 o_14.2 RE.partedByZero RE.kind RE.number RE.voice)) hF (ctX1_begin l D K jE aE (vE_bodies, vE_begun, RE.partedByZero, RE.kind, RE.number, RE.voice) (40 : Int32) o_14 ho_14 H.size) (cwV 1 hts gX1_mutters_X1_begin rfl rfl rfl hdX1_begin ⟨Nat.le_of_ble_eq_true rfl, Nat.le_of_ble_eq_true rfl⟩) hK hP hD hS hA [0, 1] [] rfl rfl (by decide) (by decide) (by decide) [0, 1] rfl (by decide) (va_recv hK hP (ci := 1) (q0 := 0) rfl rfl) rfl hl.1 rfl (Nat.le_of_ble_eq_true rfl) dX1_mutters_25 ⟨Nat.zero_le _, Nat.zero_le _⟩ (fun H locs hP hD hS => ?_)
      exact b28  x1 o_14.1 o_14.2 _ _ _ hf hP hD hS hl
  delta fX1_mutters at hf
  refine lv_aload_n hx hb dX1_mutters_0 rfl (lv_at hl 0 rfl) ?_
  refine va_get (D := D) (ci := 1) (v := .int RE.kind) (C := RX1) (T := TX1) (N := 6) hx hb hts iw1 hown hK hP 0 rfl rfl 3 (by decide) kw1 (fun _ h9 => h9) rfl dX1_mutters_1 ?_
  refine lv_iconst (v := 3) hx hb dX1_mutters_4 (by decide) ?_
  refine lv_icmp_ne (tgt := 14) hx hb dX1_mutters_5 (by decide) (fun c_15 => ?_) (fun c_15 => ?_)
  · replace hf := ht_f c_15 hf
    exact b14  p0 RE.bodies RE.begun _ _ _ hf hP hD hS hl
  · replace hf := ht_t c_15 hf
    refine lv_aload_n hx hb dX1_mutters_8 rfl (lv_at hl 0 rfl) ?_
    refine lv_bipush (v := 51) hx hb dX1_mutters_9 (by decide) ?_
    obtain ⟨o_16, ho_16, hf⟩ := ht_bn_ob hf
    refine ht_callVv (rest := []) (As := [.int (51 : Int32)]) (wc := (wDe K jE aE RE.bodies RE.begun RE.partedByZero RE.kind RE.number RE.voice)) (wr := []) (w1 := (wDe K jE aE o_16.1 o_16.2 RE.partedByZero RE.kind RE.number RE.voice)) (w2 := (wDe K jE aE o_16.1 o_16.2 RE.partedByZero RE.kind RE.number RE.voice)) hF (ctX1_begin l D K jE aE RE (51 : Int32) o_16 ho_16 H.size) (cwV 1 hts gX1_mutters_X1_begin rfl rfl rfl hdX1_begin ⟨Nat.le_of_ble_eq_true rfl, Nat.le_of_ble_eq_true rfl⟩) hK hP hD hS hA [0, 1] [] rfl rfl (by decide) (by decide) (by decide) [0, 1] rfl (by decide) (va_recv hK hP (ci := 1) (q0 := 0) rfl rfl) rfl hl.1 rfl (Nat.le_of_ble_eq_true rfl) dX1_mutters_11 ⟨Nat.zero_le _, Nat.zero_le _⟩ (fun H locs hP hD hS => ?_)
    exact b14  p0 o_16.1 o_16.2 _ _ _ hf hP hD hS hl
abbrev rmX1_says : Room := { frames := 2, cells := 0, slots := 0, locals := 43 }
theorem hdX1_says : yX1_says.cls = RX1 ∧ yX1_says.cls ≠ "java/lang/invoke/MethodHandle" ∧ yX1_says.cls ≠ "java/lang/invoke/VarHandle" ∧ (parseMethodDescriptor yX1_says.desc).map (fun d => d.parameters.length) = some 1 := by decide +kernel
def fX1_says_b57 (RE : DeedV) (x2 : Int32) (vE_bodies : AI) (vE_begun : Int32) : Option (Int32 × AI × Int32) := if RE.kind = (4 : Int32) then (ht_bn (fX1_mutters (vE_bodies, vE_begun, RE.partedByZero, RE.kind, RE.number, RE.voice) RE.voice) (fun o_2 => ht_nm (x2 ^^^ o_2.1) (fun x2_3 => some (x2_3, o_2.2.1, o_2.2.2)))) else (some (x2, vE_bodies, vE_begun))
def fX1_says_b27 (RE : DeedV) (x1 : Int32) (vE_bodies : AI) (vE_begun : Int32) : Option (Int32 × AI × Int32) := ht_bn (fX1_begin (vE_bodies, vE_begun, RE.partedByZero, RE.kind, RE.number, RE.voice) (11 : Int32)) (fun o_4 => ht_bn (fX1_mutters (o_4.1, o_4.2, RE.partedByZero, RE.kind, RE.number, RE.voice) x1) (fun o_5 => ht_nm ((o_5.1 * (2 : Int32)) + RE.voice) (fun x2_6 => ht_bn (fX1_isWifely (o_5.2.1, o_5.2.2, RE.partedByZero, RE.kind, RE.number, RE.voice)) (fun o_7 => if o_7 = 0 then (fX1_says_b57 RE x2_6 o_5.2.1 o_5.2.2) else (ht_nm (x2_6 * (3 : Int32)) (fun x2_9 => fX1_says_b57 RE x2_9 o_5.2.1 o_5.2.2))))))
def fX1_says_b14 (RE : DeedV) (x1 : Int32) (vE_bodies : AI) (vE_begun : Int32) : Option (Int32 × AI × Int32) := ht_bn (fX1_isWifely (vE_bodies, vE_begun, RE.partedByZero, RE.kind, RE.number, RE.voice)) (fun o_10 => if o_10 = 0 then (fX1_says_b27 RE x1 vE_bodies vE_begun) else (ht_bn (fX1_begin (vE_bodies, vE_begun, RE.partedByZero, RE.kind, RE.number, RE.voice) (20 : Int32)) (fun o_12 => fX1_says_b27 RE x1 o_12.1 o_12.2)))
def fX1_says (RE : DeedV) (p0 : Int32) : Option (Int32 × AI × Int32) := if RE.kind = (4 : Int32) then (ht_bn (fX1_begin RE (41 : Int32)) (fun o_14 => fX1_says_b14 RE p0 o_14.1 o_14.2)) else (fX1_says_b14 RE p0 RE.bodies RE.begun)
set_option maxHeartbeats 1000000 in
set_option maxRecDepth 100000 in
theorem ctX1_says (l : Launch) (D : va_G) (K : Nat → ClassId) (jE : Nat) (aE : Nat → Nat) (RE : DeedV) (p0 : Int32) (o : (Int32 × AI × Int32)) (hf : fX1_says RE p0 = some o) (sz : Nat) : Met l yX1_says wsX1_says rmX1_says (ht_Pre D K [.ref jE, .int p0] (wDe K jE aE RE.bodies RE.begun RE.partedByZero RE.kind RE.number RE.voice) sz) (ht_Qi D K (wDe K jE aE o.2.1 o.2.2 RE.partedByZero RE.kind RE.number RE.voice) o.1 (va_A (wDe K jE aE RE.bodies RE.begun RE.partedByZero RE.kind RE.number RE.voice) sz)) 0 0 (va_A (wDe K jE aE RE.bodies RE.begun RE.partedByZero RE.kind RE.number RE.voice) sz) := by
  refine ht_enter (Qf := ht_Qi D K (wDe K jE aE o.2.1 o.2.2 RE.partedByZero RE.kind RE.number RE.voice) o.1) (cc := cX1_says) (maxL := 3) (rt := (some .int)) (by decide) rfl (Nat.le_of_ble_eq_true rfl) ?_ sz
  intro p e s m below meth c A Q H locs ls hQ hx hb hr hlk hmn hml hown hts hA hK hP hD hS hl
  have hown : s.vm.findClass RX1 = some m.cls := hown
  have hF : CallFix p m c cX1_says 3 s ([.ref jE, .int p0] : List Value).toArray wsX1_says RX1 := ⟨hx, hb, hml, hown, hts⟩
  have hl : lv_has ls 3 [(0, .ref jE), (1, .int p0)] := hl
  have iw1 : ∀ w ∈ u_ws RX1 TX1 6, w ∈ wsX1_says := by decide +kernel
  have kw1 := hts (.fieldLink RX1 28 "HeldTongues$Deed" "kind" "I") (by decide +kernel)
  have kw2 := hts (.fieldLink RX1 36 "HeldTongues$Deed" "voice" "I") (by decide +kernel)
  have b57 : ∀ (x2 : Int32) (vE_bodies : AI) (vE_begun : Int32) (H : Heap) (locs : List Loc) (ls : Array Slot), fX1_says_b57 RE x2 vE_bodies vE_begun = some o → va_P D vwCl (wDe K jE aE vE_bodies vE_begun RE.partedByZero RE.kind RE.number RE.voice) H → va_D A (wDe K jE aE vE_bodies vE_begun RE.partedByZero RE.kind RE.number RE.voice) → va_S A s.heap H locs → lv_has ls 3 [(0, .ref jE), (2, .int x2)] → W p l e (headSpec wsX1_says rmX1_says).room s m ([.ref jE, .int p0] : List Value).toArray below meth c H locs 0 0 Q (F0 m 57 ls []) := by
    intro x2 vE_bodies vE_begun H locs ls hf hP hD hS hl
    delta fX1_says_b57 at hf
    refine lv_aload_n hx hb dX1_says_57 rfl (lv_at hl 0 rfl) ?_
    refine va_get (D := D) (ci := 1) (v := .int RE.kind) (C := RX1) (T := TX1) (N := 6) hx hb hts iw1 hown hK hP 0 rfl rfl 3 (by decide) kw1 (fun _ h9 => h9) rfl dX1_says_58 ?_
    refine lv_iconst (v := 4) hx hb dX1_says_61 (by decide) ?_
    refine lv_icmp_ne (tgt := 76) hx hb dX1_says_62 (by decide) (fun c_1 => ?_) (fun c_1 => ?_)
    · replace hf := ht_f c_1 hf
      refine lv_iload_n hx hb dX1_says_76 rfl (lv_at hl 1 rfl) ?_
      have ho := Option.some.inj hf
      subst ho; subst hQ
      exact ht_iret hx hb hr hlk rfl hK hP hD hS dX1_says_77
    · replace hf := ht_t c_1 hf
      refine lv_iload_n hx hb dX1_says_65 rfl (lv_at hl 1 rfl) ?_
      refine lv_aload_n hx hb dX1_says_66 rfl (lv_at hl 0 rfl) ?_
      refine lv_aload_n hx hb dX1_says_67 rfl (lv_at hl 0 rfl) ?_
      refine va_get (D := D) (ci := 1) (v := .int RE.voice) (C := RX1) (T := TX1) (N := 6) hx hb hts iw1 hown hK hP 0 rfl rfl 5 (by decide) kw2 (fun _ h9 => h9) rfl dX1_says_68 ?_
      obtain ⟨o_2, ho_2, hf⟩ := ht_bn_ob hf
      refine ht_callVi (r := o_2.1) (rest := [.int x2]) (As := [.int RE.voice]) (wc := (wDe K jE aE vE_bodies vE_begun RE.partedByZero RE.kind RE.number RE.voice)) (wr := []) (w1 := (wDe K jE aE o_2.2.1 o_2.2.2 RE.partedByZero RE.kind RE.number RE.voice)) (w2 := (wDe K jE aE o_2.2.1 o_2.2.2 RE.partedByZero RE.kind RE.number RE.voice)) hF (ctX1_mutters l D K jE aE (vE_bodies, vE_begun, RE.partedByZero, RE.kind, RE.number, RE.voice) RE.voice o_2 ho_2 H.size) (cwV 1 hts gX1_says_X1_mutters rfl rfl rfl hdX1_mutters ⟨Nat.le_of_ble_eq_true rfl, Nat.le_of_ble_eq_true rfl⟩) hK hP hD hS hA [0, 1] [] rfl rfl (by decide) (by decide) (by decide) [0, 1] rfl (by decide) (va_recv hK hP (ci := 1) (q0 := 0) rfl rfl) rfl hl.1 rfl (Nat.le_of_ble_eq_true rfl) dX1_says_71 ⟨Nat.zero_le _, Nat.zero_le _⟩ (fun H locs hP hD hS => ?_)
      refine lv_ixor hx hb dX1_says_74 ?_
      obtain ⟨x2_3, ex2_3, hf⟩ := ht_nm_ob hf
      rw [← ex2_3]
      refine lv_istore_n (lv' := [(2, .int x2_3), (0, .ref jE)]) hx hb dX1_says_75 rfl hl (by decide) rfl (fun ls hl => ?_)
      refine lv_iload_n hx hb dX1_says_76 rfl (lv_at hl 0 rfl) ?_
      have ho := Option.some.inj hf
      subst ho; subst hQ
      exact ht_iret hx hb hr hlk rfl hK hP hD hS dX1_says_77
  have b27 : ∀ (x1 : Int32) (vE_bodies : AI) (vE_begun : Int32) (H : Heap) (locs : List Loc) (ls : Array Slot), fX1_says_b27 RE x1 vE_bodies vE_begun = some o → va_P D vwCl (wDe K jE aE vE_bodies vE_begun RE.partedByZero RE.kind RE.number RE.voice) H → va_D A (wDe K jE aE vE_bodies vE_begun RE.partedByZero RE.kind RE.number RE.voice) → va_S A s.heap H locs → lv_has ls 3 [(0, .ref jE), (1, .int x1)] → W p l e (headSpec wsX1_says rmX1_says).room s m ([.ref jE, .int p0] : List Value).toArray below meth c H locs 0 0 Q (F0 m 27 ls []) := by
    intro x1 vE_bodies vE_begun H locs ls hf hP hD hS hl
    delta fX1_says_b27 at hf
    refine lv_aload_n hx hb dX1_says_27 rfl (lv_at hl 0 rfl) ?_
    refine lv_bipush (v := 11) hx hb dX1_says_28 (by decide) ?_
    obtain ⟨o_4, ho_4, hf⟩ := ht_bn_ob hf
    refine ht_callVv (rest := []) (As := [.int (11 : Int32)]) (wc := (wDe K jE aE vE_bodies vE_begun RE.partedByZero RE.kind RE.number RE.voice)) (wr := []) (w1 := (wDe K jE aE o_4.1 o_4.2 RE.partedByZero RE.kind RE.number RE.voice)) (w2 := (wDe K jE aE o_4.1 o_4.2 RE.partedByZero RE.kind RE.number RE.voice)) hF (ctX1_begin l D K jE aE (vE_bodies, vE_begun, RE.partedByZero, RE.kind, RE.number, RE.voice) (11 : Int32) o_4 ho_4 H.size) (cwV 1 hts gX1_says_X1_begin rfl rfl rfl hdX1_begin ⟨Nat.le_of_ble_eq_true rfl, Nat.le_of_ble_eq_true rfl⟩) hK hP hD hS hA [0, 1] [] rfl rfl (by decide) (by decide) (by decide) [0, 1] rfl (by decide) (va_recv hK hP (ci := 1) (q0 := 0) rfl rfl) rfl hl.1 rfl (Nat.le_of_ble_eq_true rfl) dX1_says_30 ⟨Nat.zero_le _, Nat.zero_le _⟩ (fun H locs hP hD hS => ?_)
    refine lv_aload_n hx hb dX1_says_33 rfl (lv_at hl 0 rfl) ?_
    refine lv_iload_n hx hb dX1_says_34 rfl (lv_at hl 1 rfl) ?_
    obtain ⟨o_5, ho_5, hf⟩ := ht_bn_ob hf
    refine ht_callVi (r := o_5.1) (rest := []) (As := [.int x1]) (wc := (wDe K jE aE o_4.1 o_4.2 RE.partedByZero RE.kind RE.number RE.voice)) (wr := []) (w1 := (wDe K jE aE o_5.2.1 o_5.2.2 RE.partedByZero RE.kind RE.number RE.voice)) (w2 := (wDe K jE aE o_5.2.1 o_5.2.2 RE.partedByZero RE.kind RE.number RE.voice)) hF (ctX1_mutters l D K jE aE (o_4.1, o_4.2, RE.partedByZero, RE.kind, RE.number, RE.voice) x1 o_5 ho_5 H.size) (cwV 1 hts gX1_says_X1_mutters rfl rfl rfl hdX1_mutters ⟨Nat.le_of_ble_eq_true rfl, Nat.le_of_ble_eq_true rfl⟩) hK hP hD hS hA [0, 1] [] rfl rfl (by decide) (by decide) (by decide) [0, 1] rfl (by decide) (va_recv hK hP (ci := 1) (q0 := 0) rfl rfl) rfl hl.1 rfl (Nat.le_of_ble_eq_true rfl) dX1_says_35 ⟨Nat.zero_le _, Nat.zero_le _⟩ (fun H locs hP hD hS => ?_)
    refine lv_iconst (v := 2) hx hb dX1_says_38 (by decide) ?_
    refine lv_imul hx hb dX1_says_39 ?_
    refine lv_aload_n hx hb dX1_says_40 rfl (lv_at hl 0 rfl) ?_
    refine va_get (D := D) (ci := 1) (v := .int RE.voice) (C := RX1) (T := TX1) (N := 6) hx hb hts iw1 hown hK hP 0 rfl rfl 5 (by decide) kw2 (fun _ h9 => h9) rfl dX1_says_41 ?_
    refine lv_iadd hx hb dX1_says_44 ?_
    obtain ⟨x2_6, ex2_6, hf⟩ := ht_nm_ob hf
    rw [← ex2_6]
    refine lv_istore_n (lv' := [(2, .int x2_6), (0, .ref jE), (1, .int x1)]) hx hb dX1_says_45 rfl hl (by decide) rfl (fun ls hl => ?_)
    refine lv_aload_n hx hb dX1_says_46 rfl (lv_at hl 1 rfl) ?_
    obtain ⟨o_7, ho_7, hf⟩ := ht_bn_ob hf
    refine ht_callVi (r := o_7) (rest := []) (As := []) (wc := (wDe K jE aE o_5.2.1 o_5.2.2 RE.partedByZero RE.kind RE.number RE.voice)) (wr := []) (w1 := (wDe K jE aE o_5.2.1 o_5.2.2 RE.partedByZero RE.kind RE.number RE.voice)) (w2 := (wDe K jE aE o_5.2.1 o_5.2.2 RE.partedByZero RE.kind RE.number RE.voice)) hF (ctX1_isWifely l D K jE aE (o_5.2.1, o_5.2.2, RE.partedByZero, RE.kind, RE.number, RE.voice) o_7 ho_7 H.size) (cwV 0 hts gX1_says_X1_isWifely rfl rfl rfl hdX1_isWifely ⟨Nat.le_of_ble_eq_true rfl, Nat.le_of_ble_eq_true rfl⟩) hK hP hD hS hA [0, 1] [] rfl rfl (by decide) (by decide) (by decide) [0, 1] rfl (by decide) (va_recv hK hP (ci := 1) (q0 := 0) rfl rfl) rfl hl.1 rfl (Nat.le_of_ble_eq_true rfl) dX1_says_47 ⟨Nat.zero_le _, Nat.zero_le _⟩ (fun H locs hP hD hS => ?_)
    refine lv_if_eq (tgt := 57) hx hb dX1_says_50 (by decide) (fun c_8 => ?_) (fun c_8 => ?_)
    · replace hf := ht_t c_8 hf
      exact b57  x2_6 o_5.2.1 o_5.2.2 _ _ _ hf hP hD hS (lv_sub hl [1, 0] rfl)
    · replace hf := ht_f c_8 hf
      refine lv_iload_n hx hb dX1_says_53 rfl (lv_at hl 0 rfl) ?_
      refine lv_iconst (v := 3) hx hb dX1_says_54 (by decide) ?_
      refine lv_imul hx hb dX1_says_55 ?_
      obtain ⟨x2_9, ex2_9, hf⟩ := ht_nm_ob hf
      rw [← ex2_9]
      refine lv_istore_n (lv' := [(2, .int x2_9), (0, .ref jE), (1, .int x1)]) hx hb dX1_says_56 rfl hl (by decide) rfl (fun ls hl => ?_)
      exact b57  x2_9 o_5.2.1 o_5.2.2 _ _ _ hf hP hD hS (lv_sub hl [1, 0] rfl)
  have b14 : ∀ (x1 : Int32) (vE_bodies : AI) (vE_begun : Int32) (H : Heap) (locs : List Loc) (ls : Array Slot), fX1_says_b14 RE x1 vE_bodies vE_begun = some o → va_P D vwCl (wDe K jE aE vE_bodies vE_begun RE.partedByZero RE.kind RE.number RE.voice) H → va_D A (wDe K jE aE vE_bodies vE_begun RE.partedByZero RE.kind RE.number RE.voice) → va_S A s.heap H locs → lv_has ls 3 [(0, .ref jE), (1, .int x1)] → W p l e (headSpec wsX1_says rmX1_says).room s m ([.ref jE, .int p0] : List Value).toArray below meth c H locs 0 0 Q (F0 m 14 ls []) := by
    intro x1 vE_bodies vE_begun H locs ls hf hP hD hS hl
    delta fX1_says_b14 at hf
    refine lv_aload_n hx hb dX1_says_14 rfl (lv_at hl 0 rfl) ?_
    obtain ⟨o_10, ho_10, hf⟩ := ht_bn_ob hf
    refine ht_callVi (r := o_10) (rest := []) (As := []) (wc := (wDe K jE aE vE_bodies vE_begun RE.partedByZero RE.kind RE.number RE.voice)) (wr := []) (w1 := (wDe K jE aE vE_bodies vE_begun RE.partedByZero RE.kind RE.number RE.voice)) (w2 := (wDe K jE aE vE_bodies vE_begun RE.partedByZero RE.kind RE.number RE.voice)) hF (ctX1_isWifely l D K jE aE (vE_bodies, vE_begun, RE.partedByZero, RE.kind, RE.number, RE.voice) o_10 ho_10 H.size) (cwV 0 hts gX1_says_X1_isWifely rfl rfl rfl hdX1_isWifely ⟨Nat.le_of_ble_eq_true rfl, Nat.le_of_ble_eq_true rfl⟩) hK hP hD hS hA [0, 1] [] rfl rfl (by decide) (by decide) (by decide) [0, 1] rfl (by decide) (va_recv hK hP (ci := 1) (q0 := 0) rfl rfl) rfl hl.1 rfl (Nat.le_of_ble_eq_true rfl) dX1_says_15 ⟨Nat.zero_le _, Nat.zero_le _⟩ (fun H locs hP hD hS => ?_)
    refine lv_if_eq (tgt := 27) hx hb dX1_says_18 (by decide) (fun c_11 => ?_) (fun c_11 => ?_)
    · replace hf := ht_t c_11 hf
      exact b27  x1 vE_bodies vE_begun _ _ _ hf hP hD hS hl
    · replace hf := ht_f c_11 hf
      refine lv_aload_n hx hb dX1_says_21 rfl (lv_at hl 0 rfl) ?_
      refine lv_bipush (v := 20) hx hb dX1_says_22 (by decide) ?_
      obtain ⟨o_12, ho_12, hf⟩ := ht_bn_ob hf
      refine ht_callVv (rest := []) (As := [.int (20 : Int32)]) (wc := (wDe K jE aE vE_bodies vE_begun RE.partedByZero RE.kind RE.number RE.voice)) (wr := []) (w1 := (wDe K jE aE o_12.1 o_12.2 RE.partedByZero RE.kind RE.number RE.voice)) (w2 := (wDe K jE aE o_12.1 o_12.2 RE.partedByZero RE.kind RE.number RE.voice)) hF (ctX1_begin l D K jE aE (vE_bodies, vE_begun, RE.partedByZero, RE.kind, RE.number, RE.voice) (20 : Int32) o_12 ho_12 H.size) (cwV 1 hts gX1_says_X1_begin rfl rfl rfl hdX1_begin ⟨Nat.le_of_ble_eq_true rfl, Nat.le_of_ble_eq_true rfl⟩) hK hP hD hS hA [0, 1] [] rfl rfl (by decide) (by decide) (by decide) [0, 1] rfl (by decide) (va_recv hK hP (ci := 1) (q0 := 0) rfl rfl) rfl hl.1 rfl (Nat.le_of_ble_eq_true rfl) dX1_says_24 ⟨Nat.zero_le _, Nat.zero_le _⟩ (fun H locs hP hD hS => ?_)
      exact b27  x1 o_12.1 o_12.2 _ _ _ hf hP hD hS hl
  delta fX1_says at hf
  refine lv_aload_n hx hb dX1_says_0 rfl (lv_at hl 0 rfl) ?_
  refine va_get (D := D) (ci := 1) (v := .int RE.kind) (C := RX1) (T := TX1) (N := 6) hx hb hts iw1 hown hK hP 0 rfl rfl 3 (by decide) kw1 (fun _ h9 => h9) rfl dX1_says_1 ?_
  refine lv_iconst (v := 4) hx hb dX1_says_4 (by decide) ?_
  refine lv_icmp_ne (tgt := 14) hx hb dX1_says_5 (by decide) (fun c_13 => ?_) (fun c_13 => ?_)
  · replace hf := ht_f c_13 hf
    exact b14  p0 RE.bodies RE.begun _ _ _ hf hP hD hS hl
  · replace hf := ht_t c_13 hf
    refine lv_aload_n hx hb dX1_says_8 rfl (lv_at hl 0 rfl) ?_
    refine lv_bipush (v := 41) hx hb dX1_says_9 (by decide) ?_
    obtain ⟨o_14, ho_14, hf⟩ := ht_bn_ob hf
    refine ht_callVv (rest := []) (As := [.int (41 : Int32)]) (wc := (wDe K jE aE RE.bodies RE.begun RE.partedByZero RE.kind RE.number RE.voice)) (wr := []) (w1 := (wDe K jE aE o_14.1 o_14.2 RE.partedByZero RE.kind RE.number RE.voice)) (w2 := (wDe K jE aE o_14.1 o_14.2 RE.partedByZero RE.kind RE.number RE.voice)) hF (ctX1_begin l D K jE aE RE (41 : Int32) o_14 ho_14 H.size) (cwV 1 hts gX1_says_X1_begin rfl rfl rfl hdX1_begin ⟨Nat.le_of_ble_eq_true rfl, Nat.le_of_ble_eq_true rfl⟩) hK hP hD hS hA [0, 1] [] rfl rfl (by decide) (by decide) (by decide) [0, 1] rfl (by decide) (va_recv hK hP (ci := 1) (q0 := 0) rfl rfl) rfl hl.1 rfl (Nat.le_of_ble_eq_true rfl) dX1_says_11 ⟨Nat.zero_le _, Nat.zero_le _⟩ (fun H locs hP hD hS => ?_)
    exact b14  p0 o_14.1 o_14.2 _ _ _ hf hP hD hS hl
abbrev rmX1_parts : Room := { frames := 2, cells := 0, slots := 0, locals := 43 }
theorem hdX1_parts : yX1_parts.cls = RX1 ∧ yX1_parts.cls ≠ "java/lang/invoke/MethodHandle" ∧ yX1_parts.cls ≠ "java/lang/invoke/VarHandle" ∧ (parseMethodDescriptor yX1_parts.desc).map (fun d => d.parameters.length) = some 1 := by decide +kernel
def fX1_parts_b28 (RE : DeedV) (x1 : Int32) (vE_bodies : AI) (vE_begun : Int32) (vE_partedByZero : Int32) : Option (Int32 × AI × Int32 × Int32) := ht_bn (fX1_begin (vE_bodies, vE_begun, vE_partedByZero, RE.kind, RE.number, RE.voice) (12 : Int32)) (fun o_1 => ht_nm (RE.voice - RE.number) (fun x2_2 => if x2_2 = 0 then (some ((0 : Int32), o_1.1, o_1.2, (1 : Int32))) else (if RE.kind = (3 : Int32) then (ht_gd (ht_nz x2_2) (some ((((x1 * (2 : Int32)) / x2_2) + RE.number), o_1.1, o_1.2, vE_partedByZero))) else (if RE.kind = (5 : Int32) then (ht_gd (ht_nz x2_2) (ht_bn (fX1_mutters (o_1.1, o_1.2, vE_partedByZero, RE.kind, RE.number, RE.voice) RE.number) (fun o_8 => some (((x1 / x2_2) + o_8.1), o_8.2.1, o_8.2.2, vE_partedByZero)))) else (ht_gd (ht_nz x2_2) (some ((x1 / x2_2), o_1.1, o_1.2, vE_partedByZero)))))))
def fX1_parts_b14 (RE : DeedV) (x1 : Int32) (vE_bodies : AI) (vE_begun : Int32) (vE_partedByZero : Int32) : Option (Int32 × AI × Int32 × Int32) := if RE.kind = (5 : Int32) then (ht_bn (fX1_begin (vE_bodies, vE_begun, vE_partedByZero, RE.kind, RE.number, RE.voice) (61 : Int32)) (fun o_11 => fX1_parts_b28 RE x1 o_11.1 o_11.2 vE_partedByZero)) else (fX1_parts_b28 RE x1 vE_bodies vE_begun vE_partedByZero)
def fX1_parts (RE : DeedV) (p0 : Int32) : Option (Int32 × AI × Int32 × Int32) := if RE.kind = (3 : Int32) then (ht_bn (fX1_begin RE (50 : Int32)) (fun o_13 => fX1_parts_b14 RE p0 o_13.1 o_13.2 RE.partedByZero)) else (fX1_parts_b14 RE p0 RE.bodies RE.begun RE.partedByZero)
set_option maxHeartbeats 1000000 in
set_option maxRecDepth 100000 in
theorem ctX1_parts (l : Launch) (D : va_G) (K : Nat → ClassId) (jE : Nat) (aE : Nat → Nat) (RE : DeedV) (p0 : Int32) (o : (Int32 × AI × Int32 × Int32)) (hf : fX1_parts RE p0 = some o) (sz : Nat) : Met l yX1_parts wsX1_parts rmX1_parts (ht_Pre D K [.ref jE, .int p0] (wDe K jE aE RE.bodies RE.begun RE.partedByZero RE.kind RE.number RE.voice) sz) (ht_Qi D K (wDe K jE aE o.2.1 o.2.2.1 o.2.2.2 RE.kind RE.number RE.voice) o.1 (va_A (wDe K jE aE RE.bodies RE.begun RE.partedByZero RE.kind RE.number RE.voice) sz)) 0 0 (va_A (wDe K jE aE RE.bodies RE.begun RE.partedByZero RE.kind RE.number RE.voice) sz) := by
  refine ht_enter (Qf := ht_Qi D K (wDe K jE aE o.2.1 o.2.2.1 o.2.2.2 RE.kind RE.number RE.voice) o.1) (cc := cX1_parts) (maxL := 3) (rt := (some .int)) (by decide) rfl (Nat.le_of_ble_eq_true rfl) ?_ sz
  intro p e s m below meth c A Q H locs ls hQ hx hb hr hlk hmn hml hown hts hA hK hP hD hS hl
  have hown : s.vm.findClass RX1 = some m.cls := hown
  have hF : CallFix p m c cX1_parts 3 s ([.ref jE, .int p0] : List Value).toArray wsX1_parts RX1 := ⟨hx, hb, hml, hown, hts⟩
  have hl : lv_has ls 3 [(0, .ref jE), (1, .int p0)] := hl
  have iw1 : ∀ w ∈ u_ws RX1 TX1 6, w ∈ wsX1_parts := by decide +kernel
  have kw1 := hts (.fieldLink RX1 36 "HeldTongues$Deed" "voice" "I") (by decide +kernel)
  have kw2 := hts (.fieldLink RX1 30 "HeldTongues$Deed" "number" "I") (by decide +kernel)
  have kw3 := hts (.fieldLink RX1 28 "HeldTongues$Deed" "kind" "I") (by decide +kernel)
  have kw4 := hts (.fieldLink RX1 19 "HeldTongues$Deed" "partedByZero" "Z") (by decide +kernel)
  have b28 : ∀ (x1 : Int32) (vE_bodies : AI) (vE_begun : Int32) (vE_partedByZero : Int32) (H : Heap) (locs : List Loc) (ls : Array Slot), fX1_parts_b28 RE x1 vE_bodies vE_begun vE_partedByZero = some o → va_P D vwCl (wDe K jE aE vE_bodies vE_begun vE_partedByZero RE.kind RE.number RE.voice) H → va_D A (wDe K jE aE vE_bodies vE_begun vE_partedByZero RE.kind RE.number RE.voice) → va_S A s.heap H locs → lv_has ls 3 [(0, .ref jE), (1, .int x1)] → W p l e (headSpec wsX1_parts rmX1_parts).room s m ([.ref jE, .int p0] : List Value).toArray below meth c H locs 0 0 Q (F0 m 28 ls []) := by
    intro x1 vE_bodies vE_begun vE_partedByZero H locs ls hf hP hD hS hl
    delta fX1_parts_b28 at hf
    refine lv_aload_n hx hb dX1_parts_28 rfl (lv_at hl 0 rfl) ?_
    refine lv_bipush (v := 12) hx hb dX1_parts_29 (by decide) ?_
    obtain ⟨o_1, ho_1, hf⟩ := ht_bn_ob hf
    refine ht_callVv (rest := []) (As := [.int (12 : Int32)]) (wc := (wDe K jE aE vE_bodies vE_begun vE_partedByZero RE.kind RE.number RE.voice)) (wr := []) (w1 := (wDe K jE aE o_1.1 o_1.2 vE_partedByZero RE.kind RE.number RE.voice)) (w2 := (wDe K jE aE o_1.1 o_1.2 vE_partedByZero RE.kind RE.number RE.voice)) hF (ctX1_begin l D K jE aE (vE_bodies, vE_begun, vE_partedByZero, RE.kind, RE.number, RE.voice) (12 : Int32) o_1 ho_1 H.size) (cwV 1 hts gX1_parts_X1_begin rfl rfl rfl hdX1_begin ⟨Nat.le_of_ble_eq_true rfl, Nat.le_of_ble_eq_true rfl⟩) hK hP hD hS hA [0, 1] [] rfl rfl (by decide) (by decide) (by decide) [0, 1] rfl (by decide) (va_recv hK hP (ci := 1) (q0 := 0) rfl rfl) rfl hl.1 rfl (Nat.le_of_ble_eq_true rfl) dX1_parts_31 ⟨Nat.zero_le _, Nat.zero_le _⟩ (fun H locs hP hD hS => ?_)
    refine lv_aload_n hx hb dX1_parts_34 rfl (lv_at hl 0 rfl) ?_
    refine va_get (D := D) (ci := 1) (v := .int RE.voice) (C := RX1) (T := TX1) (N := 6) hx hb hts iw1 hown hK hP 0 rfl rfl 5 (by decide) kw1 (fun _ h9 => h9) rfl dX1_parts_35 ?_
    refine lv_aload_n hx hb dX1_parts_38 rfl (lv_at hl 0 rfl) ?_
    refine va_get (D := D) (ci := 1) (v := .int RE.number) (C := RX1) (T := TX1) (N := 6) hx hb hts iw1 hown hK hP 0 rfl rfl 4 (by decide) kw2 (fun _ h9 => h9) rfl dX1_parts_39 ?_
    refine lv_isub hx hb dX1_parts_42 ?_
    obtain ⟨x2_2, ex2_2, hf⟩ := ht_nm_ob hf
    rw [← ex2_2]
    refine lv_istore_n (lv' := [(2, .int x2_2), (0, .ref jE), (1, .int x1)]) hx hb dX1_parts_43 rfl hl (by decide) rfl (fun ls hl => ?_)
    refine lv_iload_n hx hb dX1_parts_44 rfl (lv_at hl 0 rfl) ?_
    refine lv_if_ne (tgt := 55) hx hb dX1_parts_45 (by decide) (fun c_3 => ?_) (fun c_3 => ?_)
    · replace hf := ht_f c_3 hf
      refine lv_aload_n hx hb dX1_parts_55 rfl (lv_at hl 1 rfl) ?_
      refine va_get (D := D) (ci := 1) (v := .int RE.kind) (C := RX1) (T := TX1) (N := 6) hx hb hts iw1 hown hK hP 0 rfl rfl 3 (by decide) kw3 (fun _ h9 => h9) rfl dX1_parts_56 ?_
      refine lv_iconst (v := 3) hx hb dX1_parts_59 (by decide) ?_
      refine lv_icmp_ne (tgt := 74) hx hb dX1_parts_60 (by decide) (fun c_4 => ?_) (fun c_4 => ?_)
      · replace hf := ht_f c_4 hf
        refine lv_aload_n hx hb dX1_parts_74 rfl (lv_at hl 1 rfl) ?_
        refine va_get (D := D) (ci := 1) (v := .int RE.kind) (C := RX1) (T := TX1) (N := 6) hx hb hts iw1 hown hK hP 0 rfl rfl 3 (by decide) kw3 (fun _ h9 => h9) rfl dX1_parts_75 ?_
        refine lv_iconst (v := 5) hx hb dX1_parts_78 (by decide) ?_
        refine lv_icmp_ne (tgt := 95) hx hb dX1_parts_79 (by decide) (fun c_5 => ?_) (fun c_5 => ?_)
        · replace hf := ht_f c_5 hf
          refine lv_iload_n hx hb dX1_parts_95 rfl (lv_at hl 2 rfl) ?_
          refine lv_iload_n hx hb dX1_parts_96 rfl (lv_at hl 0 rfl) ?_
          obtain ⟨g_6, hf⟩ := ht_gd_ob hf
          refine lv_idiv hx hb dX1_parts_97 (ht_nz_ne g_6) ?_
          have ho := Option.some.inj hf
          subst ho; subst hQ
          exact ht_iret hx hb hr hlk rfl hK hP hD hS dX1_parts_98
        · replace hf := ht_t c_5 hf
          refine lv_iload_n hx hb dX1_parts_82 rfl (lv_at hl 2 rfl) ?_
          refine lv_iload_n hx hb dX1_parts_83 rfl (lv_at hl 0 rfl) ?_
          obtain ⟨g_7, hf⟩ := ht_gd_ob hf
          refine lv_idiv hx hb dX1_parts_84 (ht_nz_ne g_7) ?_
          refine lv_aload_n hx hb dX1_parts_85 rfl (lv_at hl 1 rfl) ?_
          refine lv_aload_n hx hb dX1_parts_86 rfl (lv_at hl 1 rfl) ?_
          refine va_get (D := D) (ci := 1) (v := .int RE.number) (C := RX1) (T := TX1) (N := 6) hx hb hts iw1 hown hK hP 0 rfl rfl 4 (by decide) kw2 (fun _ h9 => h9) rfl dX1_parts_87 ?_
          obtain ⟨o_8, ho_8, hf⟩ := ht_bn_ob hf
          refine ht_callVi (r := o_8.1) (rest := [.int (x1 / x2_2)]) (As := [.int RE.number]) (wc := (wDe K jE aE o_1.1 o_1.2 vE_partedByZero RE.kind RE.number RE.voice)) (wr := []) (w1 := (wDe K jE aE o_8.2.1 o_8.2.2 vE_partedByZero RE.kind RE.number RE.voice)) (w2 := (wDe K jE aE o_8.2.1 o_8.2.2 vE_partedByZero RE.kind RE.number RE.voice)) hF (ctX1_mutters l D K jE aE (o_1.1, o_1.2, vE_partedByZero, RE.kind, RE.number, RE.voice) RE.number o_8 ho_8 H.size) (cwV 1 hts gX1_parts_X1_mutters rfl rfl rfl hdX1_mutters ⟨Nat.le_of_ble_eq_true rfl, Nat.le_of_ble_eq_true rfl⟩) hK hP hD hS hA [0, 1] [] rfl rfl (by decide) (by decide) (by decide) [0, 1] rfl (by decide) (va_recv hK hP (ci := 1) (q0 := 0) rfl rfl) rfl hl.1 rfl (Nat.le_of_ble_eq_true rfl) dX1_parts_90 ⟨Nat.zero_le _, Nat.zero_le _⟩ (fun H locs hP hD hS => ?_)
          refine lv_iadd hx hb dX1_parts_93 ?_
          have ho := Option.some.inj hf
          subst ho; subst hQ
          exact ht_iret hx hb hr hlk rfl hK hP hD hS dX1_parts_94
      · replace hf := ht_t c_4 hf
        refine lv_iload_n hx hb dX1_parts_63 rfl (lv_at hl 2 rfl) ?_
        refine lv_iconst (v := 2) hx hb dX1_parts_64 (by decide) ?_
        refine lv_imul hx hb dX1_parts_65 ?_
        refine lv_iload_n hx hb dX1_parts_66 rfl (lv_at hl 0 rfl) ?_
        obtain ⟨g_9, hf⟩ := ht_gd_ob hf
        refine lv_idiv hx hb dX1_parts_67 (ht_nz_ne g_9) ?_
        refine lv_aload_n hx hb dX1_parts_68 rfl (lv_at hl 1 rfl) ?_
        refine va_get (D := D) (ci := 1) (v := .int RE.number) (C := RX1) (T := TX1) (N := 6) hx hb hts iw1 hown hK hP 0 rfl rfl 4 (by decide) kw2 (fun _ h9 => h9) rfl dX1_parts_69 ?_
        refine lv_iadd hx hb dX1_parts_72 ?_
        have ho := Option.some.inj hf
        subst ho; subst hQ
        exact ht_iret hx hb hr hlk rfl hK hP hD hS dX1_parts_73
    · replace hf := ht_t c_3 hf
      refine lv_aload_n hx hb dX1_parts_48 rfl (lv_at hl 1 rfl) ?_
      refine lv_iconst (v := 1) hx hb dX1_parts_49 (by decide) ?_
      refine ht_put (ci := 1) (v := .int (1 : Int32)) (ty := .boolean) (C := RX1) (T := TX1) (N := 6) (w2 := (wDe K jE aE o_1.1 o_1.2 (1 : Int32) RE.kind RE.number RE.voice)) hx hb hts iw1 tyX1 tyX1_ok nmX1 hown hK hP hD hS 0 rfl rfl 2 (by decide) kw4 (fun _ h9 => h9) rfl (by decide +kernel) rfl rfl (Nat.le_of_ble_eq_true rfl) dX1_parts_50 rfl (fun H locs hP hD hS => ?_)
      refine lv_iconst (v := 0) hx hb dX1_parts_53 (by decide) ?_
      have ho := Option.some.inj hf
      subst ho; subst hQ
      exact ht_iret hx hb hr hlk rfl hK hP hD hS dX1_parts_54
  have b14 : ∀ (x1 : Int32) (vE_bodies : AI) (vE_begun : Int32) (vE_partedByZero : Int32) (H : Heap) (locs : List Loc) (ls : Array Slot), fX1_parts_b14 RE x1 vE_bodies vE_begun vE_partedByZero = some o → va_P D vwCl (wDe K jE aE vE_bodies vE_begun vE_partedByZero RE.kind RE.number RE.voice) H → va_D A (wDe K jE aE vE_bodies vE_begun vE_partedByZero RE.kind RE.number RE.voice) → va_S A s.heap H locs → lv_has ls 3 [(0, .ref jE), (1, .int x1)] → W p l e (headSpec wsX1_parts rmX1_parts).room s m ([.ref jE, .int p0] : List Value).toArray below meth c H locs 0 0 Q (F0 m 14 ls []) := by
    intro x1 vE_bodies vE_begun vE_partedByZero H locs ls hf hP hD hS hl
    delta fX1_parts_b14 at hf
    refine lv_aload_n hx hb dX1_parts_14 rfl (lv_at hl 0 rfl) ?_
    refine va_get (D := D) (ci := 1) (v := .int RE.kind) (C := RX1) (T := TX1) (N := 6) hx hb hts iw1 hown hK hP 0 rfl rfl 3 (by decide) kw3 (fun _ h9 => h9) rfl dX1_parts_15 ?_
    refine lv_iconst (v := 5) hx hb dX1_parts_18 (by decide) ?_
    refine lv_icmp_ne (tgt := 28) hx hb dX1_parts_19 (by decide) (fun c_10 => ?_) (fun c_10 => ?_)
    · replace hf := ht_f c_10 hf
      exact b28  x1 vE_bodies vE_begun vE_partedByZero _ _ _ hf hP hD hS hl
    · replace hf := ht_t c_10 hf
      refine lv_aload_n hx hb dX1_parts_22 rfl (lv_at hl 0 rfl) ?_
      refine lv_bipush (v := 61) hx hb dX1_parts_23 (by decide) ?_
      obtain ⟨o_11, ho_11, hf⟩ := ht_bn_ob hf
      refine ht_callVv (rest := []) (As := [.int (61 : Int32)]) (wc := (wDe K jE aE vE_bodies vE_begun vE_partedByZero RE.kind RE.number RE.voice)) (wr := []) (w1 := (wDe K jE aE o_11.1 o_11.2 vE_partedByZero RE.kind RE.number RE.voice)) (w2 := (wDe K jE aE o_11.1 o_11.2 vE_partedByZero RE.kind RE.number RE.voice)) hF (ctX1_begin l D K jE aE (vE_bodies, vE_begun, vE_partedByZero, RE.kind, RE.number, RE.voice) (61 : Int32) o_11 ho_11 H.size) (cwV 1 hts gX1_parts_X1_begin rfl rfl rfl hdX1_begin ⟨Nat.le_of_ble_eq_true rfl, Nat.le_of_ble_eq_true rfl⟩) hK hP hD hS hA [0, 1] [] rfl rfl (by decide) (by decide) (by decide) [0, 1] rfl (by decide) (va_recv hK hP (ci := 1) (q0 := 0) rfl rfl) rfl hl.1 rfl (Nat.le_of_ble_eq_true rfl) dX1_parts_25 ⟨Nat.zero_le _, Nat.zero_le _⟩ (fun H locs hP hD hS => ?_)
      exact b28  x1 o_11.1 o_11.2 vE_partedByZero _ _ _ hf hP hD hS hl
  delta fX1_parts at hf
  refine lv_aload_n hx hb dX1_parts_0 rfl (lv_at hl 0 rfl) ?_
  refine va_get (D := D) (ci := 1) (v := .int RE.kind) (C := RX1) (T := TX1) (N := 6) hx hb hts iw1 hown hK hP 0 rfl rfl 3 (by decide) kw3 (fun _ h9 => h9) rfl dX1_parts_1 ?_
  refine lv_iconst (v := 3) hx hb dX1_parts_4 (by decide) ?_
  refine lv_icmp_ne (tgt := 14) hx hb dX1_parts_5 (by decide) (fun c_12 => ?_) (fun c_12 => ?_)
  · replace hf := ht_f c_12 hf
    exact b14  p0 RE.bodies RE.begun RE.partedByZero _ _ _ hf hP hD hS hl
  · replace hf := ht_t c_12 hf
    refine lv_aload_n hx hb dX1_parts_8 rfl (lv_at hl 0 rfl) ?_
    refine lv_bipush (v := 50) hx hb dX1_parts_9 (by decide) ?_
    obtain ⟨o_13, ho_13, hf⟩ := ht_bn_ob hf
    refine ht_callVv (rest := []) (As := [.int (50 : Int32)]) (wc := (wDe K jE aE RE.bodies RE.begun RE.partedByZero RE.kind RE.number RE.voice)) (wr := []) (w1 := (wDe K jE aE o_13.1 o_13.2 RE.partedByZero RE.kind RE.number RE.voice)) (w2 := (wDe K jE aE o_13.1 o_13.2 RE.partedByZero RE.kind RE.number RE.voice)) hF (ctX1_begin l D K jE aE RE (50 : Int32) o_13 ho_13 H.size) (cwV 1 hts gX1_parts_X1_begin rfl rfl rfl hdX1_begin ⟨Nat.le_of_ble_eq_true rfl, Nat.le_of_ble_eq_true rfl⟩) hK hP hD hS hA [0, 1] [] rfl rfl (by decide) (by decide) (by decide) [0, 1] rfl (by decide) (va_recv hK hP (ci := 1) (q0 := 0) rfl rfl) rfl hl.1 rfl (Nat.le_of_ble_eq_true rfl) dX1_parts_11 ⟨Nat.zero_le _, Nat.zero_le _⟩ (fun H locs hP hD hS => ?_)
    exact b14  p0 o_13.1 o_13.2 RE.partedByZero _ _ _ hf hP hD hS hl
abbrev rmX1_shouts : Room := { frames := 3, cells := 0, slots := 0, locals := 65 }
theorem hdX1_shouts : yX1_shouts.cls = RX1 ∧ yX1_shouts.cls ≠ "java/lang/invoke/MethodHandle" ∧ yX1_shouts.cls ≠ "java/lang/invoke/VarHandle" ∧ (parseMethodDescriptor yX1_shouts.desc).map (fun d => d.parameters.length) = some 1 := by decide +kernel
def fX1_shouts_b60 (RE : DeedV) (x2 : Int32) (vE_bodies : AI) (vE_begun : Int32) (vE_partedByZero : Int32) : Option (Int32 × AI × Int32 × Int32) := if RE.kind = (5 : Int32) then (ht_nm ((9 : Int32) - x2) (fun x2_2 => some (x2_2, vE_bodies, vE_begun, vE_partedByZero))) else (some (x2, vE_bodies, vE_begun, vE_partedByZero))
def fX1_shouts_b27 (RE : DeedV) (x1 : Int32) (vE_bodies : AI) (vE_begun : Int32) (vE_partedByZero : Int32) : Option (Int32 × AI × Int32 × Int32) := ht_bn (fX1_begin (vE_bodies, vE_begun, vE_partedByZero, RE.kind, RE.number, RE.voice) (13 : Int32)) (fun o_3 => ht_bn (fX1_says (o_3.1, o_3.2, vE_partedByZero, RE.kind, RE.number, RE.voice) x1) (fun o_4 => ht_nm (o_4.1 ^^^ (60 : Int32)) (fun x2_5 => ht_bn (fX1_isMonkish (o_4.2.1, o_4.2.2, vE_partedByZero, RE.kind, RE.number, RE.voice)) (fun o_6 => if o_6 = 0 then (fX1_shouts_b60 RE x2_5 o_4.2.1 o_4.2.2 vE_partedByZero) else (ht_bn (fX1_parts (o_4.2.1, o_4.2.2, vE_partedByZero, RE.kind, RE.number, RE.voice) RE.number) (fun o_8 => ht_nm (x2_5 + o_8.1) (fun x2_9 => fX1_shouts_b60 RE x2_9 o_8.2.1 o_8.2.2.1 o_8.2.2.2)))))))
def fX1_shouts_b13 (RE : DeedV) (x1 : Int32) (vE_bodies : AI) (vE_begun : Int32) (vE_partedByZero : Int32) : Option (Int32 × AI × Int32 × Int32) := if RE.kind = (5 : Int32) then (ht_bn (fX1_begin (vE_bodies, vE_begun, vE_partedByZero, RE.kind, RE.number, RE.voice) (60 : Int32)) (fun o_11 => fX1_shouts_b27 RE x1 o_11.1 o_11.2 vE_partedByZero)) else (fX1_shouts_b27 RE x1 vE_bodies vE_begun vE_partedByZero)
def fX1_shouts (RE : DeedV) (p0 : Int32) : Option (Int32 × AI × Int32 × Int32) := ht_bn (fX1_isMonkish RE) (fun o_12 => if o_12 = 0 then (fX1_shouts_b13 RE p0 RE.bodies RE.begun RE.partedByZero) else (ht_bn (fX1_begin RE (31 : Int32)) (fun o_14 => fX1_shouts_b13 RE p0 o_14.1 o_14.2 RE.partedByZero)))
set_option maxHeartbeats 1000000 in
set_option maxRecDepth 100000 in
theorem ctX1_shouts (l : Launch) (D : va_G) (K : Nat → ClassId) (jE : Nat) (aE : Nat → Nat) (RE : DeedV) (p0 : Int32) (o : (Int32 × AI × Int32 × Int32)) (hf : fX1_shouts RE p0 = some o) (sz : Nat) : Met l yX1_shouts wsX1_shouts rmX1_shouts (ht_Pre D K [.ref jE, .int p0] (wDe K jE aE RE.bodies RE.begun RE.partedByZero RE.kind RE.number RE.voice) sz) (ht_Qi D K (wDe K jE aE o.2.1 o.2.2.1 o.2.2.2 RE.kind RE.number RE.voice) o.1 (va_A (wDe K jE aE RE.bodies RE.begun RE.partedByZero RE.kind RE.number RE.voice) sz)) 0 0 (va_A (wDe K jE aE RE.bodies RE.begun RE.partedByZero RE.kind RE.number RE.voice) sz) := by
  refine ht_enter (Qf := ht_Qi D K (wDe K jE aE o.2.1 o.2.2.1 o.2.2.2 RE.kind RE.number RE.voice) o.1) (cc := cX1_shouts) (maxL := 3) (rt := (some .int)) (by decide) rfl (Nat.le_of_ble_eq_true rfl) ?_ sz
  intro p e s m below meth c A Q H locs ls hQ hx hb hr hlk hmn hml hown hts hA hK hP hD hS hl
  have hown : s.vm.findClass RX1 = some m.cls := hown
  have hF : CallFix p m c cX1_shouts 3 s ([.ref jE, .int p0] : List Value).toArray wsX1_shouts RX1 := ⟨hx, hb, hml, hown, hts⟩
  have hl : lv_has ls 3 [(0, .ref jE), (1, .int p0)] := hl
  have iw1 : ∀ w ∈ u_ws RX1 TX1 6, w ∈ wsX1_shouts := by decide +kernel
  have kw1 := hts (.fieldLink RX1 28 "HeldTongues$Deed" "kind" "I") (by decide +kernel)
  have kw2 := hts (.fieldLink RX1 30 "HeldTongues$Deed" "number" "I") (by decide +kernel)
  have b60 : ∀ (x2 : Int32) (vE_bodies : AI) (vE_begun : Int32) (vE_partedByZero : Int32) (H : Heap) (locs : List Loc) (ls : Array Slot), fX1_shouts_b60 RE x2 vE_bodies vE_begun vE_partedByZero = some o → va_P D vwCl (wDe K jE aE vE_bodies vE_begun vE_partedByZero RE.kind RE.number RE.voice) H → va_D A (wDe K jE aE vE_bodies vE_begun vE_partedByZero RE.kind RE.number RE.voice) → va_S A s.heap H locs → lv_has ls 3 [(0, .ref jE), (2, .int x2)] → W p l e (headSpec wsX1_shouts rmX1_shouts).room s m ([.ref jE, .int p0] : List Value).toArray below meth c H locs 0 0 Q (F0 m 60 ls []) := by
    intro x2 vE_bodies vE_begun vE_partedByZero H locs ls hf hP hD hS hl
    delta fX1_shouts_b60 at hf
    refine lv_aload_n hx hb dX1_shouts_60 rfl (lv_at hl 0 rfl) ?_
    refine va_get (D := D) (ci := 1) (v := .int RE.kind) (C := RX1) (T := TX1) (N := 6) hx hb hts iw1 hown hK hP 0 rfl rfl 3 (by decide) kw1 (fun _ h9 => h9) rfl dX1_shouts_61 ?_
    refine lv_iconst (v := 5) hx hb dX1_shouts_64 (by decide) ?_
    refine lv_icmp_ne (tgt := 73) hx hb dX1_shouts_65 (by decide) (fun c_1 => ?_) (fun c_1 => ?_)
    · replace hf := ht_f c_1 hf
      refine lv_iload_n hx hb dX1_shouts_73 rfl (lv_at hl 1 rfl) ?_
      have ho := Option.some.inj hf
      subst ho; subst hQ
      exact ht_iret hx hb hr hlk rfl hK hP hD hS dX1_shouts_74
    · replace hf := ht_t c_1 hf
      refine lv_bipush (v := 9) hx hb dX1_shouts_68 (by decide) ?_
      refine lv_iload_n hx hb dX1_shouts_70 rfl (lv_at hl 1 rfl) ?_
      refine lv_isub hx hb dX1_shouts_71 ?_
      obtain ⟨x2_2, ex2_2, hf⟩ := ht_nm_ob hf
      rw [← ex2_2]
      refine lv_istore_n (lv' := [(2, .int x2_2), (0, .ref jE)]) hx hb dX1_shouts_72 rfl hl (by decide) rfl (fun ls hl => ?_)
      refine lv_iload_n hx hb dX1_shouts_73 rfl (lv_at hl 0 rfl) ?_
      have ho := Option.some.inj hf
      subst ho; subst hQ
      exact ht_iret hx hb hr hlk rfl hK hP hD hS dX1_shouts_74
  have b27 : ∀ (x1 : Int32) (vE_bodies : AI) (vE_begun : Int32) (vE_partedByZero : Int32) (H : Heap) (locs : List Loc) (ls : Array Slot), fX1_shouts_b27 RE x1 vE_bodies vE_begun vE_partedByZero = some o → va_P D vwCl (wDe K jE aE vE_bodies vE_begun vE_partedByZero RE.kind RE.number RE.voice) H → va_D A (wDe K jE aE vE_bodies vE_begun vE_partedByZero RE.kind RE.number RE.voice) → va_S A s.heap H locs → lv_has ls 3 [(0, .ref jE), (1, .int x1)] → W p l e (headSpec wsX1_shouts rmX1_shouts).room s m ([.ref jE, .int p0] : List Value).toArray below meth c H locs 0 0 Q (F0 m 27 ls []) := by
    intro x1 vE_bodies vE_begun vE_partedByZero H locs ls hf hP hD hS hl
    delta fX1_shouts_b27 at hf
    refine lv_aload_n hx hb dX1_shouts_27 rfl (lv_at hl 0 rfl) ?_
    refine lv_bipush (v := 13) hx hb dX1_shouts_28 (by decide) ?_
    obtain ⟨o_3, ho_3, hf⟩ := ht_bn_ob hf
    refine ht_callVv (rest := []) (As := [.int (13 : Int32)]) (wc := (wDe K jE aE vE_bodies vE_begun vE_partedByZero RE.kind RE.number RE.voice)) (wr := []) (w1 := (wDe K jE aE o_3.1 o_3.2 vE_partedByZero RE.kind RE.number RE.voice)) (w2 := (wDe K jE aE o_3.1 o_3.2 vE_partedByZero RE.kind RE.number RE.voice)) hF (ctX1_begin l D K jE aE (vE_bodies, vE_begun, vE_partedByZero, RE.kind, RE.number, RE.voice) (13 : Int32) o_3 ho_3 H.size) (cwV 1 hts gX1_shouts_X1_begin rfl rfl rfl hdX1_begin ⟨Nat.le_of_ble_eq_true rfl, Nat.le_of_ble_eq_true rfl⟩) hK hP hD hS hA [0, 1] [] rfl rfl (by decide) (by decide) (by decide) [0, 1] rfl (by decide) (va_recv hK hP (ci := 1) (q0 := 0) rfl rfl) rfl hl.1 rfl (Nat.le_of_ble_eq_true rfl) dX1_shouts_30 ⟨Nat.zero_le _, Nat.zero_le _⟩ (fun H locs hP hD hS => ?_)
    refine lv_aload_n hx hb dX1_shouts_33 rfl (lv_at hl 0 rfl) ?_
    refine lv_iload_n hx hb dX1_shouts_34 rfl (lv_at hl 1 rfl) ?_
    obtain ⟨o_4, ho_4, hf⟩ := ht_bn_ob hf
    refine ht_callVi (r := o_4.1) (rest := []) (As := [.int x1]) (wc := (wDe K jE aE o_3.1 o_3.2 vE_partedByZero RE.kind RE.number RE.voice)) (wr := []) (w1 := (wDe K jE aE o_4.2.1 o_4.2.2 vE_partedByZero RE.kind RE.number RE.voice)) (w2 := (wDe K jE aE o_4.2.1 o_4.2.2 vE_partedByZero RE.kind RE.number RE.voice)) hF (ctX1_says l D K jE aE (o_3.1, o_3.2, vE_partedByZero, RE.kind, RE.number, RE.voice) x1 o_4 ho_4 H.size) (cwV 1 hts gX1_shouts_X1_says rfl rfl rfl hdX1_says ⟨Nat.le_of_ble_eq_true rfl, Nat.le_of_ble_eq_true rfl⟩) hK hP hD hS hA [0, 1] [] rfl rfl (by decide) (by decide) (by decide) [0, 1] rfl (by decide) (va_recv hK hP (ci := 1) (q0 := 0) rfl rfl) rfl hl.1 rfl (Nat.le_of_ble_eq_true rfl) dX1_shouts_35 ⟨Nat.zero_le _, Nat.zero_le _⟩ (fun H locs hP hD hS => ?_)
    refine lv_bipush (v := 60) hx hb dX1_shouts_38 (by decide) ?_
    refine lv_ixor hx hb dX1_shouts_40 ?_
    obtain ⟨x2_5, ex2_5, hf⟩ := ht_nm_ob hf
    rw [← ex2_5]
    refine lv_istore_n (lv' := [(2, .int x2_5), (0, .ref jE), (1, .int x1)]) hx hb dX1_shouts_41 rfl hl (by decide) rfl (fun ls hl => ?_)
    refine lv_aload_n hx hb dX1_shouts_42 rfl (lv_at hl 1 rfl) ?_
    obtain ⟨o_6, ho_6, hf⟩ := ht_bn_ob hf
    refine ht_callVi (r := o_6) (rest := []) (As := []) (wc := (wDe K jE aE o_4.2.1 o_4.2.2 vE_partedByZero RE.kind RE.number RE.voice)) (wr := []) (w1 := (wDe K jE aE o_4.2.1 o_4.2.2 vE_partedByZero RE.kind RE.number RE.voice)) (w2 := (wDe K jE aE o_4.2.1 o_4.2.2 vE_partedByZero RE.kind RE.number RE.voice)) hF (ctX1_isMonkish l D K jE aE (o_4.2.1, o_4.2.2, vE_partedByZero, RE.kind, RE.number, RE.voice) o_6 ho_6 H.size) (cwV 0 hts gX1_shouts_X1_isMonkish rfl rfl rfl hdX1_isMonkish ⟨Nat.le_of_ble_eq_true rfl, Nat.le_of_ble_eq_true rfl⟩) hK hP hD hS hA [0, 1] [] rfl rfl (by decide) (by decide) (by decide) [0, 1] rfl (by decide) (va_recv hK hP (ci := 1) (q0 := 0) rfl rfl) rfl hl.1 rfl (Nat.le_of_ble_eq_true rfl) dX1_shouts_43 ⟨Nat.zero_le _, Nat.zero_le _⟩ (fun H locs hP hD hS => ?_)
    refine lv_if_eq (tgt := 60) hx hb dX1_shouts_46 (by decide) (fun c_7 => ?_) (fun c_7 => ?_)
    · replace hf := ht_t c_7 hf
      exact b60  x2_5 o_4.2.1 o_4.2.2 vE_partedByZero _ _ _ hf hP hD hS (lv_sub hl [1, 0] rfl)
    · replace hf := ht_f c_7 hf
      refine lv_iload_n hx hb dX1_shouts_49 rfl (lv_at hl 0 rfl) ?_
      refine lv_aload_n hx hb dX1_shouts_50 rfl (lv_at hl 1 rfl) ?_
      refine lv_aload_n hx hb dX1_shouts_51 rfl (lv_at hl 1 rfl) ?_
      refine va_get (D := D) (ci := 1) (v := .int RE.number) (C := RX1) (T := TX1) (N := 6) hx hb hts iw1 hown hK hP 0 rfl rfl 4 (by decide) kw2 (fun _ h9 => h9) rfl dX1_shouts_52 ?_
      obtain ⟨o_8, ho_8, hf⟩ := ht_bn_ob hf
      refine ht_callVi (r := o_8.1) (rest := [.int x2_5]) (As := [.int RE.number]) (wc := (wDe K jE aE o_4.2.1 o_4.2.2 vE_partedByZero RE.kind RE.number RE.voice)) (wr := []) (w1 := (wDe K jE aE o_8.2.1 o_8.2.2.1 o_8.2.2.2 RE.kind RE.number RE.voice)) (w2 := (wDe K jE aE o_8.2.1 o_8.2.2.1 o_8.2.2.2 RE.kind RE.number RE.voice)) hF (ctX1_parts l D K jE aE (o_4.2.1, o_4.2.2, vE_partedByZero, RE.kind, RE.number, RE.voice) RE.number o_8 ho_8 H.size) (cwV 1 hts gX1_shouts_X1_parts rfl rfl rfl hdX1_parts ⟨Nat.le_of_ble_eq_true rfl, Nat.le_of_ble_eq_true rfl⟩) hK hP hD hS hA [0, 1] [] rfl rfl (by decide) (by decide) (by decide) [0, 1] rfl (by decide) (va_recv hK hP (ci := 1) (q0 := 0) rfl rfl) rfl hl.1 rfl (Nat.le_of_ble_eq_true rfl) dX1_shouts_55 ⟨Nat.zero_le _, Nat.zero_le _⟩ (fun H locs hP hD hS => ?_)
      refine lv_iadd hx hb dX1_shouts_58 ?_
      obtain ⟨x2_9, ex2_9, hf⟩ := ht_nm_ob hf
      rw [← ex2_9]
      refine lv_istore_n (lv' := [(2, .int x2_9), (0, .ref jE), (1, .int x1)]) hx hb dX1_shouts_59 rfl hl (by decide) rfl (fun ls hl => ?_)
      exact b60  x2_9 o_8.2.1 o_8.2.2.1 o_8.2.2.2 _ _ _ hf hP hD hS (lv_sub hl [1, 0] rfl)
  have b13 : ∀ (x1 : Int32) (vE_bodies : AI) (vE_begun : Int32) (vE_partedByZero : Int32) (H : Heap) (locs : List Loc) (ls : Array Slot), fX1_shouts_b13 RE x1 vE_bodies vE_begun vE_partedByZero = some o → va_P D vwCl (wDe K jE aE vE_bodies vE_begun vE_partedByZero RE.kind RE.number RE.voice) H → va_D A (wDe K jE aE vE_bodies vE_begun vE_partedByZero RE.kind RE.number RE.voice) → va_S A s.heap H locs → lv_has ls 3 [(0, .ref jE), (1, .int x1)] → W p l e (headSpec wsX1_shouts rmX1_shouts).room s m ([.ref jE, .int p0] : List Value).toArray below meth c H locs 0 0 Q (F0 m 13 ls []) := by
    intro x1 vE_bodies vE_begun vE_partedByZero H locs ls hf hP hD hS hl
    delta fX1_shouts_b13 at hf
    refine lv_aload_n hx hb dX1_shouts_13 rfl (lv_at hl 0 rfl) ?_
    refine va_get (D := D) (ci := 1) (v := .int RE.kind) (C := RX1) (T := TX1) (N := 6) hx hb hts iw1 hown hK hP 0 rfl rfl 3 (by decide) kw1 (fun _ h9 => h9) rfl dX1_shouts_14 ?_
    refine lv_iconst (v := 5) hx hb dX1_shouts_17 (by decide) ?_
    refine lv_icmp_ne (tgt := 27) hx hb dX1_shouts_18 (by decide) (fun c_10 => ?_) (fun c_10 => ?_)
    · replace hf := ht_f c_10 hf
      exact b27  x1 vE_bodies vE_begun vE_partedByZero _ _ _ hf hP hD hS hl
    · replace hf := ht_t c_10 hf
      refine lv_aload_n hx hb dX1_shouts_21 rfl (lv_at hl 0 rfl) ?_
      refine lv_bipush (v := 60) hx hb dX1_shouts_22 (by decide) ?_
      obtain ⟨o_11, ho_11, hf⟩ := ht_bn_ob hf
      refine ht_callVv (rest := []) (As := [.int (60 : Int32)]) (wc := (wDe K jE aE vE_bodies vE_begun vE_partedByZero RE.kind RE.number RE.voice)) (wr := []) (w1 := (wDe K jE aE o_11.1 o_11.2 vE_partedByZero RE.kind RE.number RE.voice)) (w2 := (wDe K jE aE o_11.1 o_11.2 vE_partedByZero RE.kind RE.number RE.voice)) hF (ctX1_begin l D K jE aE (vE_bodies, vE_begun, vE_partedByZero, RE.kind, RE.number, RE.voice) (60 : Int32) o_11 ho_11 H.size) (cwV 1 hts gX1_shouts_X1_begin rfl rfl rfl hdX1_begin ⟨Nat.le_of_ble_eq_true rfl, Nat.le_of_ble_eq_true rfl⟩) hK hP hD hS hA [0, 1] [] rfl rfl (by decide) (by decide) (by decide) [0, 1] rfl (by decide) (va_recv hK hP (ci := 1) (q0 := 0) rfl rfl) rfl hl.1 rfl (Nat.le_of_ble_eq_true rfl) dX1_shouts_24 ⟨Nat.zero_le _, Nat.zero_le _⟩ (fun H locs hP hD hS => ?_)
      exact b27  x1 o_11.1 o_11.2 vE_partedByZero _ _ _ hf hP hD hS hl
  delta fX1_shouts at hf
  refine lv_aload_n hx hb dX1_shouts_0 rfl (lv_at hl 0 rfl) ?_
  obtain ⟨o_12, ho_12, hf⟩ := ht_bn_ob hf
  refine ht_callVi (r := o_12) (rest := []) (As := []) (wc := (wDe K jE aE RE.bodies RE.begun RE.partedByZero RE.kind RE.number RE.voice)) (wr := []) (w1 := (wDe K jE aE RE.bodies RE.begun RE.partedByZero RE.kind RE.number RE.voice)) (w2 := (wDe K jE aE RE.bodies RE.begun RE.partedByZero RE.kind RE.number RE.voice)) hF (ctX1_isMonkish l D K jE aE RE o_12 ho_12 H.size) (cwV 0 hts gX1_shouts_X1_isMonkish rfl rfl rfl hdX1_isMonkish ⟨Nat.le_of_ble_eq_true rfl, Nat.le_of_ble_eq_true rfl⟩) hK hP hD hS hA [0, 1] [] rfl rfl (by decide) (by decide) (by decide) [0, 1] rfl (by decide) (va_recv hK hP (ci := 1) (q0 := 0) rfl rfl) rfl hl.1 rfl (Nat.le_of_ble_eq_true rfl) dX1_shouts_1 ⟨Nat.zero_le _, Nat.zero_le _⟩ (fun H locs hP hD hS => ?_)
  refine lv_if_eq (tgt := 13) hx hb dX1_shouts_4 (by decide) (fun c_13 => ?_) (fun c_13 => ?_)
  · replace hf := ht_t c_13 hf
    exact b13  p0 RE.bodies RE.begun RE.partedByZero _ _ _ hf hP hD hS hl
  · replace hf := ht_f c_13 hf
    refine lv_aload_n hx hb dX1_shouts_7 rfl (lv_at hl 0 rfl) ?_
    refine lv_bipush (v := 31) hx hb dX1_shouts_8 (by decide) ?_
    obtain ⟨o_14, ho_14, hf⟩ := ht_bn_ob hf
    refine ht_callVv (rest := []) (As := [.int (31 : Int32)]) (wc := (wDe K jE aE RE.bodies RE.begun RE.partedByZero RE.kind RE.number RE.voice)) (wr := []) (w1 := (wDe K jE aE o_14.1 o_14.2 RE.partedByZero RE.kind RE.number RE.voice)) (w2 := (wDe K jE aE o_14.1 o_14.2 RE.partedByZero RE.kind RE.number RE.voice)) hF (ctX1_begin l D K jE aE RE (31 : Int32) o_14 ho_14 H.size) (cwV 1 hts gX1_shouts_X1_begin rfl rfl rfl hdX1_begin ⟨Nat.le_of_ble_eq_true rfl, Nat.le_of_ble_eq_true rfl⟩) hK hP hD hS hA [0, 1] [] rfl rfl (by decide) (by decide) (by decide) [0, 1] rfl (by decide) (va_recv hK hP (ci := 1) (q0 := 0) rfl rfl) rfl hl.1 rfl (Nat.le_of_ble_eq_true rfl) dX1_shouts_10 ⟨Nat.zero_le _, Nat.zero_le _⟩ (fun H locs hP hD hS => ?_)
    exact b13  p0 o_14.1 o_14.2 RE.partedByZero _ _ _ hf hP hD hS hl
abbrev rmX1_run : Room := { frames := 4, cells := 0, slots := 0, locals := 87 }
theorem hdX1_run : yX1_run.cls = RX1 ∧ yX1_run.cls ≠ "java/lang/invoke/MethodHandle" ∧ yX1_run.cls ≠ "java/lang/invoke/VarHandle" ∧ (parseMethodDescriptor yX1_run.desc).map (fun d => d.parameters.length) = some 4 := by decide +kernel
def fX1_run (RE : DeedV) (RT : TownV) (p1 : Int32) (p2 : Int32) (p3 : Int32) : Option (Int32 × AI × Int32 × Int32 × Int32 × Int32 × Int32) := ht_gd (ht_ix p1 8) (ht_nm (RT.kind p1.toNatClampNeg) (fun vE_kind_2 => ht_gd (ht_ix p1 8) (ht_nm (RT.voice p1.toNatClampNeg) (fun vE_voice_4 => if p2 = 0 then (ht_bn (fX1_mutters (RE.bodies, RE.begun, RE.partedByZero, vE_kind_2, p1, vE_voice_4) p3) (fun o_6 => some (o_6.1, o_6.2.1, o_6.2.2, RE.partedByZero, vE_kind_2, p1, vE_voice_4))) else if p2 = 1 then (ht_bn (fX1_says (RE.bodies, RE.begun, RE.partedByZero, vE_kind_2, p1, vE_voice_4) p3) (fun o_8 => some (o_8.1, o_8.2.1, o_8.2.2, RE.partedByZero, vE_kind_2, p1, vE_voice_4))) else if p2 = 2 then (ht_bn (fX1_parts (RE.bodies, RE.begun, RE.partedByZero, vE_kind_2, p1, vE_voice_4) p3) (fun o_10 => some (o_10.1, o_10.2.1, o_10.2.2.1, o_10.2.2.2, vE_kind_2, p1, vE_voice_4))) else (ht_bn (fX1_shouts (RE.bodies, RE.begun, RE.partedByZero, vE_kind_2, p1, vE_voice_4) p3) (fun o_11 => some (o_11.1, o_11.2.1, o_11.2.2.1, o_11.2.2.2, vE_kind_2, p1, vE_voice_4)))))))
set_option maxHeartbeats 1000000 in
set_option maxRecDepth 100000 in
theorem ctX1_run (l : Launch) (D : va_G) (K : Nat → ClassId) (jE : Nat) (aE : Nat → Nat) (jT : Nat) (aT : Nat → Nat) (RE : DeedV) (RT : TownV) (p1 : Int32) (p2 : Int32) (p3 : Int32) (o : (Int32 × AI × Int32 × Int32 × Int32 × Int32 × Int32)) (hf : fX1_run RE RT p1 p2 p3 = some o) (sz : Nat) : Met l yX1_run wsX1_run rmX1_run (ht_Pre D K [.ref jE, .ref jT, .int p1, .int p2, .int p3] (wDe K jE aE RE.bodies RE.begun RE.partedByZero RE.kind RE.number RE.voice ++ (wTw K jT aT RT.laws RT.kind RT.need RT.saved RT.voice RT.partner RT.speaks RT.count RT.day RT.heard RT.geese RT.z)) sz) (ht_Qi D K (wDe K jE aE o.2.1 o.2.2.1 o.2.2.2.1 o.2.2.2.2.1 o.2.2.2.2.2.1 o.2.2.2.2.2.2 ++ (wTw K jT aT RT.laws RT.kind RT.need RT.saved RT.voice RT.partner RT.speaks RT.count RT.day RT.heard RT.geese RT.z)) o.1 (va_A (wDe K jE aE RE.bodies RE.begun RE.partedByZero RE.kind RE.number RE.voice ++ (wTw K jT aT RT.laws RT.kind RT.need RT.saved RT.voice RT.partner RT.speaks RT.count RT.day RT.heard RT.geese RT.z)) sz)) 0 0 (va_A (wDe K jE aE RE.bodies RE.begun RE.partedByZero RE.kind RE.number RE.voice ++ (wTw K jT aT RT.laws RT.kind RT.need RT.saved RT.voice RT.partner RT.speaks RT.count RT.day RT.heard RT.geese RT.z)) sz) := by
  refine ht_enter (Qf := ht_Qi D K (wDe K jE aE o.2.1 o.2.2.1 o.2.2.2.1 o.2.2.2.2.1 o.2.2.2.2.2.1 o.2.2.2.2.2.2 ++ (wTw K jT aT RT.laws RT.kind RT.need RT.saved RT.voice RT.partner RT.speaks RT.count RT.day RT.heard RT.geese RT.z)) o.1) (cc := cX1_run) (maxL := 5) (rt := (some .int)) (by decide) rfl (Nat.le_of_ble_eq_true rfl) ?_ sz
  intro p e s m below meth c A Q H locs ls hQ hx hb hr hlk hmn hml hown hts hA hK hP hD hS hl
  have hown : s.vm.findClass RX1 = some m.cls := hown
  have hF : CallFix p m c cX1_run 5 s ([.ref jE, .ref jT, .int p1, .int p2, .int p3] : List Value).toArray wsX1_run RX1 := ⟨hx, hb, hml, hown, hts⟩
  have hl : lv_has ls 5 [(0, .ref jE), (1, .ref jT), (2, .int p1), (3, .int p2), (4, .int p3)] := hl
  have iw6 : ∀ w ∈ u_ws RX6 TX6 12, w ∈ wsX1_run := by decide +kernel
  have kw1 := hts (.fieldLink RX1 23 "HeldTongues$Town" "kind" "[I") (by decide +kernel)
  have iw1 : ∀ w ∈ u_ws RX1 TX1 6, w ∈ wsX1_run := by decide +kernel
  have kw3 := hts (.fieldLink RX1 28 "HeldTongues$Deed" "kind" "I") (by decide +kernel)
  have kw4 := hts (.fieldLink RX1 30 "HeldTongues$Deed" "number" "I") (by decide +kernel)
  have kw5 := hts (.fieldLink RX1 33 "HeldTongues$Town" "voice" "[I") (by decide +kernel)
  have kw6 := hts (.fieldLink RX1 36 "HeldTongues$Deed" "voice" "I") (by decide +kernel)
  delta fX1_run at hf
  refine lv_aload_n hx hb dX1_run_0 rfl (lv_at hl 0 rfl) ?_
  refine lv_aload_n hx hb dX1_run_1 rfl (lv_at hl 1 rfl) ?_
  refine va_get (D := D) (ci := 6) (v := .ref (aT 1)) (C := RX6) (T := TX6) (N := 12) hx hb hts iw6 hown hK hP 2 rfl rfl 1 (by decide) kw1 (fun _ h9 => h9) rfl dX1_run_2 ?_
  refine lv_iload_n hx hb dX1_run_5 rfl (lv_at hl 2 rfl) ?_
  obtain ⟨g_1, hf⟩ := ht_gd_ob hf
  refine va_iald hx hb hK hP 4 1 rfl rfl (ht_ix_in g_1) dX1_run_6 ?_
  obtain ⟨vE_kind_2, evE_kind_2, hf⟩ := ht_nm_ob hf
  rw [← evE_kind_2]
  refine ht_put (ci := 1) (v := .int vE_kind_2) (ty := .int) (C := RX1) (T := TX1) (N := 6) (w2 := (wDe K jE aE RE.bodies RE.begun RE.partedByZero vE_kind_2 RE.number RE.voice ++ (wTw K jT aT RT.laws RT.kind RT.need RT.saved RT.voice RT.partner RT.speaks RT.count RT.day RT.heard RT.geese RT.z))) hx hb hts iw1 tyX1 tyX1_ok nmX1 hown hK hP hD hS 0 rfl rfl 3 (by decide) kw3 (fun _ h9 => h9) rfl (by decide +kernel) rfl rfl (Nat.le_of_ble_eq_true rfl) dX1_run_7 rfl (fun H locs hP hD hS => ?_)
  refine lv_aload_n hx hb dX1_run_10 rfl (lv_at hl 0 rfl) ?_
  refine lv_iload_n hx hb dX1_run_11 rfl (lv_at hl 2 rfl) ?_
  refine ht_put (ci := 1) (v := .int p1) (ty := .int) (C := RX1) (T := TX1) (N := 6) (w2 := (wDe K jE aE RE.bodies RE.begun RE.partedByZero vE_kind_2 p1 RE.voice ++ (wTw K jT aT RT.laws RT.kind RT.need RT.saved RT.voice RT.partner RT.speaks RT.count RT.day RT.heard RT.geese RT.z))) hx hb hts iw1 tyX1 tyX1_ok nmX1 hown hK hP hD hS 0 rfl rfl 4 (by decide) kw4 (fun _ h9 => h9) rfl (by decide +kernel) rfl rfl (Nat.le_of_ble_eq_true rfl) dX1_run_12 rfl (fun H locs hP hD hS => ?_)
  refine lv_aload_n hx hb dX1_run_15 rfl (lv_at hl 0 rfl) ?_
  refine lv_aload_n hx hb dX1_run_16 rfl (lv_at hl 1 rfl) ?_
  refine va_get (D := D) (ci := 6) (v := .ref (aT 4)) (C := RX6) (T := TX6) (N := 12) hx hb hts iw6 hown hK hP 2 rfl rfl 4 (by decide) kw5 (fun _ h9 => h9) rfl dX1_run_17 ?_
  refine lv_iload_n hx hb dX1_run_20 rfl (lv_at hl 2 rfl) ?_
  obtain ⟨g_3, hf⟩ := ht_gd_ob hf
  refine va_iald hx hb hK hP 7 1 rfl rfl (ht_ix_in g_3) dX1_run_21 ?_
  obtain ⟨vE_voice_4, evE_voice_4, hf⟩ := ht_nm_ob hf
  rw [← evE_voice_4]
  refine ht_put (ci := 1) (v := .int vE_voice_4) (ty := .int) (C := RX1) (T := TX1) (N := 6) (w2 := (wDe K jE aE RE.bodies RE.begun RE.partedByZero vE_kind_2 p1 vE_voice_4 ++ (wTw K jT aT RT.laws RT.kind RT.need RT.saved RT.voice RT.partner RT.speaks RT.count RT.day RT.heard RT.geese RT.z))) hx hb hts iw1 tyX1 tyX1_ok nmX1 hown hK hP hD hS 0 rfl rfl 5 (by decide) kw6 (fun _ h9 => h9) rfl (by decide +kernel) rfl rfl (Nat.le_of_ble_eq_true rfl) dX1_run_22 rfl (fun H locs hP hD hS => ?_)
  refine lv_iload_n hx hb dX1_run_25 rfl (lv_at hl 3 rfl) ?_
  by_cases c_5 : p2 = 0
  · replace hf := ht_t c_5 hf
    refine lv_tableIn (tgt := 52) hx hb dX1_run_26 (by rw [c_5]; decide) (by rw [c_5]; decide) (by rw [c_5]; rfl) (by decide) ?_
    refine lv_aload_n hx hb dX1_run_52 rfl (lv_at hl 0 rfl) ?_
    refine lv_iload hx hb dX1_run_53 (lv_at hl 4 rfl) ?_
    obtain ⟨o_6, ho_6, hf⟩ := ht_bn_ob hf
    refine ht_callVi (r := o_6.1) (rest := []) (As := [.int p3]) (wc := (wDe K jE aE RE.bodies RE.begun RE.partedByZero vE_kind_2 p1 vE_voice_4)) (wr := (wTw K jT aT RT.laws RT.kind RT.need RT.saved RT.voice RT.partner RT.speaks RT.count RT.day RT.heard RT.geese RT.z)) (w1 := (wDe K jE aE o_6.2.1 o_6.2.2 RE.partedByZero vE_kind_2 p1 vE_voice_4)) (w2 := (wDe K jE aE o_6.2.1 o_6.2.2 RE.partedByZero vE_kind_2 p1 vE_voice_4 ++ (wTw K jT aT RT.laws RT.kind RT.need RT.saved RT.voice RT.partner RT.speaks RT.count RT.day RT.heard RT.geese RT.z))) hF (ctX1_mutters l D K jE aE (RE.bodies, RE.begun, RE.partedByZero, vE_kind_2, p1, vE_voice_4) p3 o_6 ho_6 H.size) (cwV 1 hts gX1_run_X1_mutters rfl rfl rfl hdX1_mutters ⟨Nat.le_of_ble_eq_true rfl, Nat.le_of_ble_eq_true rfl⟩) hK hP hD hS hA [0, 1] [2, 3, 4, 5, 6, 7, 8, 9] rfl rfl (by decide) (by decide) (by decide) [8, 9, 0, 1, 2, 3, 4, 5, 6, 7] rfl (by decide) (va_recv hK hP (ci := 1) (q0 := 0) rfl rfl) rfl hl.1 rfl (Nat.le_of_ble_eq_true rfl) dX1_run_55 ⟨Nat.zero_le _, Nat.zero_le _⟩ (fun H locs hP hD hS => ?_)
    have ho := Option.some.inj hf
    subst ho; subst hQ
    exact ht_iret hx hb hr hlk rfl hK hP hD hS dX1_run_58
  replace hf := ht_f c_5 hf
  by_cases c_7 : p2 = 1
  · replace hf := ht_t c_7 hf
    refine lv_tableIn (tgt := 59) hx hb dX1_run_26 (by rw [c_7]; decide) (by rw [c_7]; decide) (by rw [c_7]; rfl) (by decide) ?_
    refine lv_aload_n hx hb dX1_run_59 rfl (lv_at hl 0 rfl) ?_
    refine lv_iload hx hb dX1_run_60 (lv_at hl 4 rfl) ?_
    obtain ⟨o_8, ho_8, hf⟩ := ht_bn_ob hf
    refine ht_callVi (r := o_8.1) (rest := []) (As := [.int p3]) (wc := (wDe K jE aE RE.bodies RE.begun RE.partedByZero vE_kind_2 p1 vE_voice_4)) (wr := (wTw K jT aT RT.laws RT.kind RT.need RT.saved RT.voice RT.partner RT.speaks RT.count RT.day RT.heard RT.geese RT.z)) (w1 := (wDe K jE aE o_8.2.1 o_8.2.2 RE.partedByZero vE_kind_2 p1 vE_voice_4)) (w2 := (wDe K jE aE o_8.2.1 o_8.2.2 RE.partedByZero vE_kind_2 p1 vE_voice_4 ++ (wTw K jT aT RT.laws RT.kind RT.need RT.saved RT.voice RT.partner RT.speaks RT.count RT.day RT.heard RT.geese RT.z))) hF (ctX1_says l D K jE aE (RE.bodies, RE.begun, RE.partedByZero, vE_kind_2, p1, vE_voice_4) p3 o_8 ho_8 H.size) (cwV 1 hts gX1_run_X1_says rfl rfl rfl hdX1_says ⟨Nat.le_of_ble_eq_true rfl, Nat.le_of_ble_eq_true rfl⟩) hK hP hD hS hA [0, 1] [2, 3, 4, 5, 6, 7, 8, 9] rfl rfl (by decide) (by decide) (by decide) [8, 9, 0, 1, 2, 3, 4, 5, 6, 7] rfl (by decide) (va_recv hK hP (ci := 1) (q0 := 0) rfl rfl) rfl hl.1 rfl (Nat.le_of_ble_eq_true rfl) dX1_run_62 ⟨Nat.zero_le _, Nat.zero_le _⟩ (fun H locs hP hD hS => ?_)
    have ho := Option.some.inj hf
    subst ho; subst hQ
    exact ht_iret hx hb hr hlk rfl hK hP hD hS dX1_run_65
  replace hf := ht_f c_7 hf
  by_cases c_9 : p2 = 2
  · replace hf := ht_t c_9 hf
    refine lv_tableIn (tgt := 66) hx hb dX1_run_26 (by rw [c_9]; decide) (by rw [c_9]; decide) (by rw [c_9]; rfl) (by decide) ?_
    refine lv_aload_n hx hb dX1_run_66 rfl (lv_at hl 0 rfl) ?_
    refine lv_iload hx hb dX1_run_67 (lv_at hl 4 rfl) ?_
    obtain ⟨o_10, ho_10, hf⟩ := ht_bn_ob hf
    refine ht_callVi (r := o_10.1) (rest := []) (As := [.int p3]) (wc := (wDe K jE aE RE.bodies RE.begun RE.partedByZero vE_kind_2 p1 vE_voice_4)) (wr := (wTw K jT aT RT.laws RT.kind RT.need RT.saved RT.voice RT.partner RT.speaks RT.count RT.day RT.heard RT.geese RT.z)) (w1 := (wDe K jE aE o_10.2.1 o_10.2.2.1 o_10.2.2.2 vE_kind_2 p1 vE_voice_4)) (w2 := (wDe K jE aE o_10.2.1 o_10.2.2.1 o_10.2.2.2 vE_kind_2 p1 vE_voice_4 ++ (wTw K jT aT RT.laws RT.kind RT.need RT.saved RT.voice RT.partner RT.speaks RT.count RT.day RT.heard RT.geese RT.z))) hF (ctX1_parts l D K jE aE (RE.bodies, RE.begun, RE.partedByZero, vE_kind_2, p1, vE_voice_4) p3 o_10 ho_10 H.size) (cwV 1 hts gX1_run_X1_parts rfl rfl rfl hdX1_parts ⟨Nat.le_of_ble_eq_true rfl, Nat.le_of_ble_eq_true rfl⟩) hK hP hD hS hA [0, 1] [2, 3, 4, 5, 6, 7, 8, 9] rfl rfl (by decide) (by decide) (by decide) [8, 9, 0, 1, 2, 3, 4, 5, 6, 7] rfl (by decide) (va_recv hK hP (ci := 1) (q0 := 0) rfl rfl) rfl hl.1 rfl (Nat.le_of_ble_eq_true rfl) dX1_run_69 ⟨Nat.zero_le _, Nat.zero_le _⟩ (fun H locs hP hD hS => ?_)
    have ho := Option.some.inj hf
    subst ho; subst hQ
    exact ht_iret hx hb hr hlk rfl hK hP hD hS dX1_run_72
  replace hf := ht_f c_9 hf
  refine lv_tableOut (tgt := 73) hx hb dX1_run_26 (by have := lv_neT c_5 (a := 0) rfl; have := lv_neT c_7 (a := 1) rfl; have := lv_neT c_9 (a := 2) rfl; omega) (by decide) ?_
  refine lv_aload_n hx hb dX1_run_73 rfl (lv_at hl 0 rfl) ?_
  refine lv_iload hx hb dX1_run_74 (lv_at hl 4 rfl) ?_
  obtain ⟨o_11, ho_11, hf⟩ := ht_bn_ob hf
  refine ht_callVi (r := o_11.1) (rest := []) (As := [.int p3]) (wc := (wDe K jE aE RE.bodies RE.begun RE.partedByZero vE_kind_2 p1 vE_voice_4)) (wr := (wTw K jT aT RT.laws RT.kind RT.need RT.saved RT.voice RT.partner RT.speaks RT.count RT.day RT.heard RT.geese RT.z)) (w1 := (wDe K jE aE o_11.2.1 o_11.2.2.1 o_11.2.2.2 vE_kind_2 p1 vE_voice_4)) (w2 := (wDe K jE aE o_11.2.1 o_11.2.2.1 o_11.2.2.2 vE_kind_2 p1 vE_voice_4 ++ (wTw K jT aT RT.laws RT.kind RT.need RT.saved RT.voice RT.partner RT.speaks RT.count RT.day RT.heard RT.geese RT.z))) hF (ctX1_shouts l D K jE aE (RE.bodies, RE.begun, RE.partedByZero, vE_kind_2, p1, vE_voice_4) p3 o_11 ho_11 H.size) (cwV 1 hts gX1_run_X1_shouts rfl rfl rfl hdX1_shouts ⟨Nat.le_of_ble_eq_true rfl, Nat.le_of_ble_eq_true rfl⟩) hK hP hD hS hA [0, 1] [2, 3, 4, 5, 6, 7, 8, 9] rfl rfl (by decide) (by decide) (by decide) [8, 9, 0, 1, 2, 3, 4, 5, 6, 7] rfl (by decide) (va_recv hK hP (ci := 1) (q0 := 0) rfl rfl) rfl hl.1 rfl (Nat.le_of_ble_eq_true rfl) dX1_run_76 ⟨Nat.zero_le _, Nat.zero_le _⟩ (fun H locs hP hD hS => ?_)
  have ho := Option.some.inj hf
  subst ho; subst hQ
  exact ht_iret hx hb hr hlk rfl hK hP hD hS dX1_run_79
abbrev rmX8_within : Room := { frames := 0, cells := 0, slots := 0, locals := 0 }
theorem hdX8_within : yX8_within.cls ≠ "java/lang/invoke/MethodHandle" ∧ yX8_within.cls ≠ "java/lang/invoke/VarHandle" ∧ (parseMethodDescriptor yX8_within.desc).map (fun d => d.parameters.length) = some 3 := by decide +kernel
def fX8_within (p0 : Int32) (p1 : Int32) (p2 : Int32) : Option Int32 := if p0 < p1 then (some (0 : Int32)) else (if p2 < p0 then (some (0 : Int32)) else (some (1 : Int32)))
set_option maxHeartbeats 1000000 in
set_option maxRecDepth 100000 in
theorem ctX8_within (l : Launch) (D : va_G) (K : Nat → ClassId)  (p0 : Int32) (p1 : Int32) (p2 : Int32) (o : Int32) (hf : fX8_within p0 p1 p2 = some o) (sz : Nat) : Met l yX8_within wsX8_within rmX8_within (ht_Pre D K [.int p0, .int p1, .int p2] [] sz) (ht_Qi D K [] o (va_A [] sz)) 0 0 (va_A [] sz) := by
  refine ht_enter (Qf := ht_Qi D K [] o) (cc := cX8_within) (maxL := 3) (rt := (some .boolean)) (by decide) rfl (Nat.le_of_ble_eq_true rfl) ?_ sz
  intro p e s m below meth c A Q H locs ls hQ hx hb hr hlk hmn hml hown hts hA hK hP hD hS hl
  have hown : s.vm.findClass RX8 = some m.cls := hown
  have hF : CallFix p m c cX8_within 3 s ([.int p0, .int p1, .int p2] : List Value).toArray wsX8_within RX8 := ⟨hx, hb, hml, hown, hts⟩
  have hl : lv_has ls 3 [(0, .int p0), (1, .int p1), (2, .int p2)] := hl
  delta fX8_within at hf
  refine lv_iload_n hx hb dX8_within_0 rfl (lv_at hl 0 rfl) ?_
  refine lv_iload_n hx hb dX8_within_1 rfl (lv_at hl 1 rfl) ?_
  refine lv_icmp_lt (tgt := 14) hx hb dX8_within_2 (by decide) (fun c_1 => ?_) (fun c_1 => ?_)
  · replace hf := ht_t c_1 hf
    refine lv_iconst (v := 0) hx hb dX8_within_14 (by decide) ?_
    have ho := Option.some.inj hf
    subst ho; subst hQ
    exact ht_iret hx hb hr hlk (show narrow .boolean (.int (0 : Int32)) = .int (0 : Int32) from rfl) hK hP hD hS dX8_within_15
  · replace hf := ht_f c_1 hf
    refine lv_iload_n hx hb dX8_within_5 rfl (lv_at hl 0 rfl) ?_
    refine lv_iload_n hx hb dX8_within_6 rfl (lv_at hl 2 rfl) ?_
    refine lv_icmp_gt (tgt := 14) hx hb dX8_within_7 (by decide) (fun c_2 => ?_) (fun c_2 => ?_)
    · replace hf := ht_t c_2 hf
      refine lv_iconst (v := 0) hx hb dX8_within_14 (by decide) ?_
      have ho := Option.some.inj hf
      subst ho; subst hQ
      exact ht_iret hx hb hr hlk (show narrow .boolean (.int (0 : Int32)) = .int (0 : Int32) from rfl) hK hP hD hS dX8_within_15
    · replace hf := ht_f c_2 hf
      refine lv_iconst (v := 1) hx hb dX8_within_10 (by decide) ?_
      refine lv_goto (tgt := 15) hx hb dX8_within_11 (by decide) ?_
      have ho := Option.some.inj hf
      subst ho; subst hQ
      exact ht_iret hx hb hr hlk (show narrow .boolean (.int (1 : Int32)) = .int (1 : Int32) from rfl) hK hP hD hS dX8_within_15
abbrev rmX8_isLaw : Room := { frames := 1, cells := 0, slots := 0, locals := 22 }
theorem hdX8_isLaw : yX8_isLaw.cls ≠ "java/lang/invoke/MethodHandle" ∧ yX8_isLaw.cls ≠ "java/lang/invoke/VarHandle" ∧ (parseMethodDescriptor yX8_isLaw.desc).map (fun d => d.parameters.length) = some 1 := by decide +kernel
def fX8_isLaw (p0 : Int32) : Option Int32 := ht_bn (fX8_within p0 (0 : Int32) (3 : Int32)) (fun o_1 => ht_gd (ht_bz o_1) (some o_1))
set_option maxHeartbeats 1000000 in
set_option maxRecDepth 100000 in
theorem ctX8_isLaw (l : Launch) (D : va_G) (K : Nat → ClassId)  (p0 : Int32) (o : Int32) (hf : fX8_isLaw p0 = some o) (sz : Nat) : Met l yX8_isLaw wsX8_isLaw rmX8_isLaw (ht_Pre D K [.int p0] [] sz) (ht_Qi D K [] o (va_A [] sz)) 0 0 (va_A [] sz) := by
  refine ht_enter (Qf := ht_Qi D K [] o) (cc := cX8_isLaw) (maxL := 1) (rt := (some .boolean)) (by decide) rfl (Nat.le_of_ble_eq_true rfl) ?_ sz
  intro p e s m below meth c A Q H locs ls hQ hx hb hr hlk hmn hml hown hts hA hK hP hD hS hl
  have hown : s.vm.findClass RX8 = some m.cls := hown
  have hF : CallFix p m c cX8_isLaw 1 s ([.int p0] : List Value).toArray wsX8_isLaw RX8 := ⟨hx, hb, hml, hown, hts⟩
  have hl : lv_has ls 1 [(0, .int p0)] := hl
  delta fX8_isLaw at hf
  refine lv_iload_n hx hb dX8_isLaw_0 rfl (lv_at hl 0 rfl) ?_
  refine lv_iconst (v := 0) hx hb dX8_isLaw_1 (by decide) ?_
  refine lv_iconst (v := 3) hx hb dX8_isLaw_2 (by decide) ?_
  obtain ⟨o_1, ho_1, hf⟩ := ht_bn_ob hf
  refine ht_callSi (r := o_1) (rest := []) (As := [.int p0, .int (0 : Int32), .int (3 : Int32)]) (wc := []) (wr := []) (w1 := []) (w2 := []) hF (ctX8_within l D K p0 (0 : Int32) (3 : Int32) o_1 ho_1 H.size) (va_cwS 3 hts gX8_isLaw_X8_within rfl rfl rfl hdX8_within ⟨Nat.le_of_ble_eq_true rfl, Nat.le_of_ble_eq_true rfl⟩) hK hP hD hS hA [] [] rfl rfl (by decide) (by decide) (by decide) [] rfl (by decide) rfl hl.1 rfl (Nat.le_of_ble_eq_true rfl) dX8_isLaw_3 ⟨Nat.zero_le _, Nat.zero_le _⟩ (fun H locs hP hD hS => ?_)
  obtain ⟨g_2, hf⟩ := ht_gd_ob hf
  have ho := Option.some.inj hf
  subst ho; subst hQ
  exact ht_iret hx hb hr hlk (ht_bz_nar g_2) hK hP hD hS dX8_isLaw_6
abbrev rmX8_mostOfLaw : Room := { frames := 0, cells := 0, slots := 0, locals := 0 }
theorem hdX8_mostOfLaw : yX8_mostOfLaw.cls ≠ "java/lang/invoke/MethodHandle" ∧ yX8_mostOfLaw.cls ≠ "java/lang/invoke/VarHandle" ∧ (parseMethodDescriptor yX8_mostOfLaw.desc).map (fun d => d.parameters.length) = some 1 := by decide +kernel
def fX8_mostOfLaw (p0 : Int32) : Option Int32 := if p0 = (3 : Int32) then (some (99 : Int32)) else (some (9 : Int32))
set_option maxHeartbeats 1000000 in
set_option maxRecDepth 100000 in
theorem ctX8_mostOfLaw (l : Launch) (D : va_G) (K : Nat → ClassId)  (p0 : Int32) (o : Int32) (hf : fX8_mostOfLaw p0 = some o) (sz : Nat) : Met l yX8_mostOfLaw wsX8_mostOfLaw rmX8_mostOfLaw (ht_Pre D K [.int p0] [] sz) (ht_Qi D K [] o (va_A [] sz)) 0 0 (va_A [] sz) := by
  refine ht_enter (Qf := ht_Qi D K [] o) (cc := cX8_mostOfLaw) (maxL := 1) (rt := (some .int)) (by decide) rfl (Nat.le_of_ble_eq_true rfl) ?_ sz
  intro p e s m below meth c A Q H locs ls hQ hx hb hr hlk hmn hml hown hts hA hK hP hD hS hl
  have hown : s.vm.findClass RX8 = some m.cls := hown
  have hF : CallFix p m c cX8_mostOfLaw 1 s ([.int p0] : List Value).toArray wsX8_mostOfLaw RX8 := ⟨hx, hb, hml, hown, hts⟩
  have hl : lv_has ls 1 [(0, .int p0)] := hl
  delta fX8_mostOfLaw at hf
  refine lv_iload_n hx hb dX8_mostOfLaw_0 rfl (lv_at hl 0 rfl) ?_
  refine lv_iconst (v := 3) hx hb dX8_mostOfLaw_1 (by decide) ?_
  refine lv_icmp_ne (tgt := 10) hx hb dX8_mostOfLaw_2 (by decide) (fun c_1 => ?_) (fun c_1 => ?_)
  · replace hf := ht_f c_1 hf
    refine lv_bipush (v := 9) hx hb dX8_mostOfLaw_10 (by decide) ?_
    have ho := Option.some.inj hf
    subst ho; subst hQ
    exact ht_iret hx hb hr hlk rfl hK hP hD hS dX8_mostOfLaw_12
  · replace hf := ht_t c_1 hf
    refine lv_bipush (v := 99) hx hb dX8_mostOfLaw_5 (by decide) ?_
    refine lv_goto (tgt := 12) hx hb dX8_mostOfLaw_7 (by decide) ?_
    have ho := Option.some.inj hf
    subst ho; subst hQ
    exact ht_iret hx hb hr hlk rfl hK hP hD hS dX8_mostOfLaw_12
abbrev rmX8_isKind : Room := { frames := 1, cells := 0, slots := 0, locals := 22 }
theorem hdX8_isKind : yX8_isKind.cls ≠ "java/lang/invoke/MethodHandle" ∧ yX8_isKind.cls ≠ "java/lang/invoke/VarHandle" ∧ (parseMethodDescriptor yX8_isKind.desc).map (fun d => d.parameters.length) = some 1 := by decide +kernel
def fX8_isKind (p0 : Int32) : Option Int32 := ht_bn (fX8_within p0 (0 : Int32) (5 : Int32)) (fun o_1 => ht_gd (ht_bz o_1) (some o_1))
set_option maxHeartbeats 1000000 in
set_option maxRecDepth 100000 in
theorem ctX8_isKind (l : Launch) (D : va_G) (K : Nat → ClassId)  (p0 : Int32) (o : Int32) (hf : fX8_isKind p0 = some o) (sz : Nat) : Met l yX8_isKind wsX8_isKind rmX8_isKind (ht_Pre D K [.int p0] [] sz) (ht_Qi D K [] o (va_A [] sz)) 0 0 (va_A [] sz) := by
  refine ht_enter (Qf := ht_Qi D K [] o) (cc := cX8_isKind) (maxL := 1) (rt := (some .boolean)) (by decide) rfl (Nat.le_of_ble_eq_true rfl) ?_ sz
  intro p e s m below meth c A Q H locs ls hQ hx hb hr hlk hmn hml hown hts hA hK hP hD hS hl
  have hown : s.vm.findClass RX8 = some m.cls := hown
  have hF : CallFix p m c cX8_isKind 1 s ([.int p0] : List Value).toArray wsX8_isKind RX8 := ⟨hx, hb, hml, hown, hts⟩
  have hl : lv_has ls 1 [(0, .int p0)] := hl
  delta fX8_isKind at hf
  refine lv_iload_n hx hb dX8_isKind_0 rfl (lv_at hl 0 rfl) ?_
  refine lv_iconst (v := 0) hx hb dX8_isKind_1 (by decide) ?_
  refine lv_iconst (v := 5) hx hb dX8_isKind_2 (by decide) ?_
  obtain ⟨o_1, ho_1, hf⟩ := ht_bn_ob hf
  refine ht_callSi (r := o_1) (rest := []) (As := [.int p0, .int (0 : Int32), .int (5 : Int32)]) (wc := []) (wr := []) (w1 := []) (w2 := []) hF (ctX8_within l D K p0 (0 : Int32) (5 : Int32) o_1 ho_1 H.size) (va_cwS 3 hts gX8_isKind_X8_within rfl rfl rfl hdX8_within ⟨Nat.le_of_ble_eq_true rfl, Nat.le_of_ble_eq_true rfl⟩) hK hP hD hS hA [] [] rfl rfl (by decide) (by decide) (by decide) [] rfl (by decide) rfl hl.1 rfl (Nat.le_of_ble_eq_true rfl) dX8_isKind_3 ⟨Nat.zero_le _, Nat.zero_le _⟩ (fun H locs hP hD hS => ?_)
  obtain ⟨g_2, hf⟩ := ht_gd_ob hf
  have ho := Option.some.inj hf
  subst ho; subst hQ
  exact ht_iret hx hb hr hlk (ht_bz_nar g_2) hK hP hD hS dX8_isKind_6
abbrev rmX8_isVoice : Room := { frames := 1, cells := 0, slots := 0, locals := 22 }
theorem hdX8_isVoice : yX8_isVoice.cls ≠ "java/lang/invoke/MethodHandle" ∧ yX8_isVoice.cls ≠ "java/lang/invoke/VarHandle" ∧ (parseMethodDescriptor yX8_isVoice.desc).map (fun d => d.parameters.length) = some 1 := by decide +kernel
def fX8_isVoice (p0 : Int32) : Option Int32 := ht_bn (fX8_within p0 (0 : Int32) (9 : Int32)) (fun o_1 => ht_gd (ht_bz o_1) (some o_1))
set_option maxHeartbeats 1000000 in
set_option maxRecDepth 100000 in
theorem ctX8_isVoice (l : Launch) (D : va_G) (K : Nat → ClassId)  (p0 : Int32) (o : Int32) (hf : fX8_isVoice p0 = some o) (sz : Nat) : Met l yX8_isVoice wsX8_isVoice rmX8_isVoice (ht_Pre D K [.int p0] [] sz) (ht_Qi D K [] o (va_A [] sz)) 0 0 (va_A [] sz) := by
  refine ht_enter (Qf := ht_Qi D K [] o) (cc := cX8_isVoice) (maxL := 1) (rt := (some .boolean)) (by decide) rfl (Nat.le_of_ble_eq_true rfl) ?_ sz
  intro p e s m below meth c A Q H locs ls hQ hx hb hr hlk hmn hml hown hts hA hK hP hD hS hl
  have hown : s.vm.findClass RX8 = some m.cls := hown
  have hF : CallFix p m c cX8_isVoice 1 s ([.int p0] : List Value).toArray wsX8_isVoice RX8 := ⟨hx, hb, hml, hown, hts⟩
  have hl : lv_has ls 1 [(0, .int p0)] := hl
  delta fX8_isVoice at hf
  refine lv_iload_n hx hb dX8_isVoice_0 rfl (lv_at hl 0 rfl) ?_
  refine lv_iconst (v := 0) hx hb dX8_isVoice_1 (by decide) ?_
  refine lv_bipush (v := 9) hx hb dX8_isVoice_2 (by decide) ?_
  obtain ⟨o_1, ho_1, hf⟩ := ht_bn_ob hf
  refine ht_callSi (r := o_1) (rest := []) (As := [.int p0, .int (0 : Int32), .int (9 : Int32)]) (wc := []) (wr := []) (w1 := []) (w2 := []) hF (ctX8_within l D K p0 (0 : Int32) (9 : Int32) o_1 ho_1 H.size) (va_cwS 3 hts gX8_isVoice_X8_within rfl rfl rfl hdX8_within ⟨Nat.le_of_ble_eq_true rfl, Nat.le_of_ble_eq_true rfl⟩) hK hP hD hS hA [] [] rfl rfl (by decide) (by decide) (by decide) [] rfl (by decide) rfl hl.1 rfl (Nat.le_of_ble_eq_true rfl) dX8_isVoice_4 ⟨Nat.zero_le _, Nat.zero_le _⟩ (fun H locs hP hD hS => ?_)
  obtain ⟨g_2, hf⟩ := ht_gd_ob hf
  have ho := Option.some.inj hf
  subst ho; subst hQ
  exact ht_iret hx hb hr hlk (ht_bz_nar g_2) hK hP hD hS dX8_isVoice_7
abbrev rmX8_isSheet : Room := { frames := 1, cells := 0, slots := 0, locals := 22 }
theorem hdX8_isSheet : yX8_isSheet.cls ≠ "java/lang/invoke/MethodHandle" ∧ yX8_isSheet.cls ≠ "java/lang/invoke/VarHandle" ∧ (parseMethodDescriptor yX8_isSheet.desc).map (fun d => d.parameters.length) = some 1 := by decide +kernel
def fX8_isSheet (p0 : Int32) : Option Int32 := ht_bn (fX8_within p0 (0 : Int32) (3 : Int32)) (fun o_1 => ht_gd (ht_bz o_1) (some o_1))
set_option maxHeartbeats 1000000 in
set_option maxRecDepth 100000 in
theorem ctX8_isSheet (l : Launch) (D : va_G) (K : Nat → ClassId)  (p0 : Int32) (o : Int32) (hf : fX8_isSheet p0 = some o) (sz : Nat) : Met l yX8_isSheet wsX8_isSheet rmX8_isSheet (ht_Pre D K [.int p0] [] sz) (ht_Qi D K [] o (va_A [] sz)) 0 0 (va_A [] sz) := by
  refine ht_enter (Qf := ht_Qi D K [] o) (cc := cX8_isSheet) (maxL := 1) (rt := (some .boolean)) (by decide) rfl (Nat.le_of_ble_eq_true rfl) ?_ sz
  intro p e s m below meth c A Q H locs ls hQ hx hb hr hlk hmn hml hown hts hA hK hP hD hS hl
  have hown : s.vm.findClass RX8 = some m.cls := hown
  have hF : CallFix p m c cX8_isSheet 1 s ([.int p0] : List Value).toArray wsX8_isSheet RX8 := ⟨hx, hb, hml, hown, hts⟩
  have hl : lv_has ls 1 [(0, .int p0)] := hl
  delta fX8_isSheet at hf
  refine lv_iload_n hx hb dX8_isSheet_0 rfl (lv_at hl 0 rfl) ?_
  refine lv_iconst (v := 0) hx hb dX8_isSheet_1 (by decide) ?_
  refine lv_iconst (v := 3) hx hb dX8_isSheet_2 (by decide) ?_
  obtain ⟨o_1, ho_1, hf⟩ := ht_bn_ob hf
  refine ht_callSi (r := o_1) (rest := []) (As := [.int p0, .int (0 : Int32), .int (3 : Int32)]) (wc := []) (wr := []) (w1 := []) (w2 := []) hF (ctX8_within l D K p0 (0 : Int32) (3 : Int32) o_1 ho_1 H.size) (va_cwS 3 hts gX8_isSheet_X8_within rfl rfl rfl hdX8_within ⟨Nat.le_of_ble_eq_true rfl, Nat.le_of_ble_eq_true rfl⟩) hK hP hD hS hA [] [] rfl rfl (by decide) (by decide) (by decide) [] rfl (by decide) rfl hl.1 rfl (Nat.le_of_ble_eq_true rfl) dX8_isSheet_3 ⟨Nat.zero_le _, Nat.zero_le _⟩ (fun H locs hP hD hS => ?_)
  obtain ⟨g_2, hf⟩ := ht_gd_ob hf
  have ho := Option.some.inj hf
  subst ho; subst hQ
  exact ht_iret hx hb hr hlk (ht_bz_nar g_2) hK hP hD hS dX8_isSheet_6
abbrev rmX8_isShelf : Room := { frames := 1, cells := 0, slots := 0, locals := 22 }
theorem hdX8_isShelf : yX8_isShelf.cls ≠ "java/lang/invoke/MethodHandle" ∧ yX8_isShelf.cls ≠ "java/lang/invoke/VarHandle" ∧ (parseMethodDescriptor yX8_isShelf.desc).map (fun d => d.parameters.length) = some 1 := by decide +kernel
def fX8_isShelf (p0 : Int32) : Option Int32 := ht_bn (fX8_within p0 (0 : Int32) (3 : Int32)) (fun o_1 => ht_gd (ht_bz o_1) (some o_1))
set_option maxHeartbeats 1000000 in
set_option maxRecDepth 100000 in
theorem ctX8_isShelf (l : Launch) (D : va_G) (K : Nat → ClassId)  (p0 : Int32) (o : Int32) (hf : fX8_isShelf p0 = some o) (sz : Nat) : Met l yX8_isShelf wsX8_isShelf rmX8_isShelf (ht_Pre D K [.int p0] [] sz) (ht_Qi D K [] o (va_A [] sz)) 0 0 (va_A [] sz) := by
  refine ht_enter (Qf := ht_Qi D K [] o) (cc := cX8_isShelf) (maxL := 1) (rt := (some .boolean)) (by decide) rfl (Nat.le_of_ble_eq_true rfl) ?_ sz
  intro p e s m below meth c A Q H locs ls hQ hx hb hr hlk hmn hml hown hts hA hK hP hD hS hl
  have hown : s.vm.findClass RX8 = some m.cls := hown
  have hF : CallFix p m c cX8_isShelf 1 s ([.int p0] : List Value).toArray wsX8_isShelf RX8 := ⟨hx, hb, hml, hown, hts⟩
  have hl : lv_has ls 1 [(0, .int p0)] := hl
  delta fX8_isShelf at hf
  refine lv_iload_n hx hb dX8_isShelf_0 rfl (lv_at hl 0 rfl) ?_
  refine lv_iconst (v := 0) hx hb dX8_isShelf_1 (by decide) ?_
  refine lv_iconst (v := 3) hx hb dX8_isShelf_2 (by decide) ?_
  obtain ⟨o_1, ho_1, hf⟩ := ht_bn_ob hf
  refine ht_callSi (r := o_1) (rest := []) (As := [.int p0, .int (0 : Int32), .int (3 : Int32)]) (wc := []) (wr := []) (w1 := []) (w2 := []) hF (ctX8_within l D K p0 (0 : Int32) (3 : Int32) o_1 ho_1 H.size) (va_cwS 3 hts gX8_isShelf_X8_within rfl rfl rfl hdX8_within ⟨Nat.le_of_ble_eq_true rfl, Nat.le_of_ble_eq_true rfl⟩) hK hP hD hS hA [] [] rfl rfl (by decide) (by decide) (by decide) [] rfl (by decide) rfl hl.1 rfl (Nat.le_of_ble_eq_true rfl) dX8_isShelf_3 ⟨Nat.zero_le _, Nat.zero_le _⟩ (fun H locs hP hD hS => ?_)
  obtain ⟨g_2, hf⟩ := ht_gd_ob hf
  have ho := Option.some.inj hf
  subst ho; subst hQ
  exact ht_iret hx hb hr hlk (ht_bz_nar g_2) hK hP hD hS dX8_isShelf_6
abbrev rmX8_isUnder : Room := { frames := 0, cells := 0, slots := 0, locals := 0 }
theorem hdX8_isUnder : yX8_isUnder.cls ≠ "java/lang/invoke/MethodHandle" ∧ yX8_isUnder.cls ≠ "java/lang/invoke/VarHandle" ∧ (parseMethodDescriptor yX8_isUnder.desc).map (fun d => d.parameters.length) = some 2 := by decide +kernel
def fX8_isUnder_b31 : Option Int32 := some (1 : Int32)
def fX8_isUnder_b21 (x0 : Int32) (x1 : Int32) : Option Int32 := if x1 = (2 : Int32) then (if x0 = (4 : Int32) then (fX8_isUnder_b31 ) else (some (0 : Int32))) else (some (0 : Int32))
def fX8_isUnder (p0 : Int32) (p1 : Int32) : Option Int32 := if p1 = 0 then (some (1 : Int32)) else (if p1 = p0 then (some (1 : Int32)) else (if p1 = (1 : Int32) then (if p0 = (3 : Int32) then (fX8_isUnder_b31 ) else (fX8_isUnder_b21 p0 p1)) else (fX8_isUnder_b21 p0 p1)))
set_option maxHeartbeats 1000000 in
set_option maxRecDepth 100000 in
theorem ctX8_isUnder (l : Launch) (D : va_G) (K : Nat → ClassId)  (p0 : Int32) (p1 : Int32) (o : Int32) (hf : fX8_isUnder p0 p1 = some o) (sz : Nat) : Met l yX8_isUnder wsX8_isUnder rmX8_isUnder (ht_Pre D K [.int p0, .int p1] [] sz) (ht_Qi D K [] o (va_A [] sz)) 0 0 (va_A [] sz) := by
  refine ht_enter (Qf := ht_Qi D K [] o) (cc := cX8_isUnder) (maxL := 2) (rt := (some .boolean)) (by decide) rfl (Nat.le_of_ble_eq_true rfl) ?_ sz
  intro p e s m below meth c A Q H locs ls hQ hx hb hr hlk hmn hml hown hts hA hK hP hD hS hl
  have hown : s.vm.findClass RX8 = some m.cls := hown
  have hF : CallFix p m c cX8_isUnder 2 s ([.int p0, .int p1] : List Value).toArray wsX8_isUnder RX8 := ⟨hx, hb, hml, hown, hts⟩
  have hl : lv_has ls 2 [(0, .int p0), (1, .int p1)] := hl
  have b31 : ∀ (H : Heap) (locs : List Loc) (ls : Array Slot), fX8_isUnder_b31  = some o → va_P D vwCl [] H → va_D A [] → va_S A s.heap H locs → lv_has ls 2 [] → W p l e (headSpec wsX8_isUnder rmX8_isUnder).room s m ([.int p0, .int p1] : List Value).toArray below meth c H locs 0 0 Q (F0 m 31 ls []) := by
    intro  H locs ls hf hP hD hS hl
    delta fX8_isUnder_b31 at hf
    refine lv_iconst (v := 1) hx hb dX8_isUnder_31 (by decide) ?_
    refine lv_goto (tgt := 36) hx hb dX8_isUnder_32 (by decide) ?_
    have ho := Option.some.inj hf
    subst ho; subst hQ
    exact ht_iret hx hb hr hlk (show narrow .boolean (.int (1 : Int32)) = .int (1 : Int32) from rfl) hK hP hD hS dX8_isUnder_36
  have b21 : ∀ (x0 : Int32) (x1 : Int32) (H : Heap) (locs : List Loc) (ls : Array Slot), fX8_isUnder_b21 x0 x1 = some o → va_P D vwCl [] H → va_D A [] → va_S A s.heap H locs → lv_has ls 2 [(0, .int x0), (1, .int x1)] → W p l e (headSpec wsX8_isUnder rmX8_isUnder).room s m ([.int p0, .int p1] : List Value).toArray below meth c H locs 0 0 Q (F0 m 21 ls []) := by
    intro x0 x1 H locs ls hf hP hD hS hl
    delta fX8_isUnder_b21 at hf
    refine lv_iload_n hx hb dX8_isUnder_21 rfl (lv_at hl 1 rfl) ?_
    refine lv_iconst (v := 2) hx hb dX8_isUnder_22 (by decide) ?_
    refine lv_icmp_ne (tgt := 35) hx hb dX8_isUnder_23 (by decide) (fun c_1 => ?_) (fun c_1 => ?_)
    · replace hf := ht_f c_1 hf
      refine lv_iconst (v := 0) hx hb dX8_isUnder_35 (by decide) ?_
      have ho := Option.some.inj hf
      subst ho; subst hQ
      exact ht_iret hx hb hr hlk (show narrow .boolean (.int (0 : Int32)) = .int (0 : Int32) from rfl) hK hP hD hS dX8_isUnder_36
    · replace hf := ht_t c_1 hf
      refine lv_iload_n hx hb dX8_isUnder_26 rfl (lv_at hl 0 rfl) ?_
      refine lv_iconst (v := 4) hx hb dX8_isUnder_27 (by decide) ?_
      refine lv_icmp_ne (tgt := 35) hx hb dX8_isUnder_28 (by decide) (fun c_2 => ?_) (fun c_2 => ?_)
      · replace hf := ht_f c_2 hf
        refine lv_iconst (v := 0) hx hb dX8_isUnder_35 (by decide) ?_
        have ho := Option.some.inj hf
        subst ho; subst hQ
        exact ht_iret hx hb hr hlk (show narrow .boolean (.int (0 : Int32)) = .int (0 : Int32) from rfl) hK hP hD hS dX8_isUnder_36
      · replace hf := ht_t c_2 hf
        exact b31  _ _ _ hf hP hD hS (lv_sub hl [] rfl)
  delta fX8_isUnder at hf
  refine lv_iload_n hx hb dX8_isUnder_0 rfl (lv_at hl 1 rfl) ?_
  refine lv_if_eq (tgt := 9) hx hb dX8_isUnder_1 (by decide) (fun c_3 => ?_) (fun c_3 => ?_)
  · replace hf := ht_t c_3 hf
    refine lv_iconst (v := 1) hx hb dX8_isUnder_9 (by decide) ?_
    have ho := Option.some.inj hf
    subst ho; subst hQ
    exact ht_iret hx hb hr hlk (show narrow .boolean (.int (1 : Int32)) = .int (1 : Int32) from rfl) hK hP hD hS dX8_isUnder_10
  · replace hf := ht_f c_3 hf
    refine lv_iload_n hx hb dX8_isUnder_4 rfl (lv_at hl 1 rfl) ?_
    refine lv_iload_n hx hb dX8_isUnder_5 rfl (lv_at hl 0 rfl) ?_
    refine lv_icmp_ne (tgt := 11) hx hb dX8_isUnder_6 (by decide) (fun c_4 => ?_) (fun c_4 => ?_)
    · replace hf := ht_f c_4 hf
      refine lv_iload_n hx hb dX8_isUnder_11 rfl (lv_at hl 1 rfl) ?_
      refine lv_iconst (v := 1) hx hb dX8_isUnder_12 (by decide) ?_
      refine lv_icmp_ne (tgt := 21) hx hb dX8_isUnder_13 (by decide) (fun c_5 => ?_) (fun c_5 => ?_)
      · replace hf := ht_f c_5 hf
        exact b21  p0 p1 _ _ _ hf hP hD hS hl
      · replace hf := ht_t c_5 hf
        refine lv_iload_n hx hb dX8_isUnder_16 rfl (lv_at hl 0 rfl) ?_
        refine lv_iconst (v := 3) hx hb dX8_isUnder_17 (by decide) ?_
        refine lv_icmp_eq (tgt := 31) hx hb dX8_isUnder_18 (by decide) (fun c_6 => ?_) (fun c_6 => ?_)
        · replace hf := ht_t c_6 hf
          exact b31  _ _ _ hf hP hD hS (lv_sub hl [] rfl)
        · replace hf := ht_f c_6 hf
          exact b21  p0 p1 _ _ _ hf hP hD hS hl
    · replace hf := ht_t c_4 hf
      refine lv_iconst (v := 1) hx hb dX8_isUnder_9 (by decide) ?_
      have ho := Option.some.inj hf
      subst ho; subst hQ
      exact ht_iret hx hb hr hlk (show narrow .boolean (.int (1 : Int32)) = .int (1 : Int32) from rfl) hK hP hD hS dX8_isUnder_10
abbrev rmX8_power : Room := { frames := 0, cells := 0, slots := 0, locals := 0 }
theorem hdX8_power : yX8_power.cls ≠ "java/lang/invoke/MethodHandle" ∧ yX8_power.cls ≠ "java/lang/invoke/VarHandle" ∧ (parseMethodDescriptor yX8_power.desc).map (fun d => d.parameters.length) = some 2 := by decide +kernel
def fX8_power_b21 (x3 : Int64) : Option Int64 := some x3
def fX8_power_b5 (k5 : Int64 → Int32 → Int64 → Int32 → Option Int64) (x0 : Int64) (x2 : Int32) (x3 : Int64) (x5 : Int32) : Option Int64 := if x2 ≤ x5 then (fX8_power_b21 x3) else (ht_nm (x3 * x0) (fun x3_2 => ht_nm (x5 + (1 : Int32)) (fun x5_3 => k5 x0 x2 x3_2 x5_3)))
def fX8_power (p0 : Int64) (p1 : Int32) : Option Int64 := ht_lp4 (fX8_power_b5) FU p0 p1 (1 : Int64) (0 : Int32)
set_option maxHeartbeats 1000000 in
set_option maxRecDepth 100000 in
theorem ctX8_power (l : Launch) (D : va_G) (K : Nat → ClassId)  (p0 : Int64) (p1 : Int32) (o : Int64) (hf : fX8_power p0 p1 = some o) (sz : Nat) : Met l yX8_power wsX8_power rmX8_power (ht_Pre D K [.long p0, .int p1] [] sz) (ht_Ql D K [] o (va_A [] sz)) 0 0 (va_A [] sz) := by
  refine ht_enter (Qf := ht_Ql D K [] o) (cc := cX8_power) (maxL := 6) (rt := (some .long)) (by decide) rfl (Nat.le_of_ble_eq_true rfl) ?_ sz
  intro p e s m below meth c A Q H locs ls hQ hx hb hr hlk hmn hml hown hts hA hK hP hD hS hl
  have hown : s.vm.findClass RX8 = some m.cls := hown
  have hF : CallFix p m c cX8_power 6 s ([.long p0, .int p1] : List Value).toArray wsX8_power RX8 := ⟨hx, hb, hml, hown, hts⟩
  have hl : lv_has ls 6 [(0, .long p0), (2, .int p1)] := hl
  have b21 : ∀ (x3 : Int64) (H : Heap) (locs : List Loc) (ls : Array Slot), fX8_power_b21 x3 = some o → va_P D vwCl [] H → va_D A [] → va_S A s.heap H locs → lv_has ls 6 [(3, .long x3)] → W p l e (headSpec wsX8_power rmX8_power).room s m ([.long p0, .int p1] : List Value).toArray below meth c H locs 0 0 Q (F0 m 21 ls []) := by
    intro x3 H locs ls hf hP hD hS hl
    delta fX8_power_b21 at hf
    refine lv_lload_n hx hb dX8_power_21 rfl (lv_at hl 0 rfl) ?_
    have ho := Option.some.inj hf
    subst ho; subst hQ
    exact ht_lret hx hb hr hlk hK hP hD hS dX8_power_22
  have b5 : ∀ (n : Nat) (x0 : Int64) (x2 : Int32) (x3 : Int64) (x5 : Int32) (H : Heap) (locs : List Loc) (ls : Array Slot), ht_lp4 (fX8_power_b5) n x0 x2 x3 x5 = some o → va_P D vwCl [] H → va_D A [] → va_S A s.heap H locs → lv_has ls 6 [(0, .long x0), (2, .int x2), (3, .long x3), (5, .int x5)] → W p l e (headSpec wsX8_power rmX8_power).room s m ([.long p0, .int p1] : List Value).toArray below meth c H locs 0 0 Q (F0 m 5 ls []) := by
    intro n
    induction n with
    | zero =>
      intro x0 x2 x3 x5 H locs ls hf hP hD hS hl
      cases (show (none : Option Int64) = some o from hf)
    | succ n hk5 =>
      intro x0 x2 x3 x5 H locs ls hf hP hD hS hl
      replace hf : fX8_power_b5 (ht_lp4 (fX8_power_b5) n) x0 x2 x3 x5 = some o := hf
      delta fX8_power_b5 at hf
      refine lv_iload hx hb dX8_power_5 (lv_at hl 3 rfl) ?_
      refine lv_iload_n hx hb dX8_power_7 rfl (lv_at hl 1 rfl) ?_
      refine lv_icmp_ge (tgt := 21) hx hb dX8_power_8 (by decide) (fun c_1 => ?_) (fun c_1 => ?_)
      · replace hf := ht_t c_1 hf
        exact b21  x3 _ _ _ hf hP hD hS (lv_sub hl [2] rfl)
      · replace hf := ht_f c_1 hf
        refine lv_lload_n hx hb dX8_power_11 rfl (lv_at hl 2 rfl) ?_
        refine lv_lload_n hx hb dX8_power_12 rfl (lv_at hl 0 rfl) ?_
        refine lv_lmul hx hb dX8_power_13 ?_
        obtain ⟨x3_2, ex3_2, hf⟩ := ht_nm_ob hf
        rw [← ex3_2]
        refine lv_lstore_n (lv' := [(3, .long x3_2), (0, .long x0), (2, .int x2), (5, .int x5)]) hx hb dX8_power_14 rfl hl (by decide) rfl (fun ls hl => ?_)
        obtain ⟨x5_3, ex5_3, hf⟩ := ht_nm_ob hf
        refine lv_iinc (v := x5_3) (lv' := [(5, .int x5_3), (3, .long x3_2), (0, .long x0), (2, .int x2)]) hx hb dX8_power_15 hl (k := 3) rfl (by rw [ex5_3]; rfl) (by decide) rfl (fun ls hl => ?_)
        refine lv_goto (tgt := 5) hx hb dX8_power_18 (by decide) ?_
        exact hk5 x0 x2 x3_2 x5_3 _ _ _ hf hP hD hS (lv_sub hl [2, 3, 1, 0] rfl)
  delta fX8_power at hf
  refine lv_lconst (v := 1) hx hb dX8_power_0 (by decide) ?_
  refine lv_lstore_n (lv' := [(3, .long (1 : Int64)), (0, .long p0), (2, .int p1)]) hx hb dX8_power_1 rfl hl (by decide) rfl (fun ls hl => ?_)
  refine lv_iconst (v := 0) hx hb dX8_power_2 (by decide) ?_
  refine lv_istore (lv' := [(5, .int (0 : Int32)), (3, .long (1 : Int64)), (0, .long p0), (2, .int p1)]) hx hb dX8_power_3 hl (by decide) rfl (fun ls hl => ?_)
  exact b5  FU p0 p1 (1 : Int64) (0 : Int32) _ _ _ hf hP hD hS (lv_sub hl [2, 3, 1, 0] rfl)
abbrev rmX8_waysToDraw : Room := { frames := 0, cells := 0, slots := 0, locals := 0 }
theorem hdX8_waysToDraw : yX8_waysToDraw.cls ≠ "java/lang/invoke/MethodHandle" ∧ yX8_waysToDraw.cls ≠ "java/lang/invoke/VarHandle" ∧ (parseMethodDescriptor yX8_waysToDraw.desc).map (fun d => d.parameters.length) = some 2 := by decide +kernel
def fX8_waysToDraw_b31 (x2 : Int64) : Option Int64 := some x2
def fX8_waysToDraw_b5 (k5 : Int32 → Int32 → Int64 → Int32 → Option Int64) (x0 : Int32) (x1 : Int32) (x2 : Int64) (x4 : Int32) : Option Int64 := if x1 < x4 then (fX8_waysToDraw_b31 x2) else (ht_gd (ht_nzL x4.toInt64) (ht_nm ((x2 * ((x0 - x1) + x4).toInt64) / x4.toInt64) (fun x2_3 => ht_nm (x4 + (1 : Int32)) (fun x4_4 => k5 x0 x1 x2_3 x4_4))))
def fX8_waysToDraw (p0 : Int32) (p1 : Int32) : Option Int64 := ht_lp4 (fX8_waysToDraw_b5) FU p0 p1 (1 : Int64) (1 : Int32)
set_option maxHeartbeats 1000000 in
set_option maxRecDepth 100000 in
theorem ctX8_waysToDraw (l : Launch) (D : va_G) (K : Nat → ClassId)  (p0 : Int32) (p1 : Int32) (o : Int64) (hf : fX8_waysToDraw p0 p1 = some o) (sz : Nat) : Met l yX8_waysToDraw wsX8_waysToDraw rmX8_waysToDraw (ht_Pre D K [.int p0, .int p1] [] sz) (ht_Ql D K [] o (va_A [] sz)) 0 0 (va_A [] sz) := by
  refine ht_enter (Qf := ht_Ql D K [] o) (cc := cX8_waysToDraw) (maxL := 5) (rt := (some .long)) (by decide) rfl (Nat.le_of_ble_eq_true rfl) ?_ sz
  intro p e s m below meth c A Q H locs ls hQ hx hb hr hlk hmn hml hown hts hA hK hP hD hS hl
  have hown : s.vm.findClass RX8 = some m.cls := hown
  have hF : CallFix p m c cX8_waysToDraw 5 s ([.int p0, .int p1] : List Value).toArray wsX8_waysToDraw RX8 := ⟨hx, hb, hml, hown, hts⟩
  have hl : lv_has ls 5 [(0, .int p0), (1, .int p1)] := hl
  have b31 : ∀ (x2 : Int64) (H : Heap) (locs : List Loc) (ls : Array Slot), fX8_waysToDraw_b31 x2 = some o → va_P D vwCl [] H → va_D A [] → va_S A s.heap H locs → lv_has ls 5 [(2, .long x2)] → W p l e (headSpec wsX8_waysToDraw rmX8_waysToDraw).room s m ([.int p0, .int p1] : List Value).toArray below meth c H locs 0 0 Q (F0 m 31 ls []) := by
    intro x2 H locs ls hf hP hD hS hl
    delta fX8_waysToDraw_b31 at hf
    refine lv_lload_n hx hb dX8_waysToDraw_31 rfl (lv_at hl 0 rfl) ?_
    have ho := Option.some.inj hf
    subst ho; subst hQ
    exact ht_lret hx hb hr hlk hK hP hD hS dX8_waysToDraw_32
  have b5 : ∀ (n : Nat) (x0 : Int32) (x1 : Int32) (x2 : Int64) (x4 : Int32) (H : Heap) (locs : List Loc) (ls : Array Slot), ht_lp4 (fX8_waysToDraw_b5) n x0 x1 x2 x4 = some o → va_P D vwCl [] H → va_D A [] → va_S A s.heap H locs → lv_has ls 5 [(0, .int x0), (1, .int x1), (2, .long x2), (4, .int x4)] → W p l e (headSpec wsX8_waysToDraw rmX8_waysToDraw).room s m ([.int p0, .int p1] : List Value).toArray below meth c H locs 0 0 Q (F0 m 5 ls []) := by
    intro n
    induction n with
    | zero =>
      intro x0 x1 x2 x4 H locs ls hf hP hD hS hl
      cases (show (none : Option Int64) = some o from hf)
    | succ n hk5 =>
      intro x0 x1 x2 x4 H locs ls hf hP hD hS hl
      replace hf : fX8_waysToDraw_b5 (ht_lp4 (fX8_waysToDraw_b5) n) x0 x1 x2 x4 = some o := hf
      delta fX8_waysToDraw_b5 at hf
      refine lv_iload hx hb dX8_waysToDraw_5 (lv_at hl 3 rfl) ?_
      refine lv_iload_n hx hb dX8_waysToDraw_7 rfl (lv_at hl 1 rfl) ?_
      refine lv_icmp_gt (tgt := 31) hx hb dX8_waysToDraw_8 (by decide) (fun c_1 => ?_) (fun c_1 => ?_)
      · replace hf := ht_t c_1 hf
        exact b31  x2 _ _ _ hf hP hD hS (lv_sub hl [2] rfl)
      · replace hf := ht_f c_1 hf
        refine lv_lload_n hx hb dX8_waysToDraw_11 rfl (lv_at hl 2 rfl) ?_
        refine lv_iload_n hx hb dX8_waysToDraw_12 rfl (lv_at hl 0 rfl) ?_
        refine lv_iload_n hx hb dX8_waysToDraw_13 rfl (lv_at hl 1 rfl) ?_
        refine lv_isub hx hb dX8_waysToDraw_14 ?_
        refine lv_iload hx hb dX8_waysToDraw_15 (lv_at hl 3 rfl) ?_
        refine lv_iadd hx hb dX8_waysToDraw_17 ?_
        refine lv_i2l hx hb dX8_waysToDraw_18 rfl ?_
        refine lv_lmul hx hb dX8_waysToDraw_19 ?_
        refine lv_iload hx hb dX8_waysToDraw_20 (lv_at hl 3 rfl) ?_
        refine lv_i2l hx hb dX8_waysToDraw_22 rfl ?_
        obtain ⟨g_2, hf⟩ := ht_gd_ob hf
        refine lv_ldiv hx hb dX8_waysToDraw_23 (ht_nzL_ne g_2) ?_
        obtain ⟨x2_3, ex2_3, hf⟩ := ht_nm_ob hf
        rw [← ex2_3]
        refine lv_lstore_n (lv' := [(2, .long x2_3), (0, .int x0), (1, .int x1), (4, .int x4)]) hx hb dX8_waysToDraw_24 rfl hl (by decide) rfl (fun ls hl => ?_)
        obtain ⟨x4_4, ex4_4, hf⟩ := ht_nm_ob hf
        refine lv_iinc (v := x4_4) (lv' := [(4, .int x4_4), (2, .long x2_3), (0, .int x0), (1, .int x1)]) hx hb dX8_waysToDraw_25 hl (k := 3) rfl (by rw [ex4_4]; rfl) (by decide) rfl (fun ls hl => ?_)
        refine lv_goto (tgt := 5) hx hb dX8_waysToDraw_28 (by decide) ?_
        exact hk5 x0 x1 x2_3 x4_4 _ _ _ hf hP hD hS (lv_sub hl [2, 3, 1, 0] rfl)
  delta fX8_waysToDraw at hf
  refine lv_lconst (v := 1) hx hb dX8_waysToDraw_0 (by decide) ?_
  refine lv_lstore_n (lv' := [(2, .long (1 : Int64)), (0, .int p0), (1, .int p1)]) hx hb dX8_waysToDraw_1 rfl hl (by decide) rfl (fun ls hl => ?_)
  refine lv_iconst (v := 1) hx hb dX8_waysToDraw_2 (by decide) ?_
  refine lv_istore (lv' := [(4, .int (1 : Int32)), (2, .long (1 : Int64)), (0, .int p0), (1, .int p1)]) hx hb dX8_waysToDraw_3 hl (by decide) rfl (fun ls hl => ?_)
  exact b5  FU p0 p1 (1 : Int64) (1 : Int32) _ _ _ hf hP hD hS (lv_sub hl [2, 3, 1, 0] rfl)
abbrev rmX8_commonDivisor : Room := { frames := 0, cells := 0, slots := 0, locals := 0 }
theorem hdX8_commonDivisor : yX8_commonDivisor.cls ≠ "java/lang/invoke/MethodHandle" ∧ yX8_commonDivisor.cls ≠ "java/lang/invoke/VarHandle" ∧ (parseMethodDescriptor yX8_commonDivisor.desc).map (fun d => d.parameters.length) = some 2 := by decide +kernel
def fX8_commonDivisor_b44 (x4 : Int64) : Option Int64 := some x4
def fX8_commonDivisor_b9 (k9 : Int64 → Int64 → Int32 → Option Int64) (x4 : Int64) (x6 : Int64) (x8 : Int32) : Option Int64 := if (100 : Int32) ≤ x8 then (fX8_commonDivisor_b44 x4) else (if (lg_cmp x6 (0 : Int64)) = 0 then (fX8_commonDivisor_b44 x4) else (ht_gd (ht_nzL x6) (ht_nm (x4 - x4 / x6 * x6) (fun x9_4 => ht_nm (x8 + (1 : Int32)) (fun x8_5 => k9 x6 x9_4 x8_5)))))
def fX8_commonDivisor (p0 : Int64) (p1 : Int64) : Option Int64 := ht_lp3 (fX8_commonDivisor_b9) FU p0 p1 (0 : Int32)
set_option maxHeartbeats 1000000 in
set_option maxRecDepth 100000 in
theorem ctX8_commonDivisor (l : Launch) (D : va_G) (K : Nat → ClassId)  (p0 : Int64) (p1 : Int64) (o : Int64) (hf : fX8_commonDivisor p0 p1 = some o) (sz : Nat) : Met l yX8_commonDivisor wsX8_commonDivisor rmX8_commonDivisor (ht_Pre D K [.long p0, .long p1] [] sz) (ht_Ql D K [] o (va_A [] sz)) 0 0 (va_A [] sz) := by
  refine ht_enter (Qf := ht_Ql D K [] o) (cc := cX8_commonDivisor) (maxL := 11) (rt := (some .long)) (by decide) rfl (Nat.le_of_ble_eq_true rfl) ?_ sz
  intro p e s m below meth c A Q H locs ls hQ hx hb hr hlk hmn hml hown hts hA hK hP hD hS hl
  have hown : s.vm.findClass RX8 = some m.cls := hown
  have hF : CallFix p m c cX8_commonDivisor 11 s ([.long p0, .long p1] : List Value).toArray wsX8_commonDivisor RX8 := ⟨hx, hb, hml, hown, hts⟩
  have hl : lv_has ls 11 [(0, .long p0), (2, .long p1)] := hl
  have b44 : ∀ (x4 : Int64) (H : Heap) (locs : List Loc) (ls : Array Slot), fX8_commonDivisor_b44 x4 = some o → va_P D vwCl [] H → va_D A [] → va_S A s.heap H locs → lv_has ls 11 [(4, .long x4)] → W p l e (headSpec wsX8_commonDivisor rmX8_commonDivisor).room s m ([.long p0, .long p1] : List Value).toArray below meth c H locs 0 0 Q (F0 m 44 ls []) := by
    intro x4 H locs ls hf hP hD hS hl
    delta fX8_commonDivisor_b44 at hf
    refine lv_lload hx hb dX8_commonDivisor_44 (lv_at hl 0 rfl) ?_
    have ho := Option.some.inj hf
    subst ho; subst hQ
    exact ht_lret hx hb hr hlk hK hP hD hS dX8_commonDivisor_46
  have b9 : ∀ (n : Nat) (x4 : Int64) (x6 : Int64) (x8 : Int32) (H : Heap) (locs : List Loc) (ls : Array Slot), ht_lp3 (fX8_commonDivisor_b9) n x4 x6 x8 = some o → va_P D vwCl [] H → va_D A [] → va_S A s.heap H locs → lv_has ls 11 [(4, .long x4), (6, .long x6), (8, .int x8)] → W p l e (headSpec wsX8_commonDivisor rmX8_commonDivisor).room s m ([.long p0, .long p1] : List Value).toArray below meth c H locs 0 0 Q (F0 m 9 ls []) := by
    intro n
    induction n with
    | zero =>
      intro x4 x6 x8 H locs ls hf hP hD hS hl
      cases (show (none : Option Int64) = some o from hf)
    | succ n hk9 =>
      intro x4 x6 x8 H locs ls hf hP hD hS hl
      replace hf : fX8_commonDivisor_b9 (ht_lp3 (fX8_commonDivisor_b9) n) x4 x6 x8 = some o := hf
      delta fX8_commonDivisor_b9 at hf
      refine lv_iload hx hb dX8_commonDivisor_9 (lv_at hl 2 rfl) ?_
      refine lv_bipush (v := 100) hx hb dX8_commonDivisor_11 (by decide) ?_
      refine lv_icmp_ge (tgt := 44) hx hb dX8_commonDivisor_13 (by decide) (fun c_1 => ?_) (fun c_1 => ?_)
      · replace hf := ht_t c_1 hf
        exact b44  x4 _ _ _ hf hP hD hS (lv_sub hl [0] rfl)
      · replace hf := ht_f c_1 hf
        refine lv_lload hx hb dX8_commonDivisor_16 (lv_at hl 1 rfl) ?_
        refine lv_lconst (v := 0) hx hb dX8_commonDivisor_18 (by decide) ?_
        refine W.lcmp hx hb dX8_commonDivisor_19 ?_
        refine lv_if_eq (tgt := 44) hx hb dX8_commonDivisor_20 (by decide) (fun c_2 => ?_) (fun c_2 => ?_)
        · replace hf := ht_t c_2 hf
          exact b44  x4 _ _ _ hf hP hD hS (lv_sub hl [0] rfl)
        · replace hf := ht_f c_2 hf
          refine lv_lload hx hb dX8_commonDivisor_23 (lv_at hl 0 rfl) ?_
          refine lv_lload hx hb dX8_commonDivisor_25 (lv_at hl 1 rfl) ?_
          obtain ⟨g_3, hf⟩ := ht_gd_ob hf
          refine lv_lrem hx hb dX8_commonDivisor_27 (ht_nzL_ne g_3) ?_
          obtain ⟨x9_4, ex9_4, hf⟩ := ht_nm_ob hf
          rw [← ex9_4]
          refine lv_lstore (lv' := [(9, .long x9_4), (4, .long x4), (6, .long x6), (8, .int x8)]) hx hb dX8_commonDivisor_28 hl (by decide) rfl (fun ls hl => ?_)
          refine lv_lload hx hb dX8_commonDivisor_30 (lv_at hl 2 rfl) ?_
          refine lv_lstore (lv' := [(4, .long x6), (9, .long x9_4), (6, .long x6), (8, .int x8)]) hx hb dX8_commonDivisor_32 hl (by decide) rfl (fun ls hl => ?_)
          refine lv_lload hx hb dX8_commonDivisor_34 (lv_at hl 1 rfl) ?_
          refine lv_lstore (lv' := [(6, .long x9_4), (4, .long x6), (9, .long x9_4), (8, .int x8)]) hx hb dX8_commonDivisor_36 hl (by decide) rfl (fun ls hl => ?_)
          obtain ⟨x8_5, ex8_5, hf⟩ := ht_nm_ob hf
          refine lv_iinc (v := x8_5) (lv' := [(8, .int x8_5), (6, .long x9_4), (4, .long x6), (9, .long x9_4)]) hx hb dX8_commonDivisor_38 hl (k := 3) rfl (by rw [ex8_5]; rfl) (by decide) rfl (fun ls hl => ?_)
          refine lv_goto (tgt := 9) hx hb dX8_commonDivisor_41 (by decide) ?_
          exact hk9 x6 x9_4 x8_5 _ _ _ hf hP hD hS (lv_sub hl [2, 1, 0] rfl)
  delta fX8_commonDivisor at hf
  refine lv_lload_n hx hb dX8_commonDivisor_0 rfl (lv_at hl 0 rfl) ?_
  refine lv_lstore (lv' := [(4, .long p0), (0, .long p0), (2, .long p1)]) hx hb dX8_commonDivisor_1 hl (by decide) rfl (fun ls hl => ?_)
  refine lv_lload_n hx hb dX8_commonDivisor_3 rfl (lv_at hl 2 rfl) ?_
  refine lv_lstore (lv' := [(6, .long p1), (4, .long p0), (0, .long p0), (2, .long p1)]) hx hb dX8_commonDivisor_4 hl (by decide) rfl (fun ls hl => ?_)
  refine lv_iconst (v := 0) hx hb dX8_commonDivisor_6 (by decide) ?_
  refine lv_istore (lv' := [(8, .int (0 : Int32)), (6, .long p1), (4, .long p0), (0, .long p0), (2, .long p1)]) hx hb dX8_commonDivisor_7 hl (by decide) rfl (fun ls hl => ?_)
  exact b9  FU p0 p1 (0 : Int32) _ _ _ hf hP hD hS (lv_sub hl [2, 1, 0] rfl)
abbrev rmX8_partOf : Room := { frames := 1, cells := 0, slots := 0, locals := 30 }
theorem hdX8_partOf : yX8_partOf.cls ≠ "java/lang/invoke/MethodHandle" ∧ yX8_partOf.cls ≠ "java/lang/invoke/VarHandle" ∧ (parseMethodDescriptor yX8_partOf.desc).map (fun d => d.parameters.length) = some 3 := by decide +kernel
def fX8_partOf_b26 (x5 : Int64) (t0 : Int64) : Option Int64 := ht_gd (ht_nzL x5) (some (t0 / x5))
def fX8_partOf (p0 : Int64) (p1 : Int64) (p2 : Int32) : Option Int64 := ht_bn (fX8_commonDivisor p0 p1) (fun o_2 => if (lg_cmp o_2 (0 : Int64)) = 0 then (some (0 : Int64)) else (if p2 = 0 then (fX8_partOf_b26 o_2 p0) else (fX8_partOf_b26 o_2 p1)))
set_option maxHeartbeats 1000000 in
set_option maxRecDepth 100000 in
theorem ctX8_partOf (l : Launch) (D : va_G) (K : Nat → ClassId)  (p0 : Int64) (p1 : Int64) (p2 : Int32) (o : Int64) (hf : fX8_partOf p0 p1 p2 = some o) (sz : Nat) : Met l yX8_partOf wsX8_partOf rmX8_partOf (ht_Pre D K [.long p0, .long p1, .int p2] [] sz) (ht_Ql D K [] o (va_A [] sz)) 0 0 (va_A [] sz) := by
  refine ht_enter (Qf := ht_Ql D K [] o) (cc := cX8_partOf) (maxL := 7) (rt := (some .long)) (by decide) rfl (Nat.le_of_ble_eq_true rfl) ?_ sz
  intro p e s m below meth c A Q H locs ls hQ hx hb hr hlk hmn hml hown hts hA hK hP hD hS hl
  have hown : s.vm.findClass RX8 = some m.cls := hown
  have hF : CallFix p m c cX8_partOf 7 s ([.long p0, .long p1, .int p2] : List Value).toArray wsX8_partOf RX8 := ⟨hx, hb, hml, hown, hts⟩
  have hl : lv_has ls 7 [(0, .long p0), (2, .long p1), (4, .int p2)] := hl
  have b26 : ∀ (x5 : Int64) (t0 : Int64) (H : Heap) (locs : List Loc) (ls : Array Slot), fX8_partOf_b26 x5 t0 = some o → va_P D vwCl [] H → va_D A [] → va_S A s.heap H locs → lv_has ls 7 [(5, .long x5)] → W p l e (headSpec wsX8_partOf rmX8_partOf).room s m ([.long p0, .long p1, .int p2] : List Value).toArray below meth c H locs 0 0 Q (F0 m 26 ls [.long t0]) := by
    intro x5 t0 H locs ls hf hP hD hS hl
    delta fX8_partOf_b26 at hf
    refine lv_lload hx hb dX8_partOf_26 (lv_at hl 0 rfl) ?_
    obtain ⟨g_1, hf⟩ := ht_gd_ob hf
    refine lv_ldiv hx hb dX8_partOf_28 (ht_nzL_ne g_1) ?_
    have ho := Option.some.inj hf
    subst ho; subst hQ
    exact ht_lret hx hb hr hlk hK hP hD hS dX8_partOf_29
  delta fX8_partOf at hf
  refine lv_lload_n hx hb dX8_partOf_0 rfl (lv_at hl 0 rfl) ?_
  refine lv_lload_n hx hb dX8_partOf_1 rfl (lv_at hl 1 rfl) ?_
  obtain ⟨o_2, ho_2, hf⟩ := ht_bn_ob hf
  refine ht_callSl (r := o_2) (rest := []) (As := [.long p0, .long p1]) (wc := []) (wr := []) (w1 := []) (w2 := []) hF (ctX8_commonDivisor l D K p0 p1 o_2 ho_2 H.size) (va_cwS 2 hts gX8_partOf_X8_commonDivisor rfl rfl rfl hdX8_commonDivisor ⟨Nat.le_of_ble_eq_true rfl, Nat.le_of_ble_eq_true rfl⟩) hK hP hD hS hA [] [] rfl rfl (by decide) (by decide) (by decide) [] rfl (by decide) rfl hl.1 rfl (Nat.le_of_ble_eq_true rfl) dX8_partOf_2 ⟨Nat.zero_le _, Nat.zero_le _⟩ (fun H locs hP hD hS => ?_)
  refine lv_lstore (lv' := [(5, .long o_2), (0, .long p0), (2, .long p1), (4, .int p2)]) hx hb dX8_partOf_5 hl (by decide) rfl (fun ls hl => ?_)
  refine lv_lload hx hb dX8_partOf_7 (lv_at hl 0 rfl) ?_
  refine lv_lconst (v := 0) hx hb dX8_partOf_9 (by decide) ?_
  refine W.lcmp hx hb dX8_partOf_10 ?_
  refine lv_if_ne (tgt := 16) hx hb dX8_partOf_11 (by decide) (fun c_3 => ?_) (fun c_3 => ?_)
  · replace hf := ht_f c_3 hf
    refine lv_iload hx hb dX8_partOf_16 (lv_at hl 3 rfl) ?_
    refine lv_if_ne (tgt := 25) hx hb dX8_partOf_18 (by decide) (fun c_4 => ?_) (fun c_4 => ?_)
    · replace hf := ht_f c_4 hf
      refine lv_lload_n hx hb dX8_partOf_25 rfl (lv_at hl 2 rfl) ?_
      exact b26  o_2 p1 _ _ _ hf hP hD hS (lv_sub hl [0] rfl)
    · replace hf := ht_t c_4 hf
      refine lv_lload_n hx hb dX8_partOf_21 rfl (lv_at hl 1 rfl) ?_
      refine lv_goto (tgt := 26) hx hb dX8_partOf_22 (by decide) ?_
      exact b26  o_2 p0 _ _ _ hf hP hD hS (lv_sub hl [0] rfl)
  · replace hf := ht_t c_3 hf
    refine lv_lconst (v := 0) hx hb dX8_partOf_14 (by decide) ?_
    have ho := Option.some.inj hf
    subst ho; subst hQ
    exact ht_lret hx hb hr hlk hK hP hD hS dX8_partOf_15
