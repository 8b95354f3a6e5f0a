abbrev rmX5_isLetter : Room := { frames := 0, cells := 0, slots := 0, locals := 0 }
theorem hdX5_isLetter : yX5_isLetter.cls ≠ "java/lang/invoke/MethodHandle" ∧ yX5_isLetter.cls ≠ "java/lang/invoke/VarHandle" ∧ (parseMethodDescriptor yX5_isLetter.desc).map (fun d => d.parameters.length) = some 1 := by decide +kernel
def fX5_isLetter (p0 : Int32) : Option Int32 := if p0 < (97 : Int32) then (some (0 : Int32)) else (if (122 : Int32) < p0 then (some (0 : Int32)) else (some (1 : Int32)))
set_option maxHeartbeats 1000000 in
set_option maxRecDepth 100000 in
theorem ctX5_isLetter (l : Launch) (D : va_G) (K : Nat → ClassId)  (p0 : Int32) (o : Int32) (hf : fX5_isLetter p0 = some o) (sz : Nat) : Met l yX5_isLetter wsX5_isLetter rmX5_isLetter (ht_Pre D K [.int p0] [] sz) (ht_Qi D K [] o (va_A [] sz)) 0 0 (va_A [] sz) := by
  refine ht_enter (Qf := ht_Qi D K [] o) (cc := cX5_isLetter) (maxL := 1) (rt := (some .boolean)) (by decide) rfl (Nat.le_of_ble_eq_true rfl) ?_ sz
  intro p e s m below meth c A Q H locs ls hQ hx hb hr hlk hmn hml hown hts hA hK hP hD hS hl
  have hown : s.vm.findClass RX5 = some m.cls := hown
  have hF : CallFix p m c cX5_isLetter 1 s ([.int p0] : List Value).toArray wsX5_isLetter RX5 := ⟨hx, hb, hml, hown, hts⟩
  have hl : lv_has ls 1 [(0, .int p0)] := hl
  delta fX5_isLetter at hf
  refine lv_iload_n hx hb dX5_isLetter_0 rfl (lv_at hl 0 rfl) ?_
  refine lv_bipush (v := 97) hx hb dX5_isLetter_1 (by decide) ?_
  refine lv_icmp_lt (tgt := 16) hx hb dX5_isLetter_3 (by decide) (fun c_1 => ?_) (fun c_1 => ?_)
  · replace hf := ht_t c_1 hf
    refine lv_iconst (v := 0) hx hb dX5_isLetter_16 (by decide) ?_
    have ho := Option.some.inj hf
    subst ho; subst hQ
    exact ht_iret hx hb hr hlk (show narrow .boolean (.int (0 : Int32)) = .int (0 : Int32) from rfl) hK hP hD hS dX5_isLetter_17
  · replace hf := ht_f c_1 hf
    refine lv_iload_n hx hb dX5_isLetter_6 rfl (lv_at hl 0 rfl) ?_
    refine lv_bipush (v := 122) hx hb dX5_isLetter_7 (by decide) ?_
    refine lv_icmp_gt (tgt := 16) hx hb dX5_isLetter_9 (by decide) (fun c_2 => ?_) (fun c_2 => ?_)
    · replace hf := ht_t c_2 hf
      refine lv_iconst (v := 0) hx hb dX5_isLetter_16 (by decide) ?_
      have ho := Option.some.inj hf
      subst ho; subst hQ
      exact ht_iret hx hb hr hlk (show narrow .boolean (.int (0 : Int32)) = .int (0 : Int32) from rfl) hK hP hD hS dX5_isLetter_17
    · replace hf := ht_f c_2 hf
      refine lv_iconst (v := 1) hx hb dX5_isLetter_12 (by decide) ?_
      refine lv_goto (tgt := 17) hx hb dX5_isLetter_13 (by decide) ?_
      have ho := Option.some.inj hf
      subst ho; subst hQ
      exact ht_iret hx hb hr hlk (show narrow .boolean (.int (1 : Int32)) = .int (1 : Int32) from rfl) hK hP hD hS dX5_isLetter_17
abbrev rmX5_isDigit : Room := { frames := 0, cells := 0, slots := 0, locals := 0 }
theorem hdX5_isDigit : yX5_isDigit.cls ≠ "java/lang/invoke/MethodHandle" ∧ yX5_isDigit.cls ≠ "java/lang/invoke/VarHandle" ∧ (parseMethodDescriptor yX5_isDigit.desc).map (fun d => d.parameters.length) = some 1 := by decide +kernel
def fX5_isDigit (p0 : Int32) : Option Int32 := if p0 < (48 : Int32) then (some (0 : Int32)) else (if (57 : Int32) < p0 then (some (0 : Int32)) else (some (1 : Int32)))
set_option maxHeartbeats 1000000 in
set_option maxRecDepth 100000 in
theorem ctX5_isDigit (l : Launch) (D : va_G) (K : Nat → ClassId)  (p0 : Int32) (o : Int32) (hf : fX5_isDigit p0 = some o) (sz : Nat) : Met l yX5_isDigit wsX5_isDigit rmX5_isDigit (ht_Pre D K [.int p0] [] sz) (ht_Qi D K [] o (va_A [] sz)) 0 0 (va_A [] sz) := by
  refine ht_enter (Qf := ht_Qi D K [] o) (cc := cX5_isDigit) (maxL := 1) (rt := (some .boolean)) (by decide) rfl (Nat.le_of_ble_eq_true rfl) ?_ sz
  intro p e s m below meth c A Q H locs ls hQ hx hb hr hlk hmn hml hown hts hA hK hP hD hS hl
  have hown : s.vm.findClass RX5 = some m.cls := hown
  have hF : CallFix p m c cX5_isDigit 1 s ([.int p0] : List Value).toArray wsX5_isDigit RX5 := ⟨hx, hb, hml, hown, hts⟩
  have hl : lv_has ls 1 [(0, .int p0)] := hl
  delta fX5_isDigit at hf
  refine lv_iload_n hx hb dX5_isDigit_0 rfl (lv_at hl 0 rfl) ?_
  refine lv_bipush (v := 48) hx hb dX5_isDigit_1 (by decide) ?_
  refine lv_icmp_lt (tgt := 16) hx hb dX5_isDigit_3 (by decide) (fun c_1 => ?_) (fun c_1 => ?_)
  · replace hf := ht_t c_1 hf
    refine lv_iconst (v := 0) hx hb dX5_isDigit_16 (by decide) ?_
    have ho := Option.some.inj hf
    subst ho; subst hQ
    exact ht_iret hx hb hr hlk (show narrow .boolean (.int (0 : Int32)) = .int (0 : Int32) from rfl) hK hP hD hS dX5_isDigit_17
  · replace hf := ht_f c_1 hf
    refine lv_iload_n hx hb dX5_isDigit_6 rfl (lv_at hl 0 rfl) ?_
    refine lv_bipush (v := 57) hx hb dX5_isDigit_7 (by decide) ?_
    refine lv_icmp_gt (tgt := 16) hx hb dX5_isDigit_9 (by decide) (fun c_2 => ?_) (fun c_2 => ?_)
    · replace hf := ht_t c_2 hf
      refine lv_iconst (v := 0) hx hb dX5_isDigit_16 (by decide) ?_
      have ho := Option.some.inj hf
      subst ho; subst hQ
      exact ht_iret hx hb hr hlk (show narrow .boolean (.int (0 : Int32)) = .int (0 : Int32) from rfl) hK hP hD hS dX5_isDigit_17
    · replace hf := ht_f c_2 hf
      refine lv_iconst (v := 1) hx hb dX5_isDigit_12 (by decide) ?_
      refine lv_goto (tgt := 17) hx hb dX5_isDigit_13 (by decide) ?_
      have ho := Option.some.inj hf
      subst ho; subst hQ
      exact ht_iret hx hb hr hlk (show narrow .boolean (.int (1 : Int32)) = .int (1 : Int32) from rfl) hK hP hD hS dX5_isDigit_17
abbrev rmX5_readAhead : Room := { frames := 1, cells := 0, slots := 0, locals := 20 }
theorem hdX5_readAhead : yX5_readAhead.cls = RX5 ∧ yX5_readAhead.cls ≠ "java/lang/invoke/MethodHandle" ∧ yX5_readAhead.cls ≠ "java/lang/invoke/VarHandle" ∧ (parseMethodDescriptor yX5_readAhead.desc).map (fun d => d.parameters.length) = some 0 := by decide +kernel
def fX5_readAhead_b255 (RJ : TellV) (RA : TapeV) (k170 : Int32 → Int32 → Int32 → Int32 → Option (Int32 × Int32 × Int32 × Int32)) (t1 : Int32) (vJ_place : Int32) (vJ_sort : Int32) (vJ_value : Int32) (vJ_start : Int32) : Option (Int32 × Int32 × Int32 × Int32) := ht_nm (vJ_place + (1 : Int32)) (fun vJ_place_1 => k170 vJ_place_1 vJ_sort t1 vJ_start)
def fX5_readAhead_b220 (RJ : TellV) (RA : TapeV) (k170 : Int32 → Int32 → Int32 → Int32 → Option (Int32 × Int32 × Int32 × Int32)) (t0 : Int32) (vJ_place : Int32) (vJ_sort : Int32) (vJ_value : Int32) (vJ_start : Int32) : Option (Int32 × Int32 × Int32 × Int32) := if t0 = 0 then (ht_gd (ht_ix vJ_place 200) (fX5_readAhead_b255 RJ RA k170 ((vJ_value * (10 : Int32)) + ((RA.bytes vJ_place.toNatClampNeg) - (48 : Int32))) vJ_place vJ_sort vJ_value vJ_start)) else (fX5_readAhead_b255 RJ RA k170 (1000 : Int32) vJ_place vJ_sort vJ_value vJ_start)
def fX5_readAhead_b170 (RJ : TellV) (RA : TapeV) (k170 : Int32 → Int32 → Int32 → Int32 → Option (Int32 × Int32 × Int32 × Int32)) (vJ_place : Int32) (vJ_sort : Int32) (vJ_value : Int32) (vJ_start : Int32) : Option (Int32 × Int32 × Int32 × Int32) := if RA.length ≤ vJ_place then (some (vJ_place, vJ_sort, vJ_value, vJ_start)) else (ht_gd (ht_ix vJ_place 200) (ht_bn (fX5_isDigit (RA.bytes vJ_place.toNatClampNeg)) (fun o_6 => if o_6 = 0 then (some (vJ_place, vJ_sort, vJ_value, vJ_start)) else (if (vJ_place - vJ_start) < (3 : Int32) then (fX5_readAhead_b220 RJ RA k170 (0 : Int32) vJ_place vJ_sort vJ_value vJ_start) else (fX5_readAhead_b220 RJ RA k170 (1 : Int32) vJ_place vJ_sort vJ_value vJ_start)))))
def fX5_readAhead_b97 (RJ : TellV) (RA : TapeV) (k97 : Int32 → Int32 → Int32 → Int32 → Option (Int32 × Int32 × Int32 × Int32)) (vJ_place : Int32) (vJ_sort : Int32) (vJ_value : Int32) (vJ_start : Int32) : Option (Int32 × Int32 × Int32 × Int32) := if RA.length ≤ vJ_place then (some (vJ_place, vJ_sort, vJ_value, vJ_start)) else (ht_gd (ht_ix vJ_place 200) (ht_bn (fX5_isLetter (RA.bytes vJ_place.toNatClampNeg)) (fun o_11 => if o_11 = 0 then (some (vJ_place, vJ_sort, vJ_value, vJ_start)) else (ht_nm (vJ_place + (1 : Int32)) (fun vJ_place_13 => k97 vJ_place_13 vJ_sort vJ_value vJ_start)))))
def fX5_readAhead_b44 (RJ : TellV) (RA : TapeV) (vJ_place : Int32) (vJ_sort : Int32) (vJ_value : Int32) (vJ_start : Int32) : Option (Int32 × Int32 × Int32 × Int32) := if vJ_place < RA.length then (ht_gd (ht_ix vJ_place 200) (ht_bn (fX5_isLetter (RA.bytes vJ_place.toNatClampNeg)) (fun o_16 => if o_16 = 0 then (ht_gd (ht_ix vJ_place 200) (ht_bn (fX5_isDigit (RA.bytes vJ_place.toNatClampNeg)) (fun o_19 => if o_19 = 0 then (ht_nm (vJ_place + (1 : Int32)) (fun vJ_place_21 => some (vJ_place_21, (3 : Int32), vJ_value, vJ_place))) else (ht_lp4 (fX5_readAhead_b170 RJ RA) FU vJ_place (2 : Int32) (0 : Int32) vJ_place)))) else (ht_lp4 (fX5_readAhead_b97 RJ RA) FU vJ_place (1 : Int32) vJ_value vJ_place)))) else (some (vJ_place, (0 : Int32), vJ_value, vJ_place))
def fX5_readAhead_b0 (RJ : TellV) (RA : TapeV) (k0 : Int32 → Int32 → Int32 → Int32 → Option (Int32 × Int32 × Int32 × Int32)) (vJ_place : Int32) (vJ_sort : Int32) (vJ_value : Int32) (vJ_start : Int32) : Option (Int32 × Int32 × Int32 × Int32) := if RA.length ≤ vJ_place then (fX5_readAhead_b44 RJ RA vJ_place vJ_sort vJ_value vJ_start) else (ht_gd (ht_ix vJ_place 200) (if (RA.bytes vJ_place.toNatClampNeg) = (32 : Int32) then (ht_nm (vJ_place + (1 : Int32)) (fun vJ_place_25 => k0 vJ_place_25 vJ_sort vJ_value vJ_start)) else (fX5_readAhead_b44 RJ RA vJ_place vJ_sort vJ_value vJ_start)))
def fX5_readAhead (RJ : TellV) (RA : TapeV) : Option (Int32 × Int32 × Int32 × Int32) := ht_lp4 (fX5_readAhead_b0 RJ RA) FU RJ.place RJ.sort RJ.value RJ.start
set_option maxHeartbeats 1000000 in
set_option maxRecDepth 100000 in
theorem ctX5_readAhead (l : Launch) (D : va_G) (K : Nat → ClassId) (jJ : Nat) (jA : Nat) (aA : Nat → Nat) (kJ_told : Nat) (RJ : TellV) (RA : TapeV) (o : (Int32 × Int32 × Int32 × Int32)) (hf : fX5_readAhead RJ RA = some o) (sz : Nat) : Met l yX5_readAhead wsX5_readAhead rmX5_readAhead (ht_Pre D K [.ref jJ] (wTe K jJ jA kJ_told RJ.place RJ.sort RJ.value RJ.start ++ (wTa K jA aA RA.bytes RA.length)) sz) (ht_Qv D K (wTe K jJ jA kJ_told o.1 o.2.1 o.2.2.1 o.2.2.2 ++ (wTa K jA aA RA.bytes RA.length)) (va_A (wTe K jJ jA kJ_told RJ.place RJ.sort RJ.value RJ.start ++ (wTa K jA aA RA.bytes RA.length)) sz)) 0 0 (va_A (wTe K jJ jA kJ_told RJ.place RJ.sort RJ.value RJ.start ++ (wTa K jA aA RA.bytes RA.length)) sz) := by
  refine ht_enter (Qf := ht_Qv D K (wTe K jJ jA kJ_told o.1 o.2.1 o.2.2.1 o.2.2.2 ++ (wTa K jA aA RA.bytes RA.length))) (cc := cX5_readAhead) (maxL := 2) (rt := none) (by decide) rfl (Nat.le_of_ble_eq_true rfl) ?_ sz
  intro p e s m below meth c A Q H locs ls hQ hx hb hr hlk hmn hml hown hts hA hK hP hD hS hl
  have hown : s.vm.findClass RX5 = some m.cls := hown
  have hF : CallFix p m c cX5_readAhead 2 s ([.ref jJ] : List Value).toArray wsX5_readAhead RX5 := ⟨hx, hb, hml, hown, hts⟩
  have hl : lv_has ls 2 [(0, .ref jJ)] := hl
  have iw5 : ∀ w ∈ u_ws RX5 TX5 6, w ∈ wsX5_readAhead := by decide +kernel
  have kw1 := hts (.fieldLink RX5 88 "HeldTongues$Telling" "value" "I") (by decide +kernel)
  have kw2 := hts (.fieldLink RX5 19 "HeldTongues$Telling" "place" "I") (by decide +kernel)
  have kw3 := hts (.fieldLink RX5 9 "HeldTongues$Telling" "tape" "LHeldTongues$Tape;") (by decide +kernel)
  have iw4 : ∀ w ∈ u_ws RX4 TX4 2, w ∈ wsX5_readAhead := by decide +kernel
  have kw5 := hts (.fieldLink RX5 95 "HeldTongues$Tape" "bytes" "[B") (by decide +kernel)
  have kw6 := hts (.fieldLink RX5 133 "HeldTongues$Tape" "length" "I") (by decide +kernel)
  have kw7 := hts (.fieldLink RX5 101 "HeldTongues$Telling" "start" "I") (by decide +kernel)
  have kw8 := hts (.fieldLink RX5 26 "HeldTongues$Telling" "sort" "I") (by decide +kernel)
  have b255 : ∀ (k170 : Int32 → Int32 → Int32 → Int32 → Option (Int32 × Int32 × Int32 × Int32)) (hk170 : ∀ (vJ_place : Int32) (vJ_sort : Int32) (vJ_value : Int32) (vJ_start : Int32) (H : Heap) (locs : List Loc) (ls : Array Slot), k170 vJ_place vJ_sort vJ_value vJ_start = some o → va_P D vwCl (wTe K jJ jA kJ_told vJ_place vJ_sort vJ_value vJ_start ++ (wTa K jA aA RA.bytes RA.length)) H → va_D A (wTe K jJ jA kJ_told vJ_place vJ_sort vJ_value vJ_start ++ (wTa K jA aA RA.bytes RA.length)) → va_S A s.heap H locs → lv_has ls 2 [(0, .ref jJ)] → W p l e (headSpec wsX5_readAhead rmX5_readAhead).room s m ([.ref jJ] : List Value).toArray below meth c H locs 0 0 Q (F0 m 170 ls [])) (t1 : Int32) (vJ_place : Int32) (vJ_sort : Int32) (vJ_value : Int32) (vJ_start : Int32) (H : Heap) (locs : List Loc) (ls : Array Slot), fX5_readAhead_b255 RJ RA k170 t1 vJ_place vJ_sort vJ_value vJ_start = some o → va_P D vwCl (wTe K jJ jA kJ_told vJ_place vJ_sort vJ_value vJ_start ++ (wTa K jA aA RA.bytes RA.length)) H → va_D A (wTe K jJ jA kJ_told vJ_place vJ_sort vJ_value vJ_start ++ (wTa K jA aA RA.bytes RA.length)) → va_S A s.heap H locs → lv_has ls 2 [(0, .ref jJ)] → W p l e (headSpec wsX5_readAhead rmX5_readAhead).room s m ([.ref jJ] : List Value).toArray below meth c H locs 0 0 Q (F0 m 255 ls [.int t1, .ref jJ]) := by
    intro k170 hk170 t1 vJ_place vJ_sort vJ_value vJ_start H locs ls hf hP hD hS hl
    delta fX5_readAhead_b255 at hf
    refine ht_put (ci := 5) (v := .int t1) (ty := .int) (C := RX5) (T := TX5) (N := 6) (w2 := (wTe K jJ jA kJ_told vJ_place vJ_sort t1 vJ_start ++ (wTa K jA aA RA.bytes RA.length))) hx hb hts iw5 tyX5 tyX5_ok nmX5 hown hK hP hD hS 0 rfl rfl 4 (by decide) kw1 (fun _ h9 => h9) rfl (by decide +kernel) rfl rfl (Nat.le_of_ble_eq_true rfl) dX5_readAhead_255 rfl (fun H locs hP hD hS => ?_)
    refine lv_aload_n hx hb dX5_readAhead_258 rfl (lv_at hl 0 rfl) ?_
    refine lv_dup hx hb dX5_readAhead_259 rfl ?_
    refine va_get (D := D) (ci := 5) (v := .int vJ_place) (C := RX5) (T := TX5) (N := 6) hx hb hts iw5 hown hK hP 0 rfl rfl 2 (by decide) kw2 (fun _ h9 => h9) rfl dX5_readAhead_260 ?_
    refine lv_iconst (v := 1) hx hb dX5_readAhead_263 (by decide) ?_
    refine lv_iadd hx hb dX5_readAhead_264 ?_
    obtain ⟨vJ_place_1, evJ_place_1, hf⟩ := ht_nm_ob hf
    rw [← evJ_place_1]
    refine ht_put (ci := 5) (v := .int vJ_place_1) (ty := .int) (C := RX5) (T := TX5) (N := 6) (w2 := (wTe K jJ jA kJ_told vJ_place_1 vJ_sort t1 vJ_start ++ (wTa K jA aA RA.bytes RA.length))) hx hb hts iw5 tyX5 tyX5_ok nmX5 hown hK hP hD hS 0 rfl rfl 2 (by decide) kw2 (fun _ h9 => h9) rfl (by decide +kernel) rfl rfl (Nat.le_of_ble_eq_true rfl) dX5_readAhead_265 rfl (fun H locs hP hD hS => ?_)
    refine lv_goto (tgt := 170) hx hb dX5_readAhead_268 (by decide) ?_
    exact hk170 vJ_place_1 vJ_sort t1 vJ_start _ _ _ hf hP hD hS hl
  have b220 : ∀ (k170 : Int32 → Int32 → Int32 → Int32 → Option (Int32 × Int32 × Int32 × Int32)) (hk170 : ∀ (vJ_place : Int32) (vJ_sort : Int32) (vJ_value : Int32) (vJ_start : Int32) (H : Heap) (locs : List Loc) (ls : Array Slot), k170 vJ_place vJ_sort vJ_value vJ_start = some o → va_P D vwCl (wTe K jJ jA kJ_told vJ_place vJ_sort vJ_value vJ_start ++ (wTa K jA aA RA.bytes RA.length)) H → va_D A (wTe K jJ jA kJ_told vJ_place vJ_sort vJ_value vJ_start ++ (wTa K jA aA RA.bytes RA.length)) → va_S A s.heap H locs → lv_has ls 2 [(0, .ref jJ)] → W p l e (headSpec wsX5_readAhead rmX5_readAhead).room s m ([.ref jJ] : List Value).toArray below meth c H locs 0 0 Q (F0 m 170 ls [])) (t0 : Int32) (vJ_place : Int32) (vJ_sort : Int32) (vJ_value : Int32) (vJ_start : Int32) (H : Heap) (locs : List Loc) (ls : Array Slot), fX5_readAhead_b220 RJ RA k170 t0 vJ_place vJ_sort vJ_value vJ_start = some o → va_P D vwCl (wTe K jJ jA kJ_told vJ_place vJ_sort vJ_value vJ_start ++ (wTa K jA aA RA.bytes RA.length)) H → va_D A (wTe K jJ jA kJ_told vJ_place vJ_sort vJ_value vJ_start ++ (wTa K jA aA RA.bytes RA.length)) → va_S A s.heap H locs → lv_has ls 2 [(0, .ref jJ)] → W p l e (headSpec wsX5_readAhead rmX5_readAhead).room s m ([.ref jJ] : List Value).toArray below meth c H locs 0 0 Q (F0 m 220 ls [.int t0]) := by
    intro k170 hk170 t0 vJ_place vJ_sort vJ_value vJ_start H locs ls hf hP hD hS hl
    delta fX5_readAhead_b220 at hf
    refine lv_istore_n (lv' := [(1, .int t0), (0, .ref jJ)]) hx hb dX5_readAhead_220 rfl hl (by decide) rfl (fun ls hl => ?_)
    refine lv_aload_n hx hb dX5_readAhead_221 rfl (lv_at hl 1 rfl) ?_
    refine lv_iload_n hx hb dX5_readAhead_222 rfl (lv_at hl 0 rfl) ?_
    refine lv_if_eq (tgt := 232) hx hb dX5_readAhead_223 (by decide) (fun c_2 => ?_) (fun c_2 => ?_)
    · replace hf := ht_t c_2 hf
      refine lv_aload_n hx hb dX5_readAhead_232 rfl (lv_at hl 1 rfl) ?_
      refine va_get (D := D) (ci := 5) (v := .int vJ_value) (C := RX5) (T := TX5) (N := 6) hx hb hts iw5 hown hK hP 0 rfl rfl 4 (by decide) kw1 (fun _ h9 => h9) rfl dX5_readAhead_233 ?_
      refine lv_bipush (v := 10) hx hb dX5_readAhead_236 (by decide) ?_
      refine lv_imul hx hb dX5_readAhead_238 ?_
      refine lv_aload_n hx hb dX5_readAhead_239 rfl (lv_at hl 1 rfl) ?_
      refine va_get (D := D) (ci := 5) (v := .ref jA) (C := RX5) (T := TX5) (N := 6) hx hb hts iw5 hown hK hP 0 rfl rfl 0 (by decide) kw3 (fun _ h9 => h9) rfl dX5_readAhead_240 ?_
      refine va_get (D := D) (ci := 4) (v := .ref (aA 0)) (C := RX4) (T := TX4) (N := 2) hx hb hts iw4 hown hK hP 1 rfl rfl 0 (by decide) kw5 (fun _ h9 => h9) rfl dX5_readAhead_243 ?_
      refine lv_aload_n hx hb dX5_readAhead_246 rfl (lv_at hl 1 rfl) ?_
      refine va_get (D := D) (ci := 5) (v := .int vJ_place) (C := RX5) (T := TX5) (N := 6) hx hb hts iw5 hown hK hP 0 rfl rfl 2 (by decide) kw2 (fun _ h9 => h9) rfl dX5_readAhead_247 ?_
      obtain ⟨g_3, hf⟩ := ht_gd_ob hf
      refine va_bald hx hb hK hP 2 0 rfl rfl (ht_ix_in g_3) dX5_readAhead_250 ?_
      refine lv_bipush (v := 48) hx hb dX5_readAhead_251 (by decide) ?_
      refine lv_isub hx hb dX5_readAhead_253 ?_
      refine lv_iadd hx hb dX5_readAhead_254 ?_
      exact b255 _ hk170 ((vJ_value * (10 : Int32)) + ((RA.bytes vJ_place.toNatClampNeg) - (48 : Int32))) vJ_place vJ_sort vJ_value vJ_start _ _ _ hf hP hD hS (lv_sub hl [1] rfl)
    · replace hf := ht_f c_2 hf
      refine lv_sipush (v := 1000) hx hb dX5_readAhead_226 (by decide) ?_
      refine lv_goto (tgt := 255) hx hb dX5_readAhead_229 (by decide) ?_
      exact b255 _ hk170 (1000 : Int32) vJ_place vJ_sort vJ_value vJ_start _ _ _ hf hP hD hS (lv_sub hl [1] rfl)
  have b170 : ∀ (n : Nat) (vJ_place : Int32) (vJ_sort : Int32) (vJ_value : Int32) (vJ_start : Int32) (H : Heap) (locs : List Loc) (ls : Array Slot), ht_lp4 (fX5_readAhead_b170 RJ RA) n vJ_place vJ_sort vJ_value vJ_start = some o → va_P D vwCl (wTe K jJ jA kJ_told vJ_place vJ_sort vJ_value vJ_start ++ (wTa K jA aA RA.bytes RA.length)) H → va_D A (wTe K jJ jA kJ_told vJ_place vJ_sort vJ_value vJ_start ++ (wTa K jA aA RA.bytes RA.length)) → va_S A s.heap H locs → lv_has ls 2 [(0, .ref jJ)] → W p l e (headSpec wsX5_readAhead rmX5_readAhead).room s m ([.ref jJ] : List Value).toArray below meth c H locs 0 0 Q (F0 m 170 ls []) := by
    intro n
    induction n with
    | zero =>
      intro vJ_place vJ_sort vJ_value vJ_start H locs ls hf hP hD hS hl
      cases (show (none : Option (Int32 × Int32 × Int32 × Int32)) = some o from hf)
    | succ n hk170 =>
      intro vJ_place vJ_sort vJ_value vJ_start H locs ls hf hP hD hS hl
      replace hf : fX5_readAhead_b170 RJ RA (ht_lp4 (fX5_readAhead_b170 RJ RA) n) vJ_place vJ_sort vJ_value vJ_start = some o := hf
      delta fX5_readAhead_b170 at hf
      refine lv_aload_n hx hb dX5_readAhead_170 rfl (lv_at hl 0 rfl) ?_
      refine va_get (D := D) (ci := 5) (v := .int vJ_place) (C := RX5) (T := TX5) (N := 6) hx hb hts iw5 hown hK hP 0 rfl rfl 2 (by decide) kw2 (fun _ h9 => h9) rfl dX5_readAhead_171 ?_
      refine lv_aload_n hx hb dX5_readAhead_174 rfl (lv_at hl 0 rfl) ?_
      refine va_get (D := D) (ci := 5) (v := .ref jA) (C := RX5) (T := TX5) (N := 6) hx hb hts iw5 hown hK hP 0 rfl rfl 0 (by decide) kw3 (fun _ h9 => h9) rfl dX5_readAhead_175 ?_
      refine va_get (D := D) (ci := 4) (v := .int RA.length) (C := RX4) (T := TX4) (N := 2) hx hb hts iw4 hown hK hP 1 rfl rfl 1 (by decide) kw6 (fun _ h9 => h9) rfl dX5_readAhead_178 ?_
      refine lv_icmp_ge (tgt := 286) hx hb dX5_readAhead_181 (by decide) (fun c_4 => ?_) (fun c_4 => ?_)
      · replace hf := ht_t c_4 hf
        have ho := Option.some.inj hf
        subst ho; subst hQ
        exact ht_vret hx hb hr hlk hK hP hD hS dX5_readAhead_286
      · replace hf := ht_f c_4 hf
        refine lv_aload_n hx hb dX5_readAhead_184 rfl (lv_at hl 0 rfl) ?_
        refine va_get (D := D) (ci := 5) (v := .ref jA) (C := RX5) (T := TX5) (N := 6) hx hb hts iw5 hown hK hP 0 rfl rfl 0 (by decide) kw3 (fun _ h9 => h9) rfl dX5_readAhead_185 ?_
        refine va_get (D := D) (ci := 4) (v := .ref (aA 0)) (C := RX4) (T := TX4) (N := 2) hx hb hts iw4 hown hK hP 1 rfl rfl 0 (by decide) kw5 (fun _ h9 => h9) rfl dX5_readAhead_188 ?_
        refine lv_aload_n hx hb dX5_readAhead_191 rfl (lv_at hl 0 rfl) ?_
        refine va_get (D := D) (ci := 5) (v := .int vJ_place) (C := RX5) (T := TX5) (N := 6) hx hb hts iw5 hown hK hP 0 rfl rfl 2 (by decide) kw2 (fun _ h9 => h9) rfl dX5_readAhead_192 ?_
        obtain ⟨g_5, hf⟩ := ht_gd_ob hf
        refine va_bald hx hb hK hP 2 0 rfl rfl (ht_ix_in g_5) dX5_readAhead_195 ?_
        obtain ⟨o_6, ho_6, hf⟩ := ht_bn_ob hf
        refine ht_callSi (r := o_6) (rest := []) (As := [.int (RA.bytes vJ_place.toNatClampNeg)]) (wc := []) (wr := (wTe K jJ jA kJ_told vJ_place vJ_sort vJ_value vJ_start ++ (wTa K jA aA RA.bytes RA.length))) (w1 := []) (w2 := (wTe K jJ jA kJ_told vJ_place vJ_sort vJ_value vJ_start ++ (wTa K jA aA RA.bytes RA.length))) hF (ctX5_isDigit l D K (RA.bytes vJ_place.toNatClampNeg) o_6 ho_6 H.size) (va_cwS 1 hts gX5_readAhead_X5_isDigit rfl rfl rfl hdX5_isDigit ⟨Nat.le_of_ble_eq_true rfl, Nat.le_of_ble_eq_true rfl⟩) hK hP hD hS hA [] [0, 1, 2] rfl rfl (by decide) (by decide) (by decide) [0, 1, 2] rfl (by decide) rfl hl.1 rfl (Nat.le_of_ble_eq_true rfl) dX5_readAhead_196 ⟨Nat.zero_le _, Nat.zero_le _⟩ (fun H locs hP hD hS => ?_)
        refine lv_if_eq (tgt := 286) hx hb dX5_readAhead_199 (by decide) (fun c_7 => ?_) (fun c_7 => ?_)
        · replace hf := ht_t c_7 hf
          have ho := Option.some.inj hf
          subst ho; subst hQ
          exact ht_vret hx hb hr hlk hK hP hD hS dX5_readAhead_286
        · replace hf := ht_f c_7 hf
          refine lv_aload_n hx hb dX5_readAhead_202 rfl (lv_at hl 0 rfl) ?_
          refine va_get (D := D) (ci := 5) (v := .int vJ_place) (C := RX5) (T := TX5) (N := 6) hx hb hts iw5 hown hK hP 0 rfl rfl 2 (by decide) kw2 (fun _ h9 => h9) rfl dX5_readAhead_203 ?_
          refine lv_aload_n hx hb dX5_readAhead_206 rfl (lv_at hl 0 rfl) ?_
          refine va_get (D := D) (ci := 5) (v := .int vJ_start) (C := RX5) (T := TX5) (N := 6) hx hb hts iw5 hown hK hP 0 rfl rfl 5 (by decide) kw7 (fun _ h9 => h9) rfl dX5_readAhead_207 ?_
          refine lv_isub hx hb dX5_readAhead_210 ?_
          refine lv_iconst (v := 3) hx hb dX5_readAhead_211 (by decide) ?_
          refine lv_icmp_lt (tgt := 219) hx hb dX5_readAhead_212 (by decide) (fun c_8 => ?_) (fun c_8 => ?_)
          · replace hf := ht_t c_8 hf
            refine lv_iconst (v := 0) hx hb dX5_readAhead_219 (by decide) ?_
            exact b220 _ hk170 (0 : Int32) vJ_place vJ_sort vJ_value vJ_start _ _ _ hf hP hD hS hl
          · replace hf := ht_f c_8 hf
            refine lv_iconst (v := 1) hx hb dX5_readAhead_215 (by decide) ?_
            refine lv_goto (tgt := 220) hx hb dX5_readAhead_216 (by decide) ?_
            exact b220 _ hk170 (1 : Int32) vJ_place vJ_sort vJ_value vJ_start _ _ _ hf hP hD hS hl
  have b97 : ∀ (n : Nat) (vJ_place : Int32) (vJ_sort : Int32) (vJ_value : Int32) (vJ_start : Int32) (H : Heap) (locs : List Loc) (ls : Array Slot), ht_lp4 (fX5_readAhead_b97 RJ RA) n vJ_place vJ_sort vJ_value vJ_start = some o → va_P D vwCl (wTe K jJ jA kJ_told vJ_place vJ_sort vJ_value vJ_start ++ (wTa K jA aA RA.bytes RA.length)) H → va_D A (wTe K jJ jA kJ_told vJ_place vJ_sort vJ_value vJ_start ++ (wTa K jA aA RA.bytes RA.length)) → va_S A s.heap H locs → lv_has ls 2 [(0, .ref jJ)] → W p l e (headSpec wsX5_readAhead rmX5_readAhead).room s m ([.ref jJ] : List Value).toArray below meth c H locs 0 0 Q (F0 m 97 ls []) := by
    intro n
    induction n with
    | zero =>
      intro vJ_place vJ_sort vJ_value vJ_start H locs ls hf hP hD hS hl
      cases (show (none : Option (Int32 × Int32 × Int32 × Int32)) = some o from hf)
    | succ n hk97 =>
      intro vJ_place vJ_sort vJ_value vJ_start H locs ls hf hP hD hS hl
      replace hf : fX5_readAhead_b97 RJ RA (ht_lp4 (fX5_readAhead_b97 RJ RA) n) vJ_place vJ_sort vJ_value vJ_start = some o := hf
      delta fX5_readAhead_b97 at hf
      refine lv_aload_n hx hb dX5_readAhead_97 rfl (lv_at hl 0 rfl) ?_
      refine va_get (D := D) (ci := 5) (v := .int vJ_place) (C := RX5) (T := TX5) (N := 6) hx hb hts iw5 hown hK hP 0 rfl rfl 2 (by decide) kw2 (fun _ h9 => h9) rfl dX5_readAhead_98 ?_
      refine lv_aload_n hx hb dX5_readAhead_101 rfl (lv_at hl 0 rfl) ?_
      refine va_get (D := D) (ci := 5) (v := .ref jA) (C := RX5) (T := TX5) (N := 6) hx hb hts iw5 hown hK hP 0 rfl rfl 0 (by decide) kw3 (fun _ h9 => h9) rfl dX5_readAhead_102 ?_
      refine va_get (D := D) (ci := 4) (v := .int RA.length) (C := RX4) (T := TX4) (N := 2) hx hb hts iw4 hown hK hP 1 rfl rfl 1 (by decide) kw6 (fun _ h9 => h9) rfl dX5_readAhead_105 ?_
      refine lv_icmp_ge (tgt := 286) hx hb dX5_readAhead_108 (by decide) (fun c_9 => ?_) (fun c_9 => ?_)
      · replace hf := ht_t c_9 hf
        have ho := Option.some.inj hf
        subst ho; subst hQ
        exact ht_vret hx hb hr hlk hK hP hD hS dX5_readAhead_286
      · replace hf := ht_f c_9 hf
        refine lv_aload_n hx hb dX5_readAhead_111 rfl (lv_at hl 0 rfl) ?_
        refine va_get (D := D) (ci := 5) (v := .ref jA) (C := RX5) (T := TX5) (N := 6) hx hb hts iw5 hown hK hP 0 rfl rfl 0 (by decide) kw3 (fun _ h9 => h9) rfl dX5_readAhead_112 ?_
        refine va_get (D := D) (ci := 4) (v := .ref (aA 0)) (C := RX4) (T := TX4) (N := 2) hx hb hts iw4 hown hK hP 1 rfl rfl 0 (by decide) kw5 (fun _ h9 => h9) rfl dX5_readAhead_115 ?_
        refine lv_aload_n hx hb dX5_readAhead_118 rfl (lv_at hl 0 rfl) ?_
        refine va_get (D := D) (ci := 5) (v := .int vJ_place) (C := RX5) (T := TX5) (N := 6) hx hb hts iw5 hown hK hP 0 rfl rfl 2 (by decide) kw2 (fun _ h9 => h9) rfl dX5_readAhead_119 ?_
        obtain ⟨g_10, hf⟩ := ht_gd_ob hf
        refine va_bald hx hb hK hP 2 0 rfl rfl (ht_ix_in g_10) dX5_readAhead_122 ?_
        obtain ⟨o_11, ho_11, hf⟩ := ht_bn_ob hf
        refine ht_callSi (r := o_11) (rest := []) (As := [.int (RA.bytes vJ_place.toNatClampNeg)]) (wc := []) (wr := (wTe K jJ jA kJ_told vJ_place vJ_sort vJ_value vJ_start ++ (wTa K jA aA RA.bytes RA.length))) (w1 := []) (w2 := (wTe K jJ jA kJ_told vJ_place vJ_sort vJ_value vJ_start ++ (wTa K jA aA RA.bytes RA.length))) hF (ctX5_isLetter l D K (RA.bytes vJ_place.toNatClampNeg) o_11 ho_11 H.size) (va_cwS 1 hts gX5_readAhead_X5_isLetter rfl rfl rfl hdX5_isLetter ⟨Nat.le_of_ble_eq_true rfl, Nat.le_of_ble_eq_true rfl⟩) hK hP hD hS hA [] [0, 1, 2] rfl rfl (by decide) (by decide) (by decide) [0, 1, 2] rfl (by decide) rfl hl.1 rfl (Nat.le_of_ble_eq_true rfl) dX5_readAhead_123 ⟨Nat.zero_le _, Nat.zero_le _⟩ (fun H locs hP hD hS => ?_)
        refine lv_if_eq (tgt := 286) hx hb dX5_readAhead_126 (by decide) (fun c_12 => ?_) (fun c_12 => ?_)
        · replace hf := ht_t c_12 hf
          have ho := Option.some.inj hf
          subst ho; subst hQ
          exact ht_vret hx hb hr hlk hK hP hD hS dX5_readAhead_286
        · replace hf := ht_f c_12 hf
          refine lv_aload_n hx hb dX5_readAhead_129 rfl (lv_at hl 0 rfl) ?_
          refine lv_dup hx hb dX5_readAhead_130 rfl ?_
          refine va_get (D := D) (ci := 5) (v := .int vJ_place) (C := RX5) (T := TX5) (N := 6) hx hb hts iw5 hown hK hP 0 rfl rfl 2 (by decide) kw2 (fun _ h9 => h9) rfl dX5_readAhead_131 ?_
          refine lv_iconst (v := 1) hx hb dX5_readAhead_134 (by decide) ?_
          refine lv_iadd hx hb dX5_readAhead_135 ?_
          obtain ⟨vJ_place_13, evJ_place_13, hf⟩ := ht_nm_ob hf
          rw [← evJ_place_13]
          refine ht_put (ci := 5) (v := .int vJ_place_13) (ty := .int) (C := RX5) (T := TX5) (N := 6) (w2 := (wTe K jJ jA kJ_told vJ_place_13 vJ_sort vJ_value vJ_start ++ (wTa K jA aA RA.bytes RA.length))) hx hb hts iw5 tyX5 tyX5_ok nmX5 hown hK hP hD hS 0 rfl rfl 2 (by decide) kw2 (fun _ h9 => h9) rfl (by decide +kernel) rfl rfl (Nat.le_of_ble_eq_true rfl) dX5_readAhead_136 rfl (fun H locs hP hD hS => ?_)
          refine lv_goto (tgt := 97) hx hb dX5_readAhead_139 (by decide) ?_
          exact hk97 vJ_place_13 vJ_sort vJ_value vJ_start _ _ _ hf hP hD hS hl
  have b44 : ∀ (vJ_place : Int32) (vJ_sort : Int32) (vJ_value : Int32) (vJ_start : Int32) (H : Heap) (locs : List Loc) (ls : Array Slot), fX5_readAhead_b44 RJ RA vJ_place vJ_sort vJ_value vJ_start = some o → va_P D vwCl (wTe K jJ jA kJ_told vJ_place vJ_sort vJ_value vJ_start ++ (wTa K jA aA RA.bytes RA.length)) H → va_D A (wTe K jJ jA kJ_told vJ_place vJ_sort vJ_value vJ_start ++ (wTa K jA aA RA.bytes RA.length)) → va_S A s.heap H locs → lv_has ls 2 [(0, .ref jJ)] → W p l e (headSpec wsX5_readAhead rmX5_readAhead).room s m ([.ref jJ] : List Value).toArray below meth c H locs 0 0 Q (F0 m 44 ls []) := by
    intro vJ_place vJ_sort vJ_value vJ_start H locs ls hf hP hD hS hl
    delta fX5_readAhead_b44 at hf
    refine lv_aload_n hx hb dX5_readAhead_44 rfl (lv_at hl 0 rfl) ?_
    refine lv_aload_n hx hb dX5_readAhead_45 rfl (lv_at hl 0 rfl) ?_
    refine va_get (D := D) (ci := 5) (v := .int vJ_place) (C := RX5) (T := TX5) (N := 6) hx hb hts iw5 hown hK hP 0 rfl rfl 2 (by decide) kw2 (fun _ h9 => h9) rfl dX5_readAhead_46 ?_
    refine ht_put (ci := 5) (v := .int vJ_place) (ty := .int) (C := RX5) (T := TX5) (N := 6) (w2 := (wTe K jJ jA kJ_told vJ_place vJ_sort vJ_value vJ_place ++ (wTa K jA aA RA.bytes RA.length))) hx hb hts iw5 tyX5 tyX5_ok nmX5 hown hK hP hD hS 0 rfl rfl 5 (by decide) kw7 (fun _ h9 => h9) rfl (by decide +kernel) rfl rfl (Nat.le_of_ble_eq_true rfl) dX5_readAhead_49 rfl (fun H locs hP hD hS => ?_)
    refine lv_aload_n hx hb dX5_readAhead_52 rfl (lv_at hl 0 rfl) ?_
    refine va_get (D := D) (ci := 5) (v := .int vJ_place) (C := RX5) (T := TX5) (N := 6) hx hb hts iw5 hown hK hP 0 rfl rfl 2 (by decide) kw2 (fun _ h9 => h9) rfl dX5_readAhead_53 ?_
    refine lv_aload_n hx hb dX5_readAhead_56 rfl (lv_at hl 0 rfl) ?_
    refine va_get (D := D) (ci := 5) (v := .ref jA) (C := RX5) (T := TX5) (N := 6) hx hb hts iw5 hown hK hP 0 rfl rfl 0 (by decide) kw3 (fun _ h9 => h9) rfl dX5_readAhead_57 ?_
    refine va_get (D := D) (ci := 4) (v := .int RA.length) (C := RX4) (T := TX4) (N := 2) hx hb hts iw4 hown hK hP 1 rfl rfl 1 (by decide) kw6 (fun _ h9 => h9) rfl dX5_readAhead_60 ?_
    refine lv_icmp_lt (tgt := 74) hx hb dX5_readAhead_63 (by decide) (fun c_14 => ?_) (fun c_14 => ?_)
    · replace hf := ht_t c_14 hf
      refine lv_aload_n hx hb dX5_readAhead_74 rfl (lv_at hl 0 rfl) ?_
      refine va_get (D := D) (ci := 5) (v := .ref jA) (C := RX5) (T := TX5) (N := 6) hx hb hts iw5 hown hK hP 0 rfl rfl 0 (by decide) kw3 (fun _ h9 => h9) rfl dX5_readAhead_75 ?_
      refine va_get (D := D) (ci := 4) (v := .ref (aA 0)) (C := RX4) (T := TX4) (N := 2) hx hb hts iw4 hown hK hP 1 rfl rfl 0 (by decide) kw5 (fun _ h9 => h9) rfl dX5_readAhead_78 ?_
      refine lv_aload_n hx hb dX5_readAhead_81 rfl (lv_at hl 0 rfl) ?_
      refine va_get (D := D) (ci := 5) (v := .int vJ_place) (C := RX5) (T := TX5) (N := 6) hx hb hts iw5 hown hK hP 0 rfl rfl 2 (by decide) kw2 (fun _ h9 => h9) rfl dX5_readAhead_82 ?_
      obtain ⟨g_15, hf⟩ := ht_gd_ob hf
      refine va_bald hx hb hK hP 2 0 rfl rfl (ht_ix_in g_15) dX5_readAhead_85 ?_
      obtain ⟨o_16, ho_16, hf⟩ := ht_bn_ob hf
      refine ht_callSi (r := o_16) (rest := []) (As := [.int (RA.bytes vJ_place.toNatClampNeg)]) (wc := []) (wr := (wTe K jJ jA kJ_told vJ_place vJ_sort vJ_value vJ_place ++ (wTa K jA aA RA.bytes RA.length))) (w1 := []) (w2 := (wTe K jJ jA kJ_told vJ_place vJ_sort vJ_value vJ_place ++ (wTa K jA aA RA.bytes RA.length))) hF (ctX5_isLetter l D K (RA.bytes vJ_place.toNatClampNeg) o_16 ho_16 H.size) (va_cwS 1 hts gX5_readAhead_X5_isLetter rfl rfl rfl hdX5_isLetter ⟨Nat.le_of_ble_eq_true rfl, Nat.le_of_ble_eq_true rfl⟩) hK hP hD hS hA [] [0, 1, 2] rfl rfl (by decide) (by decide) (by decide) [0, 1, 2] rfl (by decide) rfl hl.1 rfl (Nat.le_of_ble_eq_true rfl) dX5_readAhead_86 ⟨Nat.zero_le _, Nat.zero_le _⟩ (fun H locs hP hD hS => ?_)
      refine lv_if_eq (tgt := 142) hx hb dX5_readAhead_89 (by decide) (fun c_17 => ?_) (fun c_17 => ?_)
      · replace hf := ht_t c_17 hf
        refine lv_aload_n hx hb dX5_readAhead_142 rfl (lv_at hl 0 rfl) ?_
        refine va_get (D := D) (ci := 5) (v := .ref jA) (C := RX5) (T := TX5) (N := 6) hx hb hts iw5 hown hK hP 0 rfl rfl 0 (by decide) kw3 (fun _ h9 => h9) rfl dX5_readAhead_143 ?_
        refine va_get (D := D) (ci := 4) (v := .ref (aA 0)) (C := RX4) (T := TX4) (N := 2) hx hb hts iw4 hown hK hP 1 rfl rfl 0 (by decide) kw5 (fun _ h9 => h9) rfl dX5_readAhead_146 ?_
        refine lv_aload_n hx hb dX5_readAhead_149 rfl (lv_at hl 0 rfl) ?_
        refine va_get (D := D) (ci := 5) (v := .int vJ_place) (C := RX5) (T := TX5) (N := 6) hx hb hts iw5 hown hK hP 0 rfl rfl 2 (by decide) kw2 (fun _ h9 => h9) rfl dX5_readAhead_150 ?_
        obtain ⟨g_18, hf⟩ := ht_gd_ob hf
        refine va_bald hx hb hK hP 2 0 rfl rfl (ht_ix_in g_18) dX5_readAhead_153 ?_
        obtain ⟨o_19, ho_19, hf⟩ := ht_bn_ob hf
        refine ht_callSi (r := o_19) (rest := []) (As := [.int (RA.bytes vJ_place.toNatClampNeg)]) (wc := []) (wr := (wTe K jJ jA kJ_told vJ_place vJ_sort vJ_value vJ_place ++ (wTa K jA aA RA.bytes RA.length))) (w1 := []) (w2 := (wTe K jJ jA kJ_told vJ_place vJ_sort vJ_value vJ_place ++ (wTa K jA aA RA.bytes RA.length))) hF (ctX5_isDigit l D K (RA.bytes vJ_place.toNatClampNeg) o_19 ho_19 H.size) (va_cwS 1 hts gX5_readAhead_X5_isDigit rfl rfl rfl hdX5_isDigit ⟨Nat.le_of_ble_eq_true rfl, Nat.le_of_ble_eq_true rfl⟩) hK hP hD hS hA [] [0, 1, 2] rfl rfl (by decide) (by decide) (by decide) [0, 1, 2] rfl (by decide) rfl hl.1 rfl (Nat.le_of_ble_eq_true rfl) dX5_readAhead_154 ⟨Nat.zero_le _, Nat.zero_le _⟩ (fun H locs hP hD hS => ?_)
        refine lv_if_eq (tgt := 271) hx hb dX5_readAhead_157 (by decide) (fun c_20 => ?_) (fun c_20 => ?_)
        · replace hf := ht_t c_20 hf
          refine lv_aload_n hx hb dX5_readAhead_271 rfl (lv_at hl 0 rfl) ?_
          refine lv_iconst (v := 3) hx hb dX5_readAhead_272 (by decide) ?_
          refine ht_put (ci := 5) (v := .int (3 : Int32)) (ty := .int) (C := RX5) (T := TX5) (N := 6) (w2 := (wTe K jJ jA kJ_told vJ_place (3 : Int32) vJ_value vJ_place ++ (wTa K jA aA RA.bytes RA.length))) hx hb hts iw5 tyX5 tyX5_ok nmX5 hown hK hP hD hS 0 rfl rfl 3 (by decide) kw8 (fun _ h9 => h9) rfl (by decide +kernel) rfl rfl (Nat.le_of_ble_eq_true rfl) dX5_readAhead_273 rfl (fun H locs hP hD hS => ?_)
          refine lv_aload_n hx hb dX5_readAhead_276 rfl (lv_at hl 0 rfl) ?_
          refine lv_dup hx hb dX5_readAhead_277 rfl ?_
          refine va_get (D := D) (ci := 5) (v := .int vJ_place) (C := RX5) (T := TX5) (N := 6) hx hb hts iw5 hown hK hP 0 rfl rfl 2 (by decide) kw2 (fun _ h9 => h9) rfl dX5_readAhead_278 ?_
          refine lv_iconst (v := 1) hx hb dX5_readAhead_281 (by decide) ?_
          refine lv_iadd hx hb dX5_readAhead_282 ?_
          obtain ⟨vJ_place_21, evJ_place_21, hf⟩ := ht_nm_ob hf
          rw [← evJ_place_21]
          refine ht_put (ci := 5) (v := .int vJ_place_21) (ty := .int) (C := RX5) (T := TX5) (N := 6) (w2 := (wTe K jJ jA kJ_told vJ_place_21 (3 : Int32) vJ_value vJ_place ++ (wTa K jA aA RA.bytes RA.length))) hx hb hts iw5 tyX5 tyX5_ok nmX5 hown hK hP hD hS 0 rfl rfl 2 (by decide) kw2 (fun _ h9 => h9) rfl (by decide +kernel) rfl rfl (Nat.le_of_ble_eq_true rfl) dX5_readAhead_283 rfl (fun H locs hP hD hS => ?_)
          have ho := Option.some.inj hf
          subst ho; subst hQ
          exact ht_vret hx hb hr hlk hK hP hD hS dX5_readAhead_286
        · replace hf := ht_f c_20 hf
          refine lv_aload_n hx hb dX5_readAhead_160 rfl (lv_at hl 0 rfl) ?_
          refine lv_iconst (v := 2) hx hb dX5_readAhead_161 (by decide) ?_
          refine ht_put (ci := 5) (v := .int (2 : Int32)) (ty := .int) (C := RX5) (T := TX5) (N := 6) (w2 := (wTe K jJ jA kJ_told vJ_place (2 : Int32) vJ_value vJ_place ++ (wTa K jA aA RA.bytes RA.length))) hx hb hts iw5 tyX5 tyX5_ok nmX5 hown hK hP hD hS 0 rfl rfl 3 (by decide) kw8 (fun _ h9 => h9) rfl (by decide +kernel) rfl rfl (Nat.le_of_ble_eq_true rfl) dX5_readAhead_162 rfl (fun H locs hP hD hS => ?_)
          refine lv_aload_n hx hb dX5_readAhead_165 rfl (lv_at hl 0 rfl) ?_
          refine lv_iconst (v := 0) hx hb dX5_readAhead_166 (by decide) ?_
          refine ht_put (ci := 5) (v := .int (0 : Int32)) (ty := .int) (C := RX5) (T := TX5) (N := 6) (w2 := (wTe K jJ jA kJ_told vJ_place (2 : Int32) (0 : Int32) vJ_place ++ (wTa K jA aA RA.bytes RA.length))) hx hb hts iw5 tyX5 tyX5_ok nmX5 hown hK hP hD hS 0 rfl rfl 4 (by decide) kw1 (fun _ h9 => h9) rfl (by decide +kernel) rfl rfl (Nat.le_of_ble_eq_true rfl) dX5_readAhead_167 rfl (fun H locs hP hD hS => ?_)
          exact b170  FU vJ_place (2 : Int32) (0 : Int32) vJ_place _ _ _ hf hP hD hS hl
      · replace hf := ht_f c_17 hf
        refine lv_aload_n hx hb dX5_readAhead_92 rfl (lv_at hl 0 rfl) ?_
        refine lv_iconst (v := 1) hx hb dX5_readAhead_93 (by decide) ?_
        refine ht_put (ci := 5) (v := .int (1 : Int32)) (ty := .int) (C := RX5) (T := TX5) (N := 6) (w2 := (wTe K jJ jA kJ_told vJ_place (1 : Int32) vJ_value vJ_place ++ (wTa K jA aA RA.bytes RA.length))) hx hb hts iw5 tyX5 tyX5_ok nmX5 hown hK hP hD hS 0 rfl rfl 3 (by decide) kw8 (fun _ h9 => h9) rfl (by decide +kernel) rfl rfl (Nat.le_of_ble_eq_true rfl) dX5_readAhead_94 rfl (fun H locs hP hD hS => ?_)
        exact b97  FU vJ_place (1 : Int32) vJ_value vJ_place _ _ _ hf hP hD hS hl
    · replace hf := ht_f c_14 hf
      refine lv_aload_n hx hb dX5_readAhead_66 rfl (lv_at hl 0 rfl) ?_
      refine lv_iconst (v := 0) hx hb dX5_readAhead_67 (by decide) ?_
      refine ht_put (ci := 5) (v := .int (0 : Int32)) (ty := .int) (C := RX5) (T := TX5) (N := 6) (w2 := (wTe K jJ jA kJ_told vJ_place (0 : Int32) vJ_value vJ_place ++ (wTa K jA aA RA.bytes RA.length))) hx hb hts iw5 tyX5 tyX5_ok nmX5 hown hK hP hD hS 0 rfl rfl 3 (by decide) kw8 (fun _ h9 => h9) rfl (by decide +kernel) rfl rfl (Nat.le_of_ble_eq_true rfl) dX5_readAhead_68 rfl (fun H locs hP hD hS => ?_)
      refine lv_goto (tgt := 286) hx hb dX5_readAhead_71 (by decide) ?_
      have ho := Option.some.inj hf
      subst ho; subst hQ
      exact ht_vret hx hb hr hlk hK hP hD hS dX5_readAhead_286
  have b0 : ∀ (n : Nat) (vJ_place : Int32) (vJ_sort : Int32) (vJ_value : Int32) (vJ_start : Int32) (H : Heap) (locs : List Loc) (ls : Array Slot), ht_lp4 (fX5_readAhead_b0 RJ RA) n vJ_place vJ_sort vJ_value vJ_start = some o → va_P D vwCl (wTe K jJ jA kJ_told vJ_place vJ_sort vJ_value vJ_start ++ (wTa K jA aA RA.bytes RA.length)) H → va_D A (wTe K jJ jA kJ_told vJ_place vJ_sort vJ_value vJ_start ++ (wTa K jA aA RA.bytes RA.length)) → va_S A s.heap H locs → lv_has ls 2 [(0, .ref jJ)] → W p l e (headSpec wsX5_readAhead rmX5_readAhead).room s m ([.ref jJ] : List Value).toArray below meth c H locs 0 0 Q (F0 m 0 ls []) := by
    intro n
    induction n with
    | zero =>
      intro vJ_place vJ_sort vJ_value vJ_start H locs ls hf hP hD hS hl
      cases (show (none : Option (Int32 × Int32 × Int32 × Int32)) = some o from hf)
    | succ n hk0 =>
      intro vJ_place vJ_sort vJ_value vJ_start H locs ls hf hP hD hS hl
      replace hf : fX5_readAhead_b0 RJ RA (ht_lp4 (fX5_readAhead_b0 RJ RA) n) vJ_place vJ_sort vJ_value vJ_start = some o := hf
      delta fX5_readAhead_b0 at hf
      refine lv_aload_n hx hb dX5_readAhead_0 rfl (lv_at hl 0 rfl) ?_
      refine va_get (D := D) (ci := 5) (v := .int vJ_place) (C := RX5) (T := TX5) (N := 6) hx hb hts iw5 hown hK hP 0 rfl rfl 2 (by decide) kw2 (fun _ h9 => h9) rfl dX5_readAhead_1 ?_
      refine lv_aload_n hx hb dX5_readAhead_4 rfl (lv_at hl 0 rfl) ?_
      refine va_get (D := D) (ci := 5) (v := .ref jA) (C := RX5) (T := TX5) (N := 6) hx hb hts iw5 hown hK hP 0 rfl rfl 0 (by decide) kw3 (fun _ h9 => h9) rfl dX5_readAhead_5 ?_
      refine va_get (D := D) (ci := 4) (v := .int RA.length) (C := RX4) (T := TX4) (N := 2) hx hb hts iw4 hown hK hP 1 rfl rfl 1 (by decide) kw6 (fun _ h9 => h9) rfl dX5_readAhead_8 ?_
      refine lv_icmp_ge (tgt := 44) hx hb dX5_readAhead_11 (by decide) (fun c_22 => ?_) (fun c_22 => ?_)
      · replace hf := ht_t c_22 hf
        exact b44  vJ_place vJ_sort vJ_value vJ_start _ _ _ hf hP hD hS hl
      · replace hf := ht_f c_22 hf
        refine lv_aload_n hx hb dX5_readAhead_14 rfl (lv_at hl 0 rfl) ?_
        refine va_get (D := D) (ci := 5) (v := .ref jA) (C := RX5) (T := TX5) (N := 6) hx hb hts iw5 hown hK hP 0 rfl rfl 0 (by decide) kw3 (fun _ h9 => h9) rfl dX5_readAhead_15 ?_
        refine va_get (D := D) (ci := 4) (v := .ref (aA 0)) (C := RX4) (T := TX4) (N := 2) hx hb hts iw4 hown hK hP 1 rfl rfl 0 (by decide) kw5 (fun _ h9 => h9) rfl dX5_readAhead_18 ?_
        refine lv_aload_n hx hb dX5_readAhead_21 rfl (lv_at hl 0 rfl) ?_
        refine va_get (D := D) (ci := 5) (v := .int vJ_place) (C := RX5) (T := TX5) (N := 6) hx hb hts iw5 hown hK hP 0 rfl rfl 2 (by decide) kw2 (fun _ h9 => h9) rfl dX5_readAhead_22 ?_
        obtain ⟨g_23, hf⟩ := ht_gd_ob hf
        refine va_bald hx hb hK hP 2 0 rfl rfl (ht_ix_in g_23) dX5_readAhead_25 ?_
        refine lv_bipush (v := 32) hx hb dX5_readAhead_26 (by decide) ?_
        refine lv_icmp_ne (tgt := 44) hx hb dX5_readAhead_28 (by decide) (fun c_24 => ?_) (fun c_24 => ?_)
        · replace hf := ht_f c_24 hf
          exact b44  vJ_place vJ_sort vJ_value vJ_start _ _ _ hf hP hD hS hl
        · replace hf := ht_t c_24 hf
          refine lv_aload_n hx hb dX5_readAhead_31 rfl (lv_at hl 0 rfl) ?_
          refine lv_dup hx hb dX5_readAhead_32 rfl ?_
          refine va_get (D := D) (ci := 5) (v := .int vJ_place) (C := RX5) (T := TX5) (N := 6) hx hb hts iw5 hown hK hP 0 rfl rfl 2 (by decide) kw2 (fun _ h9 => h9) rfl dX5_readAhead_33 ?_
          refine lv_iconst (v := 1) hx hb dX5_readAhead_36 (by decide) ?_
          refine lv_iadd hx hb dX5_readAhead_37 ?_
          obtain ⟨vJ_place_25, evJ_place_25, hf⟩ := ht_nm_ob hf
          rw [← evJ_place_25]
          refine ht_put (ci := 5) (v := .int vJ_place_25) (ty := .int) (C := RX5) (T := TX5) (N := 6) (w2 := (wTe K jJ jA kJ_told vJ_place_25 vJ_sort vJ_value vJ_start ++ (wTa K jA aA RA.bytes RA.length))) hx hb hts iw5 tyX5 tyX5_ok nmX5 hown hK hP hD hS 0 rfl rfl 2 (by decide) kw2 (fun _ h9 => h9) rfl (by decide +kernel) rfl rfl (Nat.le_of_ble_eq_true rfl) dX5_readAhead_38 rfl (fun H locs hP hD hS => ?_)
          refine lv_goto (tgt := 0) hx hb dX5_readAhead_41 (by decide) ?_
          exact hk0 vJ_place_25 vJ_sort vJ_value vJ_start _ _ _ hf hP hD hS hl
  delta fX5_readAhead at hf
  exact b0  FU RJ.place RJ.sort RJ.value RJ.start _ _ _ hf hP hD hS hl
abbrev rmX5_readNumber : Room := { frames := 2, cells := 0, slots := 0, locals := 41 }
theorem hdX5_readNumber : yX5_readNumber.cls = RX5 ∧ yX5_readNumber.cls ≠ "java/lang/invoke/MethodHandle" ∧ yX5_readNumber.cls ≠ "java/lang/invoke/VarHandle" ∧ (parseMethodDescriptor yX5_readNumber.desc).map (fun d => d.parameters.length) = some 1 := by decide +kernel
def fX5_readNumber (RJ : TellV) (RA : TapeV) (p0 : Int32) : Option (Int32 × Int32 × Int32 × Int32 × Int32) := if RJ.sort = (2 : Int32) then (if RJ.value ≤ p0 then (ht_nm RJ.value (fun x2_3 => ht_bn (fX5_readAhead RJ RA) (fun o_4 => some (x2_3, o_4.1, o_4.2.1, o_4.2.2.1, o_4.2.2.2)))) else (some ((-1 : Int32), RJ.place, RJ.sort, RJ.value, RJ.start))) else (some ((-1 : Int32), RJ.place, RJ.sort, RJ.value, RJ.start))
set_option maxHeartbeats 1000000 in
set_option maxRecDepth 100000 in
theorem ctX5_readNumber (l : Launch) (D : va_G) (K : Nat → ClassId) (jJ : Nat) (jA : Nat) (aA : Nat → Nat) (kJ_told : Nat) (RJ : TellV) (RA : TapeV) (p0 : Int32) (o : (Int32 × Int32 × Int32 × Int32 × Int32)) (hf : fX5_readNumber RJ RA p0 = some o) (sz : Nat) : Met l yX5_readNumber wsX5_readNumber rmX5_readNumber (ht_Pre D K [.ref jJ, .int p0] (wTe K jJ jA kJ_told RJ.place RJ.sort RJ.value RJ.start ++ (wTa K jA aA RA.bytes RA.length)) sz) (ht_Qi D K (wTe K jJ jA kJ_told o.2.1 o.2.2.1 o.2.2.2.1 o.2.2.2.2 ++ (wTa K jA aA RA.bytes RA.length)) o.1 (va_A (wTe K jJ jA kJ_told RJ.place RJ.sort RJ.value RJ.start ++ (wTa K jA aA RA.bytes RA.length)) sz)) 0 0 (va_A (wTe K jJ jA kJ_told RJ.place RJ.sort RJ.value RJ.start ++ (wTa K jA aA RA.bytes RA.length)) sz) := by
  refine ht_enter (Qf := ht_Qi D K (wTe K jJ jA kJ_told o.2.1 o.2.2.1 o.2.2.2.1 o.2.2.2.2 ++ (wTa K jA aA RA.bytes RA.length)) o.1) (cc := cX5_readNumber) (maxL := 3) (rt := (some .int)) (by decide) rfl (Nat.le_of_ble_eq_true rfl) ?_ sz
  intro p e s m below meth c A Q H locs ls hQ hx hb hr hlk hmn hml hown hts hA hK hP hD hS hl
  have hown : s.vm.findClass RX5 = some m.cls := hown
  have hF : CallFix p m c cX5_readNumber 3 s ([.ref jJ, .int p0] : List Value).toArray wsX5_readNumber RX5 := ⟨hx, hb, hml, hown, hts⟩
  have hl : lv_has ls 3 [(0, .ref jJ), (1, .int p0)] := hl
  have iw5 : ∀ w ∈ u_ws RX5 TX5 6, w ∈ wsX5_readNumber := by decide +kernel
  have kw1 := hts (.fieldLink RX5 26 "HeldTongues$Telling" "sort" "I") (by decide +kernel)
  have kw2 := hts (.fieldLink RX5 88 "HeldTongues$Telling" "value" "I") (by decide +kernel)
  delta fX5_readNumber at hf
  refine lv_aload_n hx hb dX5_readNumber_0 rfl (lv_at hl 0 rfl) ?_
  refine va_get (D := D) (ci := 5) (v := .int RJ.sort) (C := RX5) (T := TX5) (N := 6) hx hb hts iw5 hown hK hP 0 rfl rfl 3 (by decide) kw1 (fun _ h9 => h9) rfl dX5_readNumber_1 ?_
  refine lv_iconst (v := 2) hx hb dX5_readNumber_4 (by decide) ?_
  refine lv_icmp_ne (tgt := 16) hx hb dX5_readNumber_5 (by decide) (fun c_1 => ?_) (fun c_1 => ?_)
  · replace hf := ht_f c_1 hf
    refine lv_iconst (v := -1) hx hb dX5_readNumber_16 (by decide) ?_
    have ho := Option.some.inj hf
    subst ho; subst hQ
    exact ht_iret hx hb hr hlk rfl hK hP hD hS dX5_readNumber_17
  · replace hf := ht_t c_1 hf
    refine lv_aload_n hx hb dX5_readNumber_8 rfl (lv_at hl 0 rfl) ?_
    refine va_get (D := D) (ci := 5) (v := .int RJ.value) (C := RX5) (T := TX5) (N := 6) hx hb hts iw5 hown hK hP 0 rfl rfl 4 (by decide) kw2 (fun _ h9 => h9) rfl dX5_readNumber_9 ?_
    refine lv_iload_n hx hb dX5_readNumber_12 rfl (lv_at hl 1 rfl) ?_
    refine lv_icmp_le (tgt := 18) hx hb dX5_readNumber_13 (by decide) (fun c_2 => ?_) (fun c_2 => ?_)
    · replace hf := ht_t c_2 hf
      refine lv_aload_n hx hb dX5_readNumber_18 rfl (lv_at hl 0 rfl) ?_
      refine va_get (D := D) (ci := 5) (v := .int RJ.value) (C := RX5) (T := TX5) (N := 6) hx hb hts iw5 hown hK hP 0 rfl rfl 4 (by decide) kw2 (fun _ h9 => h9) rfl dX5_readNumber_19 ?_
      obtain ⟨x2_3, ex2_3, hf⟩ := ht_nm_ob hf
      rw [← ex2_3]
      refine lv_istore_n (lv' := [(2, .int x2_3), (0, .ref jJ), (1, .int p0)]) hx hb dX5_readNumber_22 rfl hl (by decide) rfl (fun ls hl => ?_)
      refine lv_aload_n hx hb dX5_readNumber_23 rfl (lv_at hl 1 rfl) ?_
      obtain ⟨o_4, ho_4, hf⟩ := ht_bn_ob hf
      refine ht_callVv (rest := []) (As := []) (wc := (wTe K jJ jA kJ_told RJ.place RJ.sort RJ.value RJ.start ++ (wTa K jA aA RA.bytes RA.length))) (wr := []) (w1 := (wTe K jJ jA kJ_told o_4.1 o_4.2.1 o_4.2.2.1 o_4.2.2.2 ++ (wTa K jA aA RA.bytes RA.length))) (w2 := (wTe K jJ jA kJ_told o_4.1 o_4.2.1 o_4.2.2.1 o_4.2.2.2 ++ (wTa K jA aA RA.bytes RA.length))) hF (ctX5_readAhead l D K jJ jA aA kJ_told RJ RA o_4 ho_4 H.size) (cwV 0 hts gX5_readNumber_X5_readAhead rfl rfl rfl hdX5_readAhead ⟨Nat.le_of_ble_eq_true rfl, Nat.le_of_ble_eq_true rfl⟩) hK hP hD hS hA [0, 1, 2] [] rfl rfl (by decide) (by decide) (by decide) [0, 1, 2] rfl (by decide) (va_recv hK hP (ci := 5) (q0 := 0) rfl rfl) rfl hl.1 rfl (Nat.le_of_ble_eq_true rfl) dX5_readNumber_24 ⟨Nat.zero_le _, Nat.zero_le _⟩ (fun H locs hP hD hS => ?_)
      refine lv_iload_n hx hb dX5_readNumber_27 rfl (lv_at hl 0 rfl) ?_
      have ho := Option.some.inj hf
      subst ho; subst hQ
      exact ht_iret hx hb hr hlk rfl hK hP hD hS dX5_readNumber_28
    · replace hf := ht_f c_2 hf
      refine lv_iconst (v := -1) hx hb dX5_readNumber_16 (by decide) ?_
      have ho := Option.some.inj hf
      subst ho; subst hQ
      exact ht_iret hx hb hr hlk rfl hK hP hD hS dX5_readNumber_17
abbrev rmX5_readSemicolon : Room := { frames := 2, cells := 0, slots := 0, locals := 41 }
theorem hdX5_readSemicolon : yX5_readSemicolon.cls = RX5 ∧ yX5_readSemicolon.cls ≠ "java/lang/invoke/MethodHandle" ∧ yX5_readSemicolon.cls ≠ "java/lang/invoke/VarHandle" ∧ (parseMethodDescriptor yX5_readSemicolon.desc).map (fun d => d.parameters.length) = some 0 := by decide +kernel
def fX5_readSemicolon (RJ : TellV) (RA : TapeV) : Option (Int32 × Int32 × Int32 × Int32 × Int32) := if RJ.sort = (3 : Int32) then (ht_gd (ht_ix RJ.start 200) (if (RA.bytes RJ.start.toNatClampNeg) = (59 : Int32) then (ht_bn (fX5_readAhead RJ RA) (fun o_4 => some ((1 : Int32), o_4.1, o_4.2.1, o_4.2.2.1, o_4.2.2.2))) else (some ((0 : Int32), RJ.place, RJ.sort, RJ.value, RJ.start)))) else (some ((0 : Int32), RJ.place, RJ.sort, RJ.value, RJ.start))
set_option maxHeartbeats 1000000 in
set_option maxRecDepth 100000 in
theorem ctX5_readSemicolon (l : Launch) (D : va_G) (K : Nat → ClassId) (jJ : Nat) (jA : Nat) (aA : Nat → Nat) (kJ_told : Nat) (RJ : TellV) (RA : TapeV) (o : (Int32 × Int32 × Int32 × Int32 × Int32)) (hf : fX5_readSemicolon RJ RA = some o) (sz : Nat) : Met l yX5_readSemicolon wsX5_readSemicolon rmX5_readSemicolon (ht_Pre D K [.ref jJ] (wTe K jJ jA kJ_told RJ.place RJ.sort RJ.value RJ.start ++ (wTa K jA aA RA.bytes RA.length)) sz) (ht_Qi D K (wTe K jJ jA kJ_told o.2.1 o.2.2.1 o.2.2.2.1 o.2.2.2.2 ++ (wTa K jA aA RA.bytes RA.length)) o.1 (va_A (wTe K jJ jA kJ_told RJ.place RJ.sort RJ.value RJ.start ++ (wTa K jA aA RA.bytes RA.length)) sz)) 0 0 (va_A (wTe K jJ jA kJ_told RJ.place RJ.sort RJ.value RJ.start ++ (wTa K jA aA RA.bytes RA.length)) sz) := by
  refine ht_enter (Qf := ht_Qi D K (wTe K jJ jA kJ_told o.2.1 o.2.2.1 o.2.2.2.1 o.2.2.2.2 ++ (wTa K jA aA RA.bytes RA.length)) o.1) (cc := cX5_readSemicolon) (maxL := 1) (rt := (some .boolean)) (by decide) rfl (Nat.le_of_ble_eq_true rfl) ?_ sz
  intro p e s m below meth c A Q H locs ls hQ hx hb hr hlk hmn hml hown hts hA hK hP hD hS hl
  have hown : s.vm.findClass RX5 = some m.cls := hown
  have hF : CallFix p m c cX5_readSemicolon 1 s ([.ref jJ] : List Value).toArray wsX5_readSemicolon RX5 := ⟨hx, hb, hml, hown, hts⟩
  have hl : lv_has ls 1 [(0, .ref jJ)] := hl
  have iw5 : ∀ w ∈ u_ws RX5 TX5 6, w ∈ wsX5_readSemicolon := by decide +kernel
  have kw1 := hts (.fieldLink RX5 26 "HeldTongues$Telling" "sort" "I") (by decide +kernel)
  have kw2 := hts (.fieldLink RX5 9 "HeldTongues$Telling" "tape" "LHeldTongues$Tape;") (by decide +kernel)
  have iw4 : ∀ w ∈ u_ws RX4 TX4 2, w ∈ wsX5_readSemicolon := by decide +kernel
  have kw4 := hts (.fieldLink RX5 95 "HeldTongues$Tape" "bytes" "[B") (by decide +kernel)
  have kw5 := hts (.fieldLink RX5 101 "HeldTongues$Telling" "start" "I") (by decide +kernel)
  delta fX5_readSemicolon at hf
  refine lv_aload_n hx hb dX5_readSemicolon_0 rfl (lv_at hl 0 rfl) ?_
  refine va_get (D := D) (ci := 5) (v := .int RJ.sort) (C := RX5) (T := TX5) (N := 6) hx hb hts iw5 hown hK hP 0 rfl rfl 3 (by decide) kw1 (fun _ h9 => h9) rfl dX5_readSemicolon_1 ?_
  refine lv_iconst (v := 3) hx hb dX5_readSemicolon_4 (by decide) ?_
  refine lv_icmp_ne (tgt := 25) hx hb dX5_readSemicolon_5 (by decide) (fun c_1 => ?_) (fun c_1 => ?_)
  · replace hf := ht_f c_1 hf
    refine lv_iconst (v := 0) hx hb dX5_readSemicolon_25 (by decide) ?_
    have ho := Option.some.inj hf
    subst ho; subst hQ
    exact ht_iret hx hb hr hlk (show narrow .boolean (.int (0 : Int32)) = .int (0 : Int32) from rfl) hK hP hD hS dX5_readSemicolon_26
  · replace hf := ht_t c_1 hf
    refine lv_aload_n hx hb dX5_readSemicolon_8 rfl (lv_at hl 0 rfl) ?_
    refine va_get (D := D) (ci := 5) (v := .ref jA) (C := RX5) (T := TX5) (N := 6) hx hb hts iw5 hown hK hP 0 rfl rfl 0 (by decide) kw2 (fun _ h9 => h9) rfl dX5_readSemicolon_9 ?_
    refine va_get (D := D) (ci := 4) (v := .ref (aA 0)) (C := RX4) (T := TX4) (N := 2) hx hb hts iw4 hown hK hP 1 rfl rfl 0 (by decide) kw4 (fun _ h9 => h9) rfl dX5_readSemicolon_12 ?_
    refine lv_aload_n hx hb dX5_readSemicolon_15 rfl (lv_at hl 0 rfl) ?_
    refine va_get (D := D) (ci := 5) (v := .int RJ.start) (C := RX5) (T := TX5) (N := 6) hx hb hts iw5 hown hK hP 0 rfl rfl 5 (by decide) kw5 (fun _ h9 => h9) rfl dX5_readSemicolon_16 ?_
    obtain ⟨g_2, hf⟩ := ht_gd_ob hf
    refine va_bald hx hb hK hP 2 0 rfl rfl (ht_ix_in g_2) dX5_readSemicolon_19 ?_
    refine lv_bipush (v := 59) hx hb dX5_readSemicolon_20 (by decide) ?_
    refine lv_icmp_eq (tgt := 27) hx hb dX5_readSemicolon_22 (by decide) (fun c_3 => ?_) (fun c_3 => ?_)
    · replace hf := ht_t c_3 hf
      refine lv_aload_n hx hb dX5_readSemicolon_27 rfl (lv_at hl 0 rfl) ?_
      obtain ⟨o_4, ho_4, hf⟩ := ht_bn_ob hf
      refine ht_callVv (rest := []) (As := []) (wc := (wTe K jJ jA kJ_told RJ.place RJ.sort RJ.value RJ.start ++ (wTa K jA aA RA.bytes RA.length))) (wr := []) (w1 := (wTe K jJ jA kJ_told o_4.1 o_4.2.1 o_4.2.2.1 o_4.2.2.2 ++ (wTa K jA aA RA.bytes RA.length))) (w2 := (wTe K jJ jA kJ_told o_4.1 o_4.2.1 o_4.2.2.1 o_4.2.2.2 ++ (wTa K jA aA RA.bytes RA.length))) hF (ctX5_readAhead l D K jJ jA aA kJ_told RJ RA o_4 ho_4 H.size) (cwV 0 hts gX5_readSemicolon_X5_readAhead rfl rfl rfl hdX5_readAhead ⟨Nat.le_of_ble_eq_true rfl, Nat.le_of_ble_eq_true rfl⟩) hK hP hD hS hA [0, 1, 2] [] rfl rfl (by decide) (by decide) (by decide) [0, 1, 2] rfl (by decide) (va_recv hK hP (ci := 5) (q0 := 0) rfl rfl) rfl hl.1 rfl (Nat.le_of_ble_eq_true rfl) dX5_readSemicolon_28 ⟨Nat.zero_le _, Nat.zero_le _⟩ (fun H locs hP hD hS => ?_)
      refine lv_iconst (v := 1) hx hb dX5_readSemicolon_31 (by decide) ?_
      have ho := Option.some.inj hf
      subst ho; subst hQ
      exact ht_iret hx hb hr hlk (show narrow .boolean (.int (1 : Int32)) = .int (1 : Int32) from rfl) hK hP hD hS dX5_readSemicolon_32
    · replace hf := ht_f c_3 hf
      refine lv_iconst (v := 0) hx hb dX5_readSemicolon_25 (by decide) ?_
      have ho := Option.some.inj hf
      subst ho; subst hQ
      exact ht_iret hx hb hr hlk (show narrow .boolean (.int (0 : Int32)) = .int (0 : Int32) from rfl) hK hP hD hS dX5_readSemicolon_26
abbrev rmX5_isName : Room := { frames := 4, cells := 0, slots := 0, locals := 85 }
theorem hdX5_isName : yX5_isName.cls = RX5 ∧ yX5_isName.cls ≠ "java/lang/invoke/MethodHandle" ∧ yX5_isName.cls ≠ "java/lang/invoke/VarHandle" ∧ (parseMethodDescriptor yX5_isName.desc).map (fun d => d.parameters.length) = some 1 := by decide +kernel
def fX5_isName_b28 (RJ : TellV) (RA : TapeV) (n0 : Nat) (k28 : Int32 → Option Int32) (x2 : Int32) : Option Int32 := ht_gd (decide (n0 < 15)) (if (strLen n0) ≤ x2 then (some (1 : Int32)) else (ht_gd (ht_ix (RJ.start + x2) 200) (ht_gd (decide (n0 < 15)) (ht_gd (ht_ix x2 (lenS.getD n0 0)) (if (RA.bytes (RJ.start + x2).toNatClampNeg) = (chS n0 x2.toNatClampNeg) then (ht_nm (x2 + (1 : Int32)) (fun x2_7 => k28 x2_7)) else (some (0 : Int32)))))))
def fX5_isName (RJ : TellV) (RA : TapeV) (n0 : Nat) : Option Int32 := if RJ.sort = (1 : Int32) then (ht_gd (decide (n0 < 15)) (if (RJ.place - RJ.start) = (strLen n0) then (ht_lp1 (fX5_isName_b28 RJ RA n0) FU (0 : Int32)) else (some (0 : Int32)))) else (some (0 : Int32))
set_option maxHeartbeats 1000000 in
set_option maxRecDepth 100000 in
theorem ctX5_isName (l : Launch) (D : va_G) (K : Nat → ClassId) (jJ : Nat) (jA : Nat) (aA : Nat → Nat) (kJ_told : Nat) (aK : Nat → Nat) (aV : Nat → Nat) (RJ : TellV) (RA : TapeV) (n0 : Nat) (o : Int32) (hf : fX5_isName RJ RA n0 = some o) (sz : Nat) : Met l yX5_isName wsX5_isName rmX5_isName (ht_PreS D K aK aV [.ref jJ, .ref (aK n0)] (wTe K jJ jA kJ_told RJ.place RJ.sort RJ.value RJ.start ++ (wTa K jA aA RA.bytes RA.length)) sz) (ht_Qi D K (wTe K jJ jA kJ_told RJ.place RJ.sort RJ.value RJ.start ++ (wTa K jA aA RA.bytes RA.length)) o (va_A (wTe K jJ jA kJ_told RJ.place RJ.sort RJ.value RJ.start ++ (wTa K jA aA RA.bytes RA.length)) sz)) 0 0 (va_A (wTe K jJ jA kJ_told RJ.place RJ.sort RJ.value RJ.start ++ (wTa K jA aA RA.bytes RA.length)) sz) := by
  refine ht_enterS (Qf := ht_Qi D K (wTe K jJ jA kJ_told RJ.place RJ.sort RJ.value RJ.start ++ (wTa K jA aA RA.bytes RA.length)) o) (cc := cX5_isName) (maxL := 3) (rt := (some .boolean)) (by decide) rfl (Nat.le_of_ble_eq_true rfl) ?_ sz
  intro p e s m below meth c A Q H locs ls hQ hx hb hr hlk hmn hml hown hts hA hK hE hP hD hS hl
  have hown : s.vm.findClass RX5 = some m.cls := hown
  have hF : CallFix p m c cX5_isName 3 s ([.ref jJ, .ref (aK n0)] : List Value).toArray wsX5_isName RX5 := ⟨hx, hb, hml, hown, hts⟩
  have hl : lv_has ls 3 [(0, .ref jJ), (1, .ref (aK n0))] := hl
  have iw5 : ∀ w ∈ u_ws RX5 TX5 6, w ∈ wsX5_isName := by decide +kernel
  have kw1 := hts (.fieldLink RX5 9 "HeldTongues$Telling" "tape" "LHeldTongues$Tape;") (by decide +kernel)
  have iw4 : ∀ w ∈ u_ws RX4 TX4 2, w ∈ wsX5_isName := by decide +kernel
  have kw3 := hts (.fieldLink RX5 95 "HeldTongues$Tape" "bytes" "[B") (by decide +kernel)
  have kw4 := hts (.fieldLink RX5 101 "HeldTongues$Telling" "start" "I") (by decide +kernel)
  have kw5 := hts (.fieldLink RX5 26 "HeldTongues$Telling" "sort" "I") (by decide +kernel)
  have kw6 := hts (.fieldLink RX5 19 "HeldTongues$Telling" "place" "I") (by decide +kernel)
  have b28 : ∀ (n : Nat) (x2 : Int32) (H : Heap) (locs : List Loc) (ls : Array Slot), ht_lp1 (fX5_isName_b28 RJ RA n0) n x2 = some o → va_P D vwCl (wTe K jJ jA kJ_told RJ.place RJ.sort RJ.value RJ.start ++ (wTa K jA aA RA.bytes RA.length)) H → va_D A (wTe K jJ jA kJ_told RJ.place RJ.sort RJ.value RJ.start ++ (wTa K jA aA RA.bytes RA.length)) → va_S A s.heap H locs → lv_has ls 3 [(0, .ref jJ), (1, .ref (aK n0)), (2, .int x2)] → W p l e (headSpec wsX5_isName rmX5_isName).room s m ([.ref jJ, .ref (aK n0)] : List Value).toArray below meth c H locs 0 0 Q (F0 m 28 ls []) := by
    intro n
    induction n with
    | zero =>
      intro x2 H locs ls hf hP hD hS hl
      cases (show (none : Option Int32) = some o from hf)
    | succ n hk28 =>
      intro x2 H locs ls hf hP hD hS hl
      replace hf : fX5_isName_b28 RJ RA n0 (ht_lp1 (fX5_isName_b28 RJ RA n0) n) x2 = some o := hf
      delta fX5_isName_b28 at hf
      refine lv_iload_n hx hb dX5_isName_28 rfl (lv_at hl 2 rfl) ?_
      refine lv_aload_n hx hb dX5_isName_29 rfl (lv_at hl 1 rfl) ?_
      obtain ⟨g_1, hf⟩ := ht_gd_ob hf
      refine ht_gVi (r := (strLen n0)) (rest := [.int x2]) (As := []) (wc := []) (wr := (wTe K jJ jA kJ_told RJ.place RJ.sort RJ.value RJ.start ++ (wTa K jA aA RA.bytes RA.length))) (w1 := []) (w2 := (wTe K jJ jA kJ_told RJ.place RJ.sort RJ.value RJ.start ++ (wTa K jA aA RA.bytes RA.length))) hF (ctJ0_length l D K aK aV n0 (of_decide_eq_true g_1) H.size) (cwV 0 hts gX5_isName_J0_length_8abf5 rfl rfl rfl hdJ0_length_8abf5 ⟨Nat.le_of_ble_eq_true rfl, Nat.le_of_ble_eq_true rfl⟩) hP hD hS hA [] [0, 1, 2] rfl rfl (by decide) (by decide) (by decide) [0, 1, 2] rfl (by decide) (fun hf hP hD => ht_pvS hK hE hS hf (vk_recv hE.1 (of_decide_eq_true g_1) hS) hP hD) rfl hl.1 rfl (Nat.le_of_ble_eq_true rfl) dX5_isName_30 ⟨Nat.zero_le _, Nat.zero_le _⟩ (fun H locs hP hD hS => ?_)
      refine lv_icmp_ge (tgt := 66) hx hb dX5_isName_33 (by decide) (fun c_2 => ?_) (fun c_2 => ?_)
      · replace hf := ht_t c_2 hf
        refine lv_iconst (v := 1) hx hb dX5_isName_66 (by decide) ?_
        have ho := Option.some.inj hf
        subst ho; subst hQ
        exact ht_iret hx hb hr hlk (show narrow .boolean (.int (1 : Int32)) = .int (1 : Int32) from rfl) hK hP hD hS dX5_isName_67
      · replace hf := ht_f c_2 hf
        refine lv_aload_n hx hb dX5_isName_36 rfl (lv_at hl 0 rfl) ?_
        refine va_get (D := D) (ci := 5) (v := .ref jA) (C := RX5) (T := TX5) (N := 6) hx hb hts iw5 hown hK hP 0 rfl rfl 0 (by decide) kw1 (fun _ h9 => h9) rfl dX5_isName_37 ?_
        refine va_get (D := D) (ci := 4) (v := .ref (aA 0)) (C := RX4) (T := TX4) (N := 2) hx hb hts iw4 hown hK hP 1 rfl rfl 0 (by decide) kw3 (fun _ h9 => h9) rfl dX5_isName_40 ?_
        refine lv_aload_n hx hb dX5_isName_43 rfl (lv_at hl 0 rfl) ?_
        refine va_get (D := D) (ci := 5) (v := .int RJ.start) (C := RX5) (T := TX5) (N := 6) hx hb hts iw5 hown hK hP 0 rfl rfl 5 (by decide) kw4 (fun _ h9 => h9) rfl dX5_isName_44 ?_
        refine lv_iload_n hx hb dX5_isName_47 rfl (lv_at hl 2 rfl) ?_
        refine lv_iadd hx hb dX5_isName_48 ?_
        obtain ⟨g_3, hf⟩ := ht_gd_ob hf
        refine va_bald hx hb hK hP 2 0 rfl rfl (ht_ix_in g_3) dX5_isName_49 ?_
        refine lv_aload_n hx hb dX5_isName_50 rfl (lv_at hl 1 rfl) ?_
        refine lv_iload_n hx hb dX5_isName_51 rfl (lv_at hl 2 rfl) ?_
        obtain ⟨g_4, hf⟩ := ht_gd_ob hf
        obtain ⟨g_5, hf⟩ := ht_gd_ob hf
        refine ht_gVi (r := (chS n0 x2.toNatClampNeg)) (rest := [.int (RA.bytes (RJ.start + x2).toNatClampNeg)]) (As := [.int x2]) (wc := []) (wr := (wTe K jJ jA kJ_told RJ.place RJ.sort RJ.value RJ.start ++ (wTa K jA aA RA.bytes RA.length))) (w1 := []) (w2 := (wTe K jJ jA kJ_told RJ.place RJ.sort RJ.value RJ.start ++ (wTa K jA aA RA.bytes RA.length))) hF (ctJ0_charAt l D K aK aV n0 x2 (of_decide_eq_true g_4) g_5 H.size) (cwV 1 hts gX5_isName_J0_charAt_5068e rfl rfl rfl hdJ0_charAt_5068e ⟨Nat.le_of_ble_eq_true rfl, Nat.le_of_ble_eq_true rfl⟩) hP hD hS hA [] [0, 1, 2] rfl rfl (by decide) (by decide) (by decide) [0, 1, 2] rfl (by decide) (fun hf hP hD => ht_pvS hK hE hS hf (vk_recv hE.1 (of_decide_eq_true g_4) hS) hP hD) rfl hl.1 rfl (Nat.le_of_ble_eq_true rfl) dX5_isName_52 ⟨Nat.zero_le _, Nat.zero_le _⟩ (fun H locs hP hD hS => ?_)
        refine lv_icmp_eq (tgt := 60) hx hb dX5_isName_55 (by decide) (fun c_6 => ?_) (fun c_6 => ?_)
        · replace hf := ht_t c_6 hf
          obtain ⟨x2_7, ex2_7, hf⟩ := ht_nm_ob hf
          refine lv_iinc (v := x2_7) (lv' := [(2, .int x2_7), (0, .ref jJ), (1, .ref (aK n0))]) hx hb dX5_isName_60 hl (k := 2) rfl (by rw [ex2_7]; rfl) (by decide) rfl (fun ls hl => ?_)
          refine lv_goto (tgt := 28) hx hb dX5_isName_63 (by decide) ?_
          exact hk28 x2_7 _ _ _ hf hP hD hS (lv_sub hl [1, 2, 0] rfl)
        · replace hf := ht_f c_6 hf
          refine lv_iconst (v := 0) hx hb dX5_isName_58 (by decide) ?_
          have ho := Option.some.inj hf
          subst ho; subst hQ
          exact ht_iret hx hb hr hlk (show narrow .boolean (.int (0 : Int32)) = .int (0 : Int32) from rfl) hK hP hD hS dX5_isName_59
  delta fX5_isName at hf
  refine lv_aload_n hx hb dX5_isName_0 rfl (lv_at hl 0 rfl) ?_
  refine va_get (D := D) (ci := 5) (v := .int RJ.sort) (C := RX5) (T := TX5) (N := 6) hx hb hts iw5 hown hK hP 0 rfl rfl 3 (by decide) kw5 (fun _ h9 => h9) rfl dX5_isName_1 ?_
  refine lv_iconst (v := 1) hx hb dX5_isName_4 (by decide) ?_
  refine lv_icmp_ne (tgt := 24) hx hb dX5_isName_5 (by decide) (fun c_8 => ?_) (fun c_8 => ?_)
  · replace hf := ht_f c_8 hf
    refine lv_iconst (v := 0) hx hb dX5_isName_24 (by decide) ?_
    have ho := Option.some.inj hf
    subst ho; subst hQ
    exact ht_iret hx hb hr hlk (show narrow .boolean (.int (0 : Int32)) = .int (0 : Int32) from rfl) hK hP hD hS dX5_isName_25
  · replace hf := ht_t c_8 hf
    refine lv_aload_n hx hb dX5_isName_8 rfl (lv_at hl 0 rfl) ?_
    refine va_get (D := D) (ci := 5) (v := .int RJ.place) (C := RX5) (T := TX5) (N := 6) hx hb hts iw5 hown hK hP 0 rfl rfl 2 (by decide) kw6 (fun _ h9 => h9) rfl dX5_isName_9 ?_
    refine lv_aload_n hx hb dX5_isName_12 rfl (lv_at hl 0 rfl) ?_
    refine va_get (D := D) (ci := 5) (v := .int RJ.start) (C := RX5) (T := TX5) (N := 6) hx hb hts iw5 hown hK hP 0 rfl rfl 5 (by decide) kw4 (fun _ h9 => h9) rfl dX5_isName_13 ?_
    refine lv_isub hx hb dX5_isName_16 ?_
    refine lv_aload_n hx hb dX5_isName_17 rfl (lv_at hl 1 rfl) ?_
    obtain ⟨g_9, hf⟩ := ht_gd_ob hf
    refine ht_gVi (r := (strLen n0)) (rest := [.int (RJ.place - RJ.start)]) (As := []) (wc := []) (wr := (wTe K jJ jA kJ_told RJ.place RJ.sort RJ.value RJ.start ++ (wTa K jA aA RA.bytes RA.length))) (w1 := []) (w2 := (wTe K jJ jA kJ_told RJ.place RJ.sort RJ.value RJ.start ++ (wTa K jA aA RA.bytes RA.length))) hF (ctJ0_length l D K aK aV n0 (of_decide_eq_true g_9) H.size) (cwV 0 hts gX5_isName_J0_length_8abf5 rfl rfl rfl hdJ0_length_8abf5 ⟨Nat.le_of_ble_eq_true rfl, Nat.le_of_ble_eq_true rfl⟩) hP hD hS hA [] [0, 1, 2] rfl rfl (by decide) (by decide) (by decide) [0, 1, 2] rfl (by decide) (fun hf hP hD => ht_pvS hK hE hS hf (vk_recv hE.1 (of_decide_eq_true g_9) hS) hP hD) rfl hl.1 rfl (Nat.le_of_ble_eq_true rfl) dX5_isName_18 ⟨Nat.zero_le _, Nat.zero_le _⟩ (fun H locs hP hD hS => ?_)
    refine lv_icmp_eq (tgt := 26) hx hb dX5_isName_21 (by decide) (fun c_10 => ?_) (fun c_10 => ?_)
    · replace hf := ht_t c_10 hf
      refine lv_iconst (v := 0) hx hb dX5_isName_26 (by decide) ?_
      refine lv_istore_n (lv' := [(2, .int (0 : Int32)), (0, .ref jJ), (1, .ref (aK n0))]) hx hb dX5_isName_27 rfl hl (by decide) rfl (fun ls hl => ?_)
      exact b28  FU (0 : Int32) _ _ _ hf hP hD hS (lv_sub hl [1, 2, 0] rfl)
    · replace hf := ht_f c_10 hf
      refine lv_iconst (v := 0) hx hb dX5_isName_24 (by decide) ?_
      have ho := Option.some.inj hf
      subst ho; subst hQ
      exact ht_iret hx hb hr hlk (show narrow .boolean (.int (0 : Int32)) = .int (0 : Int32) from rfl) hK hP hD hS dX5_isName_25
abbrev rmX5_kindNamed : Room := { frames := 5, cells := 0, slots := 0, locals := 107 }
theorem hdX5_kindNamed : yX5_kindNamed.cls = RX5 ∧ yX5_kindNamed.cls ≠ "java/lang/invoke/MethodHandle" ∧ yX5_kindNamed.cls ≠ "java/lang/invoke/VarHandle" ∧ (parseMethodDescriptor yX5_kindNamed.desc).map (fun d => d.parameters.length) = some 0 := by decide +kernel
def fX5_kindNamed (RJ : TellV) (RA : TapeV) : Option Int32 := ht_bn (fX5_isName RJ RA 5) (fun o_1 => if o_1 = 0 then (ht_bn (fX5_isName RJ RA 6) (fun o_3 => if o_3 = 0 then (ht_bn (fX5_isName RJ RA 7) (fun o_5 => if o_5 = 0 then (ht_bn (fX5_isName RJ RA 8) (fun o_7 => if o_7 = 0 then (ht_bn (fX5_isName RJ RA 9) (fun o_9 => if o_9 = 0 then (ht_bn (fX5_isName RJ RA 10) (fun o_11 => if o_11 = 0 then (some (-1 : Int32)) else (some (5 : Int32)))) else (some (4 : Int32)))) else (some (3 : Int32)))) else (some (2 : Int32)))) else (some (1 : Int32)))) else (some (0 : Int32)))
set_option maxHeartbeats 1000000 in
set_option maxRecDepth 100000 in
theorem ctX5_kindNamed (l : Launch) (D : va_G) (K : Nat → ClassId) (jJ : Nat) (jA : Nat) (aA : Nat → Nat) (kJ_told : Nat) (aK : Nat → Nat) (aV : Nat → Nat) (RJ : TellV) (RA : TapeV) (o : Int32) (hf : fX5_kindNamed RJ RA = some o) (sz : Nat) : Met l yX5_kindNamed wsX5_kindNamed rmX5_kindNamed (ht_PreS D K aK aV [.ref jJ] (wTe K jJ jA kJ_told RJ.place RJ.sort RJ.value RJ.start ++ (wTa K jA aA RA.bytes RA.length)) sz) (ht_Qi D K (wTe K jJ jA kJ_told RJ.place RJ.sort RJ.value RJ.start ++ (wTa K jA aA RA.bytes RA.length)) o (va_A (wTe K jJ jA kJ_told RJ.place RJ.sort RJ.value RJ.start ++ (wTa K jA aA RA.bytes RA.length)) sz)) 0 0 (va_A (wTe K jJ jA kJ_told RJ.place RJ.sort RJ.value RJ.start ++ (wTa K jA aA RA.bytes RA.length)) sz) := by
  refine ht_enterS (Qf := ht_Qi D K (wTe K jJ jA kJ_told RJ.place RJ.sort RJ.value RJ.start ++ (wTa K jA aA RA.bytes RA.length)) o) (cc := cX5_kindNamed) (maxL := 1) (rt := (some .int)) (by decide) rfl (Nat.le_of_ble_eq_true rfl) ?_ sz
  intro p e s m below meth c A Q H locs ls hQ hx hb hr hlk hmn hml hown hts hA hK hE hP hD hS hl
  have hown : s.vm.findClass RX5 = some m.cls := hown
  have hF : CallFix p m c cX5_kindNamed 1 s ([.ref jJ] : List Value).toArray wsX5_kindNamed RX5 := ⟨hx, hb, hml, hown, hts⟩
  have hl : lv_has ls 1 [(0, .ref jJ)] := hl
  delta fX5_kindNamed at hf
  refine lv_aload_n hx hb dX5_kindNamed_0 rfl (lv_at hl 0 rfl) ?_
  refine va_ldcS hx hb hown (hE.2.1 5 (by decide)) dX5_kindNamed_1 ?_
  obtain ⟨o_1, ho_1, hf⟩ := ht_bn_ob hf
  refine ht_gVi (r := o_1) (rest := []) (As := [.ref (aK 5)]) (wc := (wTe K jJ jA kJ_told RJ.place RJ.sort RJ.value RJ.start ++ (wTa K jA aA RA.bytes RA.length))) (wr := []) (w1 := (wTe K jJ jA kJ_told RJ.place RJ.sort RJ.value RJ.start ++ (wTa K jA aA RA.bytes RA.length))) (w2 := (wTe K jJ jA kJ_told RJ.place RJ.sort RJ.value RJ.start ++ (wTa K jA aA RA.bytes RA.length))) hF (ctX5_isName l D K jJ jA aA kJ_told aK aV RJ RA 5 o_1 ho_1 H.size) (cwV 1 hts gX5_kindNamed_X5_isName rfl rfl rfl hdX5_isName ⟨Nat.le_of_ble_eq_true rfl, Nat.le_of_ble_eq_true rfl⟩) hP hD hS hA [0, 1, 2] [] rfl rfl (by decide) (by decide) (by decide) [0, 1, 2] rfl (by decide) (fun hf hP2 hD2 => ht_pvS hK hE hS hf (va_recv hK hP (ci := 5) (q0 := 0) rfl rfl) hP2 hD2) rfl hl.1 rfl (Nat.le_of_ble_eq_true rfl) dX5_kindNamed_3 ⟨Nat.zero_le _, Nat.zero_le _⟩ (fun H locs hP hD hS => ?_)
  refine lv_if_eq (tgt := 11) hx hb dX5_kindNamed_6 (by decide) (fun c_2 => ?_) (fun c_2 => ?_)
  · replace hf := ht_t c_2 hf
    refine lv_aload_n hx hb dX5_kindNamed_11 rfl (lv_at hl 0 rfl) ?_
    refine va_ldcS hx hb hown (hE.2.1 6 (by decide)) dX5_kindNamed_12 ?_
    obtain ⟨o_3, ho_3, hf⟩ := ht_bn_ob hf
    refine ht_gVi (r := o_3) (rest := []) (As := [.ref (aK 6)]) (wc := (wTe K jJ jA kJ_told RJ.place RJ.sort RJ.value RJ.start ++ (wTa K jA aA RA.bytes RA.length))) (wr := []) (w1 := (wTe K jJ jA kJ_told RJ.place RJ.sort RJ.value RJ.start ++ (wTa K jA aA RA.bytes RA.length))) (w2 := (wTe K jJ jA kJ_told RJ.place RJ.sort RJ.value RJ.start ++ (wTa K jA aA RA.bytes RA.length))) hF (ctX5_isName l D K jJ jA aA kJ_told aK aV RJ RA 6 o_3 ho_3 H.size) (cwV 1 hts gX5_kindNamed_X5_isName rfl rfl rfl hdX5_isName ⟨Nat.le_of_ble_eq_true rfl, Nat.le_of_ble_eq_true rfl⟩) hP hD hS hA [0, 1, 2] [] rfl rfl (by decide) (by decide) (by decide) [0, 1, 2] rfl (by decide) (fun hf hP2 hD2 => ht_pvS hK hE hS hf (va_recv hK hP (ci := 5) (q0 := 0) rfl rfl) hP2 hD2) rfl hl.1 rfl (Nat.le_of_ble_eq_true rfl) dX5_kindNamed_14 ⟨Nat.zero_le _, Nat.zero_le _⟩ (fun H locs hP hD hS => ?_)
    refine lv_if_eq (tgt := 22) hx hb dX5_kindNamed_17 (by decide) (fun c_4 => ?_) (fun c_4 => ?_)
    · replace hf := ht_t c_4 hf
      refine lv_aload_n hx hb dX5_kindNamed_22 rfl (lv_at hl 0 rfl) ?_
      refine va_ldcS hx hb hown (hE.2.1 7 (by decide)) dX5_kindNamed_23 ?_
      obtain ⟨o_5, ho_5, hf⟩ := ht_bn_ob hf
      refine ht_gVi (r := o_5) (rest := []) (As := [.ref (aK 7)]) (wc := (wTe K jJ jA kJ_told RJ.place RJ.sort RJ.value RJ.start ++ (wTa K jA aA RA.bytes RA.length))) (wr := []) (w1 := (wTe K jJ jA kJ_told RJ.place RJ.sort RJ.value RJ.start ++ (wTa K jA aA RA.bytes RA.length))) (w2 := (wTe K jJ jA kJ_told RJ.place RJ.sort RJ.value RJ.start ++ (wTa K jA aA RA.bytes RA.length))) hF (ctX5_isName l D K jJ jA aA kJ_told aK aV RJ RA 7 o_5 ho_5 H.size) (cwV 1 hts gX5_kindNamed_X5_isName rfl rfl rfl hdX5_isName ⟨Nat.le_of_ble_eq_true rfl, Nat.le_of_ble_eq_true rfl⟩) hP hD hS hA [0, 1, 2] [] rfl rfl (by decide) (by decide) (by decide) [0, 1, 2] rfl (by decide) (fun hf hP2 hD2 => ht_pvS hK hE hS hf (va_recv hK hP (ci := 5) (q0 := 0) rfl rfl) hP2 hD2) rfl hl.1 rfl (Nat.le_of_ble_eq_true rfl) dX5_kindNamed_25 ⟨Nat.zero_le _, Nat.zero_le _⟩ (fun H locs hP hD hS => ?_)
      refine lv_if_eq (tgt := 33) hx hb dX5_kindNamed_28 (by decide) (fun c_6 => ?_) (fun c_6 => ?_)
      · replace hf := ht_t c_6 hf
        refine lv_aload_n hx hb dX5_kindNamed_33 rfl (lv_at hl 0 rfl) ?_
        refine va_ldcS hx hb hown (hE.2.1 8 (by decide)) dX5_kindNamed_34 ?_
        obtain ⟨o_7, ho_7, hf⟩ := ht_bn_ob hf
        refine ht_gVi (r := o_7) (rest := []) (As := [.ref (aK 8)]) (wc := (wTe K jJ jA kJ_told RJ.place RJ.sort RJ.value RJ.start ++ (wTa K jA aA RA.bytes RA.length))) (wr := []) (w1 := (wTe K jJ jA kJ_told RJ.place RJ.sort RJ.value RJ.start ++ (wTa K jA aA RA.bytes RA.length))) (w2 := (wTe K jJ jA kJ_told RJ.place RJ.sort RJ.value RJ.start ++ (wTa K jA aA RA.bytes RA.length))) hF (ctX5_isName l D K jJ jA aA kJ_told aK aV RJ RA 8 o_7 ho_7 H.size) (cwV 1 hts gX5_kindNamed_X5_isName rfl rfl rfl hdX5_isName ⟨Nat.le_of_ble_eq_true rfl, Nat.le_of_ble_eq_true rfl⟩) hP hD hS hA [0, 1, 2] [] rfl rfl (by decide) (by decide) (by decide) [0, 1, 2] rfl (by decide) (fun hf hP2 hD2 => ht_pvS hK hE hS hf (va_recv hK hP (ci := 5) (q0 := 0) rfl rfl) hP2 hD2) rfl hl.1 rfl (Nat.le_of_ble_eq_true rfl) dX5_kindNamed_36 ⟨Nat.zero_le _, Nat.zero_le _⟩ (fun H locs hP hD hS => ?_)
        refine lv_if_eq (tgt := 44) hx hb dX5_kindNamed_39 (by decide) (fun c_8 => ?_) (fun c_8 => ?_)
        · replace hf := ht_t c_8 hf
          refine lv_aload_n hx hb dX5_kindNamed_44 rfl (lv_at hl 0 rfl) ?_
          refine va_ldcS hx hb hown (hE.2.1 9 (by decide)) dX5_kindNamed_45 ?_
          obtain ⟨o_9, ho_9, hf⟩ := ht_bn_ob hf
          refine ht_gVi (r := o_9) (rest := []) (As := [.ref (aK 9)]) (wc := (wTe K jJ jA kJ_told RJ.place RJ.sort RJ.value RJ.start ++ (wTa K jA aA RA.bytes RA.length))) (wr := []) (w1 := (wTe K jJ jA kJ_told RJ.place RJ.sort RJ.value RJ.start ++ (wTa K jA aA RA.bytes RA.length))) (w2 := (wTe K jJ jA kJ_told RJ.place RJ.sort RJ.value RJ.start ++ (wTa K jA aA RA.bytes RA.length))) hF (ctX5_isName l D K jJ jA aA kJ_told aK aV RJ RA 9 o_9 ho_9 H.size) (cwV 1 hts gX5_kindNamed_X5_isName rfl rfl rfl hdX5_isName ⟨Nat.le_of_ble_eq_true rfl, Nat.le_of_ble_eq_true rfl⟩) hP hD hS hA [0, 1, 2] [] rfl rfl (by decide) (by decide) (by decide) [0, 1, 2] rfl (by decide) (fun hf hP2 hD2 => ht_pvS hK hE hS hf (va_recv hK hP (ci := 5) (q0 := 0) rfl rfl) hP2 hD2) rfl hl.1 rfl (Nat.le_of_ble_eq_true rfl) dX5_kindNamed_47 ⟨Nat.zero_le _, Nat.zero_le _⟩ (fun H locs hP hD hS => ?_)
          refine lv_if_eq (tgt := 55) hx hb dX5_kindNamed_50 (by decide) (fun c_10 => ?_) (fun c_10 => ?_)
          · replace hf := ht_t c_10 hf
            refine lv_aload_n hx hb dX5_kindNamed_55 rfl (lv_at hl 0 rfl) ?_
            refine va_ldcS hx hb hown (hE.2.1 10 (by decide)) dX5_kindNamed_56 ?_
            obtain ⟨o_11, ho_11, hf⟩ := ht_bn_ob hf
            refine ht_gVi (r := o_11) (rest := []) (As := [.ref (aK 10)]) (wc := (wTe K jJ jA kJ_told RJ.place RJ.sort RJ.value RJ.start ++ (wTa K jA aA RA.bytes RA.length))) (wr := []) (w1 := (wTe K jJ jA kJ_told RJ.place RJ.sort RJ.value RJ.start ++ (wTa K jA aA RA.bytes RA.length))) (w2 := (wTe K jJ jA kJ_told RJ.place RJ.sort RJ.value RJ.start ++ (wTa K jA aA RA.bytes RA.length))) hF (ctX5_isName l D K jJ jA aA kJ_told aK aV RJ RA 10 o_11 ho_11 H.size) (cwV 1 hts gX5_kindNamed_X5_isName rfl rfl rfl hdX5_isName ⟨Nat.le_of_ble_eq_true rfl, Nat.le_of_ble_eq_true rfl⟩) hP hD hS hA [0, 1, 2] [] rfl rfl (by decide) (by decide) (by decide) [0, 1, 2] rfl (by decide) (fun hf hP2 hD2 => ht_pvS hK hE hS hf (va_recv hK hP (ci := 5) (q0 := 0) rfl rfl) hP2 hD2) rfl hl.1 rfl (Nat.le_of_ble_eq_true rfl) dX5_kindNamed_58 ⟨Nat.zero_le _, Nat.zero_le _⟩ (fun H locs hP hD hS => ?_)
            refine lv_if_eq (tgt := 68) hx hb dX5_kindNamed_61 (by decide) (fun c_12 => ?_) (fun c_12 => ?_)
            · replace hf := ht_t c_12 hf
              refine lv_iconst (v := -1) hx hb dX5_kindNamed_68 (by decide) ?_
              have ho := Option.some.inj hf
              subst ho; subst hQ
              exact ht_iret hx hb hr hlk rfl hK hP hD hS dX5_kindNamed_69
            · replace hf := ht_f c_12 hf
              refine lv_iconst (v := 5) hx hb dX5_kindNamed_64 (by decide) ?_
              refine lv_goto (tgt := 69) hx hb dX5_kindNamed_65 (by decide) ?_
              have ho := Option.some.inj hf
              subst ho; subst hQ
              exact ht_iret hx hb hr hlk rfl hK hP hD hS dX5_kindNamed_69
          · replace hf := ht_f c_10 hf
            refine lv_iconst (v := 4) hx hb dX5_kindNamed_53 (by decide) ?_
            have ho := Option.some.inj hf
            subst ho; subst hQ
            exact ht_iret hx hb hr hlk rfl hK hP hD hS dX5_kindNamed_54
        · replace hf := ht_f c_8 hf
          refine lv_iconst (v := 3) hx hb dX5_kindNamed_42 (by decide) ?_
          have ho := Option.some.inj hf
          subst ho; subst hQ
          exact ht_iret hx hb hr hlk rfl hK hP hD hS dX5_kindNamed_43
      · replace hf := ht_f c_6 hf
        refine lv_iconst (v := 2) hx hb dX5_kindNamed_31 (by decide) ?_
        have ho := Option.some.inj hf
        subst ho; subst hQ
        exact ht_iret hx hb hr hlk rfl hK hP hD hS dX5_kindNamed_32
    · replace hf := ht_f c_4 hf
      refine lv_iconst (v := 1) hx hb dX5_kindNamed_20 (by decide) ?_
      have ho := Option.some.inj hf
      subst ho; subst hQ
      exact ht_iret hx hb hr hlk rfl hK hP hD hS dX5_kindNamed_21
  · replace hf := ht_f c_2 hf
    refine lv_iconst (v := 0) hx hb dX5_kindNamed_9 (by decide) ?_
    have ho := Option.some.inj hf
    subst ho; subst hQ
    exact ht_iret hx hb hr hlk rfl hK hP hD hS dX5_kindNamed_10
abbrev rmX5_lawNamed : Room := { frames := 5, cells := 0, slots := 0, locals := 107 }
theorem hdX5_lawNamed : yX5_lawNamed.cls = RX5 ∧ yX5_lawNamed.cls ≠ "java/lang/invoke/MethodHandle" ∧ yX5_lawNamed.cls ≠ "java/lang/invoke/VarHandle" ∧ (parseMethodDescriptor yX5_lawNamed.desc).map (fun d => d.parameters.length) = some 0 := by decide +kernel
def fX5_lawNamed (RJ : TellV) (RA : TapeV) : Option Int32 := ht_bn (fX5_isName RJ RA 11) (fun o_1 => if o_1 = 0 then (ht_bn (fX5_isName RJ RA 12) (fun o_3 => if o_3 = 0 then (ht_bn (fX5_isName RJ RA 13) (fun o_5 => if o_5 = 0 then (ht_bn (fX5_isName RJ RA 14) (fun o_7 => if o_7 = 0 then (some (-1 : Int32)) else (some (3 : Int32)))) else (some (2 : Int32)))) else (some (1 : Int32)))) else (some (0 : Int32)))
set_option maxHeartbeats 1000000 in
set_option maxRecDepth 100000 in
theorem ctX5_lawNamed (l : Launch) (D : va_G) (K : Nat → ClassId) (jJ : Nat) (jA : Nat) (aA : Nat → Nat) (kJ_told : Nat) (aK : Nat → Nat) (aV : Nat → Nat) (RJ : TellV) (RA : TapeV) (o : Int32) (hf : fX5_lawNamed RJ RA = some o) (sz : Nat) : Met l yX5_lawNamed wsX5_lawNamed rmX5_lawNamed (ht_PreS D K aK aV [.ref jJ] (wTe K jJ jA kJ_told RJ.place RJ.sort RJ.value RJ.start ++ (wTa K jA aA RA.bytes RA.length)) sz) (ht_Qi D K (wTe K jJ jA kJ_told RJ.place RJ.sort RJ.value RJ.start ++ (wTa K jA aA RA.bytes RA.length)) o (va_A (wTe K jJ jA kJ_told RJ.place RJ.sort RJ.value RJ.start ++ (wTa K jA aA RA.bytes RA.length)) sz)) 0 0 (va_A (wTe K jJ jA kJ_told RJ.place RJ.sort RJ.value RJ.start ++ (wTa K jA aA RA.bytes RA.length)) sz) := by
  refine ht_enterS (Qf := ht_Qi D K (wTe K jJ jA kJ_told RJ.place RJ.sort RJ.value RJ.start ++ (wTa K jA aA RA.bytes RA.length)) o) (cc := cX5_lawNamed) (maxL := 1) (rt := (some .int)) (by decide) rfl (Nat.le_of_ble_eq_true rfl) ?_ sz
  intro p e s m below meth c A Q H locs ls hQ hx hb hr hlk hmn hml hown hts hA hK hE hP hD hS hl
  have hown : s.vm.findClass RX5 = some m.cls := hown
  have hF : CallFix p m c cX5_lawNamed 1 s ([.ref jJ] : List Value).toArray wsX5_lawNamed RX5 := ⟨hx, hb, hml, hown, hts⟩
  have hl : lv_has ls 1 [(0, .ref jJ)] := hl
  delta fX5_lawNamed at hf
  refine lv_aload_n hx hb dX5_lawNamed_0 rfl (lv_at hl 0 rfl) ?_
  refine va_ldcS hx hb hown (hE.2.1 11 (by decide)) dX5_lawNamed_1 ?_
  obtain ⟨o_1, ho_1, hf⟩ := ht_bn_ob hf
  refine ht_gVi (r := o_1) (rest := []) (As := [.ref (aK 11)]) (wc := (wTe K jJ jA kJ_told RJ.place RJ.sort RJ.value RJ.start ++ (wTa K jA aA RA.bytes RA.length))) (wr := []) (w1 := (wTe K jJ jA kJ_told RJ.place RJ.sort RJ.value RJ.start ++ (wTa K jA aA RA.bytes RA.length))) (w2 := (wTe K jJ jA kJ_told RJ.place RJ.sort RJ.value RJ.start ++ (wTa K jA aA RA.bytes RA.length))) hF (ctX5_isName l D K jJ jA aA kJ_told aK aV RJ RA 11 o_1 ho_1 H.size) (cwV 1 hts gX5_lawNamed_X5_isName rfl rfl rfl hdX5_isName ⟨Nat.le_of_ble_eq_true rfl, Nat.le_of_ble_eq_true rfl⟩) hP hD hS hA [0, 1, 2] [] rfl rfl (by decide) (by decide) (by decide) [0, 1, 2] rfl (by decide) (fun hf hP2 hD2 => ht_pvS hK hE hS hf (va_recv hK hP (ci := 5) (q0 := 0) rfl rfl) hP2 hD2) rfl hl.1 rfl (Nat.le_of_ble_eq_true rfl) dX5_lawNamed_3 ⟨Nat.zero_le _, Nat.zero_le _⟩ (fun H locs hP hD hS => ?_)
  refine lv_if_eq (tgt := 11) hx hb dX5_lawNamed_6 (by decide) (fun c_2 => ?_) (fun c_2 => ?_)
  · replace hf := ht_t c_2 hf
    refine lv_aload_n hx hb dX5_lawNamed_11 rfl (lv_at hl 0 rfl) ?_
    refine va_ldcS hx hb hown (hE.2.1 12 (by decide)) dX5_lawNamed_12 ?_
    obtain ⟨o_3, ho_3, hf⟩ := ht_bn_ob hf
    refine ht_gVi (r := o_3) (rest := []) (As := [.ref (aK 12)]) (wc := (wTe K jJ jA kJ_told RJ.place RJ.sort RJ.value RJ.start ++ (wTa K jA aA RA.bytes RA.length))) (wr := []) (w1 := (wTe K jJ jA kJ_told RJ.place RJ.sort RJ.value RJ.start ++ (wTa K jA aA RA.bytes RA.length))) (w2 := (wTe K jJ jA kJ_told RJ.place RJ.sort RJ.value RJ.start ++ (wTa K jA aA RA.bytes RA.length))) hF (ctX5_isName l D K jJ jA aA kJ_told aK aV RJ RA 12 o_3 ho_3 H.size) (cwV 1 hts gX5_lawNamed_X5_isName rfl rfl rfl hdX5_isName ⟨Nat.le_of_ble_eq_true rfl, Nat.le_of_ble_eq_true rfl⟩) hP hD hS hA [0, 1, 2] [] rfl rfl (by decide) (by decide) (by decide) [0, 1, 2] rfl (by decide) (fun hf hP2 hD2 => ht_pvS hK hE hS hf (va_recv hK hP (ci := 5) (q0 := 0) rfl rfl) hP2 hD2) rfl hl.1 rfl (Nat.le_of_ble_eq_true rfl) dX5_lawNamed_14 ⟨Nat.zero_le _, Nat.zero_le _⟩ (fun H locs hP hD hS => ?_)
    refine lv_if_eq (tgt := 22) hx hb dX5_lawNamed_17 (by decide) (fun c_4 => ?_) (fun c_4 => ?_)
    · replace hf := ht_t c_4 hf
      refine lv_aload_n hx hb dX5_lawNamed_22 rfl (lv_at hl 0 rfl) ?_
      refine va_ldcS hx hb hown (hE.2.1 13 (by decide)) dX5_lawNamed_23 ?_
      obtain ⟨o_5, ho_5, hf⟩ := ht_bn_ob hf
      refine ht_gVi (r := o_5) (rest := []) (As := [.ref (aK 13)]) (wc := (wTe K jJ jA kJ_told RJ.place RJ.sort RJ.value RJ.start ++ (wTa K jA aA RA.bytes RA.length))) (wr := []) (w1 := (wTe K jJ jA kJ_told RJ.place RJ.sort RJ.value RJ.start ++ (wTa K jA aA RA.bytes RA.length))) (w2 := (wTe K jJ jA kJ_told RJ.place RJ.sort RJ.value RJ.start ++ (wTa K jA aA RA.bytes RA.length))) hF (ctX5_isName l D K jJ jA aA kJ_told aK aV RJ RA 13 o_5 ho_5 H.size) (cwV 1 hts gX5_lawNamed_X5_isName rfl rfl rfl hdX5_isName ⟨Nat.le_of_ble_eq_true rfl, Nat.le_of_ble_eq_true rfl⟩) hP hD hS hA [0, 1, 2] [] rfl rfl (by decide) (by decide) (by decide) [0, 1, 2] rfl (by decide) (fun hf hP2 hD2 => ht_pvS hK hE hS hf (va_recv hK hP (ci := 5) (q0 := 0) rfl rfl) hP2 hD2) rfl hl.1 rfl (Nat.le_of_ble_eq_true rfl) dX5_lawNamed_25 ⟨Nat.zero_le _, Nat.zero_le _⟩ (fun H locs hP hD hS => ?_)
      refine lv_if_eq (tgt := 33) hx hb dX5_lawNamed_28 (by decide) (fun c_6 => ?_) (fun c_6 => ?_)
      · replace hf := ht_t c_6 hf
        refine lv_aload_n hx hb dX5_lawNamed_33 rfl (lv_at hl 0 rfl) ?_
        refine va_ldcS hx hb hown (hE.2.1 14 (by decide)) dX5_lawNamed_34 ?_
        obtain ⟨o_7, ho_7, hf⟩ := ht_bn_ob hf
        refine ht_gVi (r := o_7) (rest := []) (As := [.ref (aK 14)]) (wc := (wTe K jJ jA kJ_told RJ.place RJ.sort RJ.value RJ.start ++ (wTa K jA aA RA.bytes RA.length))) (wr := []) (w1 := (wTe K jJ jA kJ_told RJ.place RJ.sort RJ.value RJ.start ++ (wTa K jA aA RA.bytes RA.length))) (w2 := (wTe K jJ jA kJ_told RJ.place RJ.sort RJ.value RJ.start ++ (wTa K jA aA RA.bytes RA.length))) hF (ctX5_isName l D K jJ jA aA kJ_told aK aV RJ RA 14 o_7 ho_7 H.size) (cwV 1 hts gX5_lawNamed_X5_isName rfl rfl rfl hdX5_isName ⟨Nat.le_of_ble_eq_true rfl, Nat.le_of_ble_eq_true rfl⟩) hP hD hS hA [0, 1, 2] [] rfl rfl (by decide) (by decide) (by decide) [0, 1, 2] rfl (by decide) (fun hf hP2 hD2 => ht_pvS hK hE hS hf (va_recv hK hP (ci := 5) (q0 := 0) rfl rfl) hP2 hD2) rfl hl.1 rfl (Nat.le_of_ble_eq_true rfl) dX5_lawNamed_36 ⟨Nat.zero_le _, Nat.zero_le _⟩ (fun H locs hP hD hS => ?_)
        refine lv_if_eq (tgt := 46) hx hb dX5_lawNamed_39 (by decide) (fun c_8 => ?_) (fun c_8 => ?_)
        · replace hf := ht_t c_8 hf
          refine lv_iconst (v := -1) hx hb dX5_lawNamed_46 (by decide) ?_
          have ho := Option.some.inj hf
          subst ho; subst hQ
          exact ht_iret hx hb hr hlk rfl hK hP hD hS dX5_lawNamed_47
        · replace hf := ht_f c_8 hf
          refine lv_iconst (v := 3) hx hb dX5_lawNamed_42 (by decide) ?_
          refine lv_goto (tgt := 47) hx hb dX5_lawNamed_43 (by decide) ?_
          have ho := Option.some.inj hf
          subst ho; subst hQ
          exact ht_iret hx hb hr hlk rfl hK hP hD hS dX5_lawNamed_47
      · replace hf := ht_f c_6 hf
        refine lv_iconst (v := 2) hx hb dX5_lawNamed_31 (by decide) ?_
        have ho := Option.some.inj hf
        subst ho; subst hQ
        exact ht_iret hx hb hr hlk rfl hK hP hD hS dX5_lawNamed_32
    · replace hf := ht_f c_4 hf
      refine lv_iconst (v := 1) hx hb dX5_lawNamed_20 (by decide) ?_
      have ho := Option.some.inj hf
      subst ho; subst hQ
      exact ht_iret hx hb hr hlk rfl hK hP hD hS dX5_lawNamed_21
  · replace hf := ht_f c_2 hf
    refine lv_iconst (v := 0) hx hb dX5_lawNamed_9 (by decide) ?_
    have ho := Option.some.inj hf
    subst ho; subst hQ
    exact ht_iret hx hb hr hlk rfl hK hP hD hS dX5_lawNamed_10
abbrev rmX5_readOption : Room := { frames := 5, cells := 0, slots := 0, locals := 107 }
theorem hdX5_readOption : yX5_readOption.cls = RX5 ∧ yX5_readOption.cls ≠ "java/lang/invoke/MethodHandle" ∧ yX5_readOption.cls ≠ "java/lang/invoke/VarHandle" ∧ (parseMethodDescriptor yX5_readOption.desc).map (fun d => d.parameters.length) = some 3 := by decide +kernel
def fX5_readOption (RJ : TellV) (RA : TapeV) (n0 : Nat) (p1 : Int32) (p2 : Int32) : Option (Int32 × Int32 × Int32 × Int32 × Int32) := ht_bn (fX5_isName RJ RA n0) (fun o_1 => if o_1 = 0 then (some (p2, RJ.place, RJ.sort, RJ.value, RJ.start)) else (ht_bn (fX5_readAhead RJ RA) (fun o_3 => ht_bn (fX5_readNumber (o_3.1, o_3.2.1, o_3.2.2.1, o_3.2.2.2) RA p1) (fun o_4 => some (o_4.1, o_4.2.1, o_4.2.2.1, o_4.2.2.2.1, o_4.2.2.2.2)))))
set_option maxHeartbeats 1000000 in
set_option maxRecDepth 100000 in
theorem ctX5_readOption (l : Launch) (D : va_G) (K : Nat → ClassId) (jJ : Nat) (jA : Nat) (aA : Nat → Nat) (kJ_told : Nat) (aK : Nat → Nat) (aV : Nat → Nat) (RJ : TellV) (RA : TapeV) (n0 : Nat) (p1 : Int32) (p2 : Int32) (o : (Int32 × Int32 × Int32 × Int32 × Int32)) (hf : fX5_readOption RJ RA n0 p1 p2 = some o) (sz : Nat) : Met l yX5_readOption wsX5_readOption rmX5_readOption (ht_PreS D K aK aV [.ref jJ, .ref (aK n0), .int p1, .int p2] (wTe K jJ jA kJ_told RJ.place RJ.sort RJ.value RJ.start ++ (wTa K jA aA RA.bytes RA.length)) sz) (ht_Qi D K (wTe K jJ jA kJ_told o.2.1 o.2.2.1 o.2.2.2.1 o.2.2.2.2 ++ (wTa K jA aA RA.bytes RA.length)) o.1 (va_A (wTe K jJ jA kJ_told RJ.place RJ.sort RJ.value RJ.start ++ (wTa K jA aA RA.bytes RA.length)) sz)) 0 0 (va_A (wTe K jJ jA kJ_told RJ.place RJ.sort RJ.value RJ.start ++ (wTa K jA aA RA.bytes RA.length)) sz) := by
  refine ht_enterS (Qf := ht_Qi D K (wTe K jJ jA kJ_told o.2.1 o.2.2.1 o.2.2.2.1 o.2.2.2.2 ++ (wTa K jA aA RA.bytes RA.length)) o.1) (cc := cX5_readOption) (maxL := 4) (rt := (some .int)) (by decide) rfl (Nat.le_of_ble_eq_true rfl) ?_ sz
  intro p e s m below meth c A Q H locs ls hQ hx hb hr hlk hmn hml hown hts hA hK hE hP hD hS hl
  have hown : s.vm.findClass RX5 = some m.cls := hown
  have hF : CallFix p m c cX5_readOption 4 s ([.ref jJ, .ref (aK n0), .int p1, .int p2] : List Value).toArray wsX5_readOption RX5 := ⟨hx, hb, hml, hown, hts⟩
  have hl : lv_has ls 4 [(0, .ref jJ), (1, .ref (aK n0)), (2, .int p1), (3, .int p2)] := hl
  delta fX5_readOption at hf
  refine lv_aload_n hx hb dX5_readOption_0 rfl (lv_at hl 0 rfl) ?_
  refine lv_aload_n hx hb dX5_readOption_1 rfl (lv_at hl 1 rfl) ?_
  obtain ⟨o_1, ho_1, hf⟩ := ht_bn_ob hf
  refine ht_gVi (r := o_1) (rest := []) (As := [.ref (aK n0)]) (wc := (wTe K jJ jA kJ_told RJ.place RJ.sort RJ.value RJ.start ++ (wTa K jA aA RA.bytes RA.length))) (wr := []) (w1 := (wTe K jJ jA kJ_told RJ.place RJ.sort RJ.value RJ.start ++ (wTa K jA aA RA.bytes RA.length))) (w2 := (wTe K jJ jA kJ_told RJ.place RJ.sort RJ.value RJ.start ++ (wTa K jA aA RA.bytes RA.length))) hF (ctX5_isName l D K jJ jA aA kJ_told aK aV RJ RA n0 o_1 ho_1 H.size) (cwV 1 hts gX5_readOption_X5_isName rfl rfl rfl hdX5_isName ⟨Nat.le_of_ble_eq_true rfl, Nat.le_of_ble_eq_true rfl⟩) hP hD hS hA [0, 1, 2] [] rfl rfl (by decide) (by decide) (by decide) [0, 1, 2] rfl (by decide) (fun hf hP2 hD2 => ht_pvS hK hE hS hf (va_recv hK hP (ci := 5) (q0 := 0) rfl rfl) hP2 hD2) rfl hl.1 rfl (Nat.le_of_ble_eq_true rfl) dX5_readOption_2 ⟨Nat.zero_le _, Nat.zero_le _⟩ (fun H locs hP hD hS => ?_)
  refine lv_if_ne (tgt := 10) hx hb dX5_readOption_5 (by decide) (fun c_2 => ?_) (fun c_2 => ?_)
  · replace hf := ht_f c_2 hf
    refine lv_aload_n hx hb dX5_readOption_10 rfl (lv_at hl 0 rfl) ?_
    obtain ⟨o_3, ho_3, hf⟩ := ht_bn_ob hf
    refine ht_callVv (rest := []) (As := []) (wc := (wTe K jJ jA kJ_told RJ.place RJ.sort RJ.value RJ.start ++ (wTa K jA aA RA.bytes RA.length))) (wr := []) (w1 := (wTe K jJ jA kJ_told o_3.1 o_3.2.1 o_3.2.2.1 o_3.2.2.2 ++ (wTa K jA aA RA.bytes RA.length))) (w2 := (wTe K jJ jA kJ_told o_3.1 o_3.2.1 o_3.2.2.1 o_3.2.2.2 ++ (wTa K jA aA RA.bytes RA.length))) hF (ctX5_readAhead l D K jJ jA aA kJ_told RJ RA o_3 ho_3 H.size) (cwV 0 hts gX5_readOption_X5_readAhead rfl rfl rfl hdX5_readAhead ⟨Nat.le_of_ble_eq_true rfl, Nat.le_of_ble_eq_true rfl⟩) hK hP hD hS hA [0, 1, 2] [] rfl rfl (by decide) (by decide) (by decide) [0, 1, 2] rfl (by decide) (va_recv hK hP (ci := 5) (q0 := 0) rfl rfl) rfl hl.1 rfl (Nat.le_of_ble_eq_true rfl) dX5_readOption_11 ⟨Nat.zero_le _, Nat.zero_le _⟩ (fun H locs hP hD hS => ?_)
    refine lv_aload_n hx hb dX5_readOption_14 rfl (lv_at hl 0 rfl) ?_
    refine lv_iload_n hx hb dX5_readOption_15 rfl (lv_at hl 2 rfl) ?_
    obtain ⟨o_4, ho_4, hf⟩ := ht_bn_ob hf
    refine ht_callVi (r := o_4.1) (rest := []) (As := [.int p1]) (wc := (wTe K jJ jA kJ_told o_3.1 o_3.2.1 o_3.2.2.1 o_3.2.2.2 ++ (wTa K jA aA RA.bytes RA.length))) (wr := []) (w1 := (wTe K jJ jA kJ_told o_4.2.1 o_4.2.2.1 o_4.2.2.2.1 o_4.2.2.2.2 ++ (wTa K jA aA RA.bytes RA.length))) (w2 := (wTe K jJ jA kJ_told o_4.2.1 o_4.2.2.1 o_4.2.2.2.1 o_4.2.2.2.2 ++ (wTa K jA aA RA.bytes RA.length))) hF (ctX5_readNumber l D K jJ jA aA kJ_told (o_3.1, o_3.2.1, o_3.2.2.1, o_3.2.2.2) RA p1 o_4 ho_4 H.size) (cwV 1 hts gX5_readOption_X5_readNumber rfl rfl rfl hdX5_readNumber ⟨Nat.le_of_ble_eq_true rfl, Nat.le_of_ble_eq_true rfl⟩) hK hP hD hS hA [0, 1, 2] [] rfl rfl (by decide) (by decide) (by decide) [0, 1, 2] rfl (by decide) (va_recv hK hP (ci := 5) (q0 := 0) rfl rfl) rfl hl.1 rfl (Nat.le_of_ble_eq_true rfl) dX5_readOption_16 ⟨Nat.zero_le _, Nat.zero_le _⟩ (fun H locs hP hD hS => ?_)
    have ho := Option.some.inj hf
    subst ho; subst hQ
    exact ht_iret hx hb hr hlk rfl hK hP hD hS dX5_readOption_19
  · replace hf := ht_t c_2 hf
    refine lv_iload_n hx hb dX5_readOption_8 rfl (lv_at hl 3 rfl) ?_
    have ho := Option.some.inj hf
    subst ho; subst hQ
    exact ht_iret hx hb hr hlk rfl hK hP hD hS dX5_readOption_9
abbrev rmX5_readPerson : Room := { frames := 6, cells := 0, slots := 0, locals := 130 }
theorem hdX5_readPerson : yX5_readPerson.cls = RX5 ∧ yX5_readPerson.cls ≠ "java/lang/invoke/MethodHandle" ∧ yX5_readPerson.cls ≠ "java/lang/invoke/VarHandle" ∧ (parseMethodDescriptor yX5_readPerson.desc).map (fun d => d.parameters.length) = some 0 := by decide +kernel
def fX5_readPerson (RJ : TellV) (RA : TapeV) (RT : TownV) : Option (Int32 × Int32 × Int32 × Int32 × Int32 × AI × AI × AI × AI × AI × AI × Int32) := ht_bn (fX5_kindNamed RJ RA) (fun o_1 => if o_1 = (-1 : Int32) then (some ((0 : Int32), RJ.place, RJ.sort, RJ.value, RJ.start, RT.kind, RT.need, RT.saved, RT.voice, RT.partner, RT.speaks, RT.count)) else (if RT.count < (8 : Int32) then (ht_bn (fX5_readAhead RJ RA) (fun o_4 => ht_bn (fX5_readOption (o_4.1, o_4.2.1, o_4.2.2.1, o_4.2.2.2) RA 1 (99 : Int32) (0 : Int32)) (fun o_5 => ht_nm o_5.1 (fun x2_6 => if x2_6 = (-1 : Int32) then (some ((0 : Int32), o_5.2.1, o_5.2.2.1, o_5.2.2.2.1, o_5.2.2.2.2, RT.kind, RT.need, RT.saved, RT.voice, RT.partner, RT.speaks, RT.count)) else (ht_bn (fX5_readOption (o_5.2.1, o_5.2.2.1, o_5.2.2.2.1, o_5.2.2.2.2) RA 2 (99 : Int32) (0 : Int32)) (fun o_8 => ht_nm o_8.1 (fun x3_9 => if x3_9 = (-1 : Int32) then (some ((0 : Int32), o_8.2.1, o_8.2.2.1, o_8.2.2.2.1, o_8.2.2.2.2, RT.kind, RT.need, RT.saved, RT.voice, RT.partner, RT.speaks, RT.count)) else (ht_bn (fX5_readOption (o_8.2.1, o_8.2.2.1, o_8.2.2.2.1, o_8.2.2.2.2) RA 3 (9 : Int32) (3 : Int32)) (fun o_11 => ht_nm o_11.1 (fun x4_12 => if x4_12 = (-1 : Int32) then (some ((0 : Int32), o_11.2.1, o_11.2.2.1, o_11.2.2.2.1, o_11.2.2.2.2, RT.kind, RT.need, RT.saved, RT.voice, RT.partner, RT.speaks, RT.count)) else (ht_bn (fX5_readSemicolon (o_11.2.1, o_11.2.2.1, o_11.2.2.2.1, o_11.2.2.2.2) RA) (fun o_14 => if o_14.1 = 0 then (some ((0 : Int32), o_14.2.1, o_14.2.2.1, o_14.2.2.2.1, o_14.2.2.2.2, RT.kind, RT.need, RT.saved, RT.voice, RT.partner, RT.speaks, RT.count)) else (ht_bn (fX6_add RT o_1 x2_6 x3_9 x4_12) (fun o_16 => some ((1 : Int32), o_14.2.1, o_14.2.2.1, o_14.2.2.2.1, o_14.2.2.2.2, o_16.1, o_16.2.1, o_16.2.2.1, o_16.2.2.2.1, o_16.2.2.2.2.1, o_16.2.2.2.2.2.1, o_16.2.2.2.2.2.2))))))))))))))) else (some ((0 : Int32), RJ.place, RJ.sort, RJ.value, RJ.start, RT.kind, RT.need, RT.saved, RT.voice, RT.partner, RT.speaks, RT.count))))
set_option maxHeartbeats 1000000 in
set_option maxRecDepth 100000 in
theorem ctX5_readPerson (l : Launch) (D : va_G) (K : Nat → ClassId) (jJ : Nat) (jA : Nat) (aA : Nat → Nat) (jT : Nat) (aT : Nat → Nat) (aK : Nat → Nat) (aV : Nat → Nat) (RJ : TellV) (RA : TapeV) (RT : TownV) (o : (Int32 × Int32 × Int32 × Int32 × Int32 × AI × AI × AI × AI × AI × AI × Int32)) (hf : fX5_readPerson RJ RA RT = some o) (sz : Nat) : Met l yX5_readPerson wsX5_readPerson rmX5_readPerson (ht_PreS D K aK aV [.ref jJ] (wTe K jJ jA jT RJ.place RJ.sort RJ.value RJ.start ++ (wTa K jA aA RA.bytes RA.length ++ (wTw K jT aT RT.laws RT.kind RT.need RT.saved RT.voice RT.partner RT.speaks RT.count RT.day RT.heard RT.geese RT.z))) sz) (ht_Qi D K (wTe K jJ jA jT o.2.1 o.2.2.1 o.2.2.2.1 o.2.2.2.2.1 ++ (wTa K jA aA RA.bytes RA.length ++ (wTw K jT aT RT.laws o.2.2.2.2.2.1 o.2.2.2.2.2.2.1 o.2.2.2.2.2.2.2.1 o.2.2.2.2.2.2.2.2.1 o.2.2.2.2.2.2.2.2.2.1 o.2.2.2.2.2.2.2.2.2.2.1 o.2.2.2.2.2.2.2.2.2.2.2 RT.day RT.heard RT.geese RT.z))) o.1 (va_A (wTe K jJ jA jT RJ.place RJ.sort RJ.value RJ.start ++ (wTa K jA aA RA.bytes RA.length ++ (wTw K jT aT RT.laws RT.kind RT.need RT.saved RT.voice RT.partner RT.speaks RT.count RT.day RT.heard RT.geese RT.z))) sz)) 0 0 (va_A (wTe K jJ jA jT RJ.place RJ.sort RJ.value RJ.start ++ (wTa K jA aA RA.bytes RA.length ++ (wTw K jT aT RT.laws RT.kind RT.need RT.saved RT.voice RT.partner RT.speaks RT.count RT.day RT.heard RT.geese RT.z))) sz) := by
  refine ht_enterS (Qf := ht_Qi D K (wTe K jJ jA jT o.2.1 o.2.2.1 o.2.2.2.1 o.2.2.2.2.1 ++ (wTa K jA aA RA.bytes RA.length ++ (wTw K jT aT RT.laws o.2.2.2.2.2.1 o.2.2.2.2.2.2.1 o.2.2.2.2.2.2.2.1 o.2.2.2.2.2.2.2.2.1 o.2.2.2.2.2.2.2.2.2.1 o.2.2.2.2.2.2.2.2.2.2.1 o.2.2.2.2.2.2.2.2.2.2.2 RT.day RT.heard RT.geese RT.z))) o.1) (cc := cX5_readPerson) (maxL := 5) (rt := (some .boolean)) (by decide) rfl (Nat.le_of_ble_eq_true rfl) ?_ sz
  intro p e s m below meth c A Q H locs ls hQ hx hb hr hlk hmn hml hown hts hA hK hE hP hD hS hl
  have hown : s.vm.findClass RX5 = some m.cls := hown
  have hF : CallFix p m c cX5_readPerson 5 s ([.ref jJ] : List Value).toArray wsX5_readPerson RX5 := ⟨hx, hb, hml, hown, hts⟩
  have hl : lv_has ls 5 [(0, .ref jJ)] := hl
  have iw5 : ∀ w ∈ u_ws RX5 TX5 6, w ∈ wsX5_readPerson := by decide +kernel
  have kw1 := hts (.fieldLink RX5 15 "HeldTongues$Telling" "told" "LHeldTongues$Town;") (by decide +kernel)
  have iw6 : ∀ w ∈ u_ws RX6 TX6 12, w ∈ wsX5_readPerson := by decide +kernel
  have kw3 := hts (.fieldLink RX5 53 "HeldTongues$Town" "count" "I") (by decide +kernel)
  delta fX5_readPerson at hf
  refine lv_aload_n hx hb dX5_readPerson_0 rfl (lv_at hl 0 rfl) ?_
  obtain ⟨o_1, ho_1, hf⟩ := ht_bn_ob hf
  refine ht_gVi (r := o_1) (rest := []) (As := []) (wc := (wTe K jJ jA jT RJ.place RJ.sort RJ.value RJ.start ++ (wTa K jA aA RA.bytes RA.length))) (wr := (wTw K jT aT RT.laws RT.kind RT.need RT.saved RT.voice RT.partner RT.speaks RT.count RT.day RT.heard RT.geese RT.z)) (w1 := (wTe K jJ jA jT RJ.place RJ.sort RJ.value RJ.start ++ (wTa K jA aA RA.bytes RA.length))) (w2 := (wTe K jJ jA jT RJ.place RJ.sort RJ.value RJ.start ++ (wTa K jA aA RA.bytes RA.length ++ (wTw K jT aT RT.laws RT.kind RT.need RT.saved RT.voice RT.partner RT.speaks RT.count RT.day RT.heard RT.geese RT.z)))) hF (ctX5_kindNamed l D K jJ jA aA jT aK aV RJ RA o_1 ho_1 H.size) (cwV 0 hts gX5_readPerson_X5_kindNamed rfl rfl rfl hdX5_kindNamed ⟨Nat.le_of_ble_eq_true rfl, Nat.le_of_ble_eq_true rfl⟩) hP hD hS hA [0, 1, 2] [3, 4, 5, 6, 7, 8, 9, 10] rfl rfl (by decide) (by decide) (by decide) [8, 9, 10, 0, 1, 2, 3, 4, 5, 6, 7] rfl (by decide) (fun hf hP2 hD2 => ht_pvS hK hE hS hf (va_recv hK hP (ci := 5) (q0 := 0) rfl rfl) hP2 hD2) rfl hl.1 rfl (Nat.le_of_ble_eq_true rfl) dX5_readPerson_1 ⟨Nat.zero_le _, Nat.zero_le _⟩ (fun H locs hP hD hS => ?_)
  refine lv_istore_n (lv' := [(1, .int o_1), (0, .ref jJ)]) hx hb dX5_readPerson_4 rfl hl (by decide) rfl (fun ls hl => ?_)
  refine lv_iload_n hx hb dX5_readPerson_5 rfl (lv_at hl 0 rfl) ?_
  refine lv_iconst (v := -1) hx hb dX5_readPerson_6 (by decide) ?_
  refine lv_icmp_eq (tgt := 22) hx hb dX5_readPerson_7 (by decide) (fun c_2 => ?_) (fun c_2 => ?_)
  · replace hf := ht_t c_2 hf
    refine lv_iconst (v := 0) hx hb dX5_readPerson_22 (by decide) ?_
    have ho := Option.some.inj hf
    subst ho; subst hQ
    exact ht_iret hx hb hr hlk (show narrow .boolean (.int (0 : Int32)) = .int (0 : Int32) from rfl) hK hP hD hS dX5_readPerson_23
  · replace hf := ht_f c_2 hf
    refine lv_aload_n hx hb dX5_readPerson_10 rfl (lv_at hl 1 rfl) ?_
    refine va_get (D := D) (ci := 5) (v := .ref jT) (C := RX5) (T := TX5) (N := 6) hx hb hts iw5 hown hK hP 0 rfl rfl 1 (by decide) kw1 (fun _ h9 => h9) rfl dX5_readPerson_11 ?_
    refine va_get (D := D) (ci := 6) (v := .int RT.count) (C := RX6) (T := TX6) (N := 12) hx hb hts iw6 hown hK hP 3 rfl rfl 7 (by decide) kw3 (fun _ h9 => h9) rfl dX5_readPerson_14 ?_
    refine lv_bipush (v := 8) hx hb dX5_readPerson_17 (by decide) ?_
    refine lv_icmp_lt (tgt := 24) hx hb dX5_readPerson_19 (by decide) (fun c_3 => ?_) (fun c_3 => ?_)
    · replace hf := ht_t c_3 hf
      refine lv_aload_n hx hb dX5_readPerson_24 rfl (lv_at hl 1 rfl) ?_
      obtain ⟨o_4, ho_4, hf⟩ := ht_bn_ob hf
      refine ht_callVv (rest := []) (As := []) (wc := (wTe K jJ jA jT RJ.place RJ.sort RJ.value RJ.start ++ (wTa K jA aA RA.bytes RA.length))) (wr := (wTw K jT aT RT.laws RT.kind RT.need RT.saved RT.voice RT.partner RT.speaks RT.count RT.day RT.heard RT.geese RT.z)) (w1 := (wTe K jJ jA jT o_4.1 o_4.2.1 o_4.2.2.1 o_4.2.2.2 ++ (wTa K jA aA RA.bytes RA.length))) (w2 := (wTe K jJ jA jT o_4.1 o_4.2.1 o_4.2.2.1 o_4.2.2.2 ++ (wTa K jA aA RA.bytes RA.length ++ (wTw K jT aT RT.laws RT.kind RT.need RT.saved RT.voice RT.partner RT.speaks RT.count RT.day RT.heard RT.geese RT.z)))) hF (ctX5_readAhead l D K jJ jA aA jT RJ RA o_4 ho_4 H.size) (cwV 0 hts gX5_readPerson_X5_readAhead rfl rfl rfl hdX5_readAhead ⟨Nat.le_of_ble_eq_true rfl, Nat.le_of_ble_eq_true rfl⟩) hK hP hD hS hA [0, 1, 2] [3, 4, 5, 6, 7, 8, 9, 10] rfl rfl (by decide) (by decide) (by decide) [8, 9, 10, 0, 1, 2, 3, 4, 5, 6, 7] rfl (by decide) (va_recv hK hP (ci := 5) (q0 := 0) rfl rfl) rfl hl.1 rfl (Nat.le_of_ble_eq_true rfl) dX5_readPerson_25 ⟨Nat.zero_le _, Nat.zero_le _⟩ (fun H locs hP hD hS => ?_)
      refine lv_aload_n hx hb dX5_readPerson_28 rfl (lv_at hl 1 rfl) ?_
      refine va_ldcS hx hb hown (hE.2.1 1 (by decide)) dX5_readPerson_29 ?_
      refine lv_bipush (v := 99) hx hb dX5_readPerson_31 (by decide) ?_
      refine lv_iconst (v := 0) hx hb dX5_readPerson_33 (by decide) ?_
      obtain ⟨o_5, ho_5, hf⟩ := ht_bn_ob hf
      refine ht_gVi (r := o_5.1) (rest := []) (As := [.ref (aK 1), .int (99 : Int32), .int (0 : Int32)]) (wc := (wTe K jJ jA jT o_4.1 o_4.2.1 o_4.2.2.1 o_4.2.2.2 ++ (wTa K jA aA RA.bytes RA.length))) (wr := (wTw K jT aT RT.laws RT.kind RT.need RT.saved RT.voice RT.partner RT.speaks RT.count RT.day RT.heard RT.geese RT.z)) (w1 := (wTe K jJ jA jT o_5.2.1 o_5.2.2.1 o_5.2.2.2.1 o_5.2.2.2.2 ++ (wTa K jA aA RA.bytes RA.length))) (w2 := (wTe K jJ jA jT o_5.2.1 o_5.2.2.1 o_5.2.2.2.1 o_5.2.2.2.2 ++ (wTa K jA aA RA.bytes RA.length ++ (wTw K jT aT RT.laws RT.kind RT.need RT.saved RT.voice RT.partner RT.speaks RT.count RT.day RT.heard RT.geese RT.z)))) hF (ctX5_readOption l D K jJ jA aA jT aK aV (o_4.1, o_4.2.1, o_4.2.2.1, o_4.2.2.2) RA 1 (99 : Int32) (0 : Int32) o_5 ho_5 H.size) (cwV 3 hts gX5_readPerson_X5_readOption rfl rfl rfl hdX5_readOption ⟨Nat.le_of_ble_eq_true rfl, Nat.le_of_ble_eq_true rfl⟩) hP hD hS hA [0, 1, 2] [3, 4, 5, 6, 7, 8, 9, 10] rfl rfl (by decide) (by decide) (by decide) [8, 9, 10, 0, 1, 2, 3, 4, 5, 6, 7] rfl (by decide) (fun hf hP2 hD2 => ht_pvS hK hE hS hf (va_recv hK hP (ci := 5) (q0 := 0) rfl rfl) hP2 hD2) rfl hl.1 rfl (Nat.le_of_ble_eq_true rfl) dX5_readPerson_34 ⟨Nat.zero_le _, Nat.zero_le _⟩ (fun H locs hP hD hS => ?_)
      obtain ⟨x2_6, ex2_6, hf⟩ := ht_nm_ob hf
      rw [← ex2_6]
      refine lv_istore_n (lv' := [(2, .int x2_6), (1, .int o_1), (0, .ref jJ)]) hx hb dX5_readPerson_37 rfl hl (by decide) rfl (fun ls hl => ?_)
      refine lv_iload_n hx hb dX5_readPerson_38 rfl (lv_at hl 0 rfl) ?_
      refine lv_iconst (v := -1) hx hb dX5_readPerson_39 (by decide) ?_
      refine lv_icmp_ne (tgt := 45) hx hb dX5_readPerson_40 (by decide) (fun c_7 => ?_) (fun c_7 => ?_)
      · replace hf := ht_f c_7 hf
        refine lv_aload_n hx hb dX5_readPerson_45 rfl (lv_at hl 2 rfl) ?_
        refine va_ldcS hx hb hown (hE.2.1 2 (by decide)) dX5_readPerson_46 ?_
        refine lv_bipush (v := 99) hx hb dX5_readPerson_48 (by decide) ?_
        refine lv_iconst (v := 0) hx hb dX5_readPerson_50 (by decide) ?_
        obtain ⟨o_8, ho_8, hf⟩ := ht_bn_ob hf
        refine ht_gVi (r := o_8.1) (rest := []) (As := [.ref (aK 2), .int (99 : Int32), .int (0 : Int32)]) (wc := (wTe K jJ jA jT o_5.2.1 o_5.2.2.1 o_5.2.2.2.1 o_5.2.2.2.2 ++ (wTa K jA aA RA.bytes RA.length))) (wr := (wTw K jT aT RT.laws RT.kind RT.need RT.saved RT.voice RT.partner RT.speaks RT.count RT.day RT.heard RT.geese RT.z)) (w1 := (wTe K jJ jA jT o_8.2.1 o_8.2.2.1 o_8.2.2.2.1 o_8.2.2.2.2 ++ (wTa K jA aA RA.bytes RA.length))) (w2 := (wTe K jJ jA jT o_8.2.1 o_8.2.2.1 o_8.2.2.2.1 o_8.2.2.2.2 ++ (wTa K jA aA RA.bytes RA.length ++ (wTw K jT aT RT.laws RT.kind RT.need RT.saved RT.voice RT.partner RT.speaks RT.count RT.day RT.heard RT.geese RT.z)))) hF (ctX5_readOption l D K jJ jA aA jT aK aV (o_5.2.1, o_5.2.2.1, o_5.2.2.2.1, o_5.2.2.2.2) RA 2 (99 : Int32) (0 : Int32) o_8 ho_8 H.size) (cwV 3 hts gX5_readPerson_X5_readOption rfl rfl rfl hdX5_readOption ⟨Nat.le_of_ble_eq_true rfl, Nat.le_of_ble_eq_true rfl⟩) hP hD hS hA [0, 1, 2] [3, 4, 5, 6, 7, 8, 9, 10] rfl rfl (by decide) (by decide) (by decide) [8, 9, 10, 0, 1, 2, 3, 4, 5, 6, 7] rfl (by decide) (fun hf hP2 hD2 => ht_pvS hK hE hS hf (va_recv hK hP (ci := 5) (q0 := 0) rfl rfl) hP2 hD2) rfl hl.1 rfl (Nat.le_of_ble_eq_true rfl) dX5_readPerson_51 ⟨Nat.zero_le _, Nat.zero_le _⟩ (fun H locs hP hD hS => ?_)
        obtain ⟨x3_9, ex3_9, hf⟩ := ht_nm_ob hf
        rw [← ex3_9]
        refine lv_istore_n (lv' := [(3, .int x3_9), (2, .int x2_6), (1, .int o_1), (0, .ref jJ)]) hx hb dX5_readPerson_54 rfl hl (by decide) rfl (fun ls hl => ?_)
        refine lv_iload_n hx hb dX5_readPerson_55 rfl (lv_at hl 0 rfl) ?_
        refine lv_iconst (v := -1) hx hb dX5_readPerson_56 (by decide) ?_
        refine lv_icmp_ne (tgt := 62) hx hb dX5_readPerson_57 (by decide) (fun c_10 => ?_) (fun c_10 => ?_)
        · replace hf := ht_f c_10 hf
          refine lv_aload_n hx hb dX5_readPerson_62 rfl (lv_at hl 3 rfl) ?_
          refine va_ldcS hx hb hown (hE.2.1 3 (by decide)) dX5_readPerson_63 ?_
          refine lv_bipush (v := 9) hx hb dX5_readPerson_65 (by decide) ?_
          refine lv_iconst (v := 3) hx hb dX5_readPerson_67 (by decide) ?_
          obtain ⟨o_11, ho_11, hf⟩ := ht_bn_ob hf
          refine ht_gVi (r := o_11.1) (rest := []) (As := [.ref (aK 3), .int (9 : Int32), .int (3 : Int32)]) (wc := (wTe K jJ jA jT o_8.2.1 o_8.2.2.1 o_8.2.2.2.1 o_8.2.2.2.2 ++ (wTa K jA aA RA.bytes RA.length))) (wr := (wTw K jT aT RT.laws RT.kind RT.need RT.saved RT.voice RT.partner RT.speaks RT.count RT.day RT.heard RT.geese RT.z)) (w1 := (wTe K jJ jA jT o_11.2.1 o_11.2.2.1 o_11.2.2.2.1 o_11.2.2.2.2 ++ (wTa K jA aA RA.bytes RA.length))) (w2 := (wTe K jJ jA jT o_11.2.1 o_11.2.2.1 o_11.2.2.2.1 o_11.2.2.2.2 ++ (wTa K jA aA RA.bytes RA.length ++ (wTw K jT aT RT.laws RT.kind RT.need RT.saved RT.voice RT.partner RT.speaks RT.count RT.day RT.heard RT.geese RT.z)))) hF (ctX5_readOption l D K jJ jA aA jT aK aV (o_8.2.1, o_8.2.2.1, o_8.2.2.2.1, o_8.2.2.2.2) RA 3 (9 : Int32) (3 : Int32) o_11 ho_11 H.size) (cwV 3 hts gX5_readPerson_X5_readOption rfl rfl rfl hdX5_readOption ⟨Nat.le_of_ble_eq_true rfl, Nat.le_of_ble_eq_true rfl⟩) hP hD hS hA [0, 1, 2] [3, 4, 5, 6, 7, 8, 9, 10] rfl rfl (by decide) (by decide) (by decide) [8, 9, 10, 0, 1, 2, 3, 4, 5, 6, 7] rfl (by decide) (fun hf hP2 hD2 => ht_pvS hK hE hS hf (va_recv hK hP (ci := 5) (q0 := 0) rfl rfl) hP2 hD2) rfl hl.1 rfl (Nat.le_of_ble_eq_true rfl) dX5_readPerson_68 ⟨Nat.zero_le _, Nat.zero_le _⟩ (fun H locs hP hD hS => ?_)
          obtain ⟨x4_12, ex4_12, hf⟩ := ht_nm_ob hf
          rw [← ex4_12]
          refine lv_istore (lv' := [(4, .int x4_12), (3, .int x3_9), (2, .int x2_6), (1, .int o_1), (0, .ref jJ)]) hx hb dX5_readPerson_71 hl (by decide) rfl (fun ls hl => ?_)
          refine lv_iload hx hb dX5_readPerson_73 (lv_at hl 0 rfl) ?_
          refine lv_iconst (v := -1) hx hb dX5_readPerson_75 (by decide) ?_
          refine lv_icmp_eq (tgt := 86) hx hb dX5_readPerson_76 (by decide) (fun c_13 => ?_) (fun c_13 => ?_)
          · replace hf := ht_t c_13 hf
            refine lv_iconst (v := 0) hx hb dX5_readPerson_86 (by decide) ?_
            have ho := Option.some.inj hf
            subst ho; subst hQ
            exact ht_iret hx hb hr hlk (show narrow .boolean (.int (0 : Int32)) = .int (0 : Int32) from rfl) hK hP hD hS dX5_readPerson_87
          · replace hf := ht_f c_13 hf
            refine lv_aload_n hx hb dX5_readPerson_79 rfl (lv_at hl 4 rfl) ?_
            obtain ⟨o_14, ho_14, hf⟩ := ht_bn_ob hf
            refine ht_callVi (r := o_14.1) (rest := []) (As := []) (wc := (wTe K jJ jA jT o_11.2.1 o_11.2.2.1 o_11.2.2.2.1 o_11.2.2.2.2 ++ (wTa K jA aA RA.bytes RA.length))) (wr := (wTw K jT aT RT.laws RT.kind RT.need RT.saved RT.voice RT.partner RT.speaks RT.count RT.day RT.heard RT.geese RT.z)) (w1 := (wTe K jJ jA jT o_14.2.1 o_14.2.2.1 o_14.2.2.2.1 o_14.2.2.2.2 ++ (wTa K jA aA RA.bytes RA.length))) (w2 := (wTe K jJ jA jT o_14.2.1 o_14.2.2.1 o_14.2.2.2.1 o_14.2.2.2.2 ++ (wTa K jA aA RA.bytes RA.length ++ (wTw K jT aT RT.laws RT.kind RT.need RT.saved RT.voice RT.partner RT.speaks RT.count RT.day RT.heard RT.geese RT.z)))) hF (ctX5_readSemicolon l D K jJ jA aA jT (o_11.2.1, o_11.2.2.1, o_11.2.2.2.1, o_11.2.2.2.2) RA o_14 ho_14 H.size) (cwV 0 hts gX5_readPerson_X5_readSemicolon rfl rfl rfl hdX5_readSemicolon ⟨Nat.le_of_ble_eq_true rfl, Nat.le_of_ble_eq_true rfl⟩) hK hP hD hS hA [0, 1, 2] [3, 4, 5, 6, 7, 8, 9, 10] rfl rfl (by decide) (by decide) (by decide) [8, 9, 10, 0, 1, 2, 3, 4, 5, 6, 7] rfl (by decide) (va_recv hK hP (ci := 5) (q0 := 0) rfl rfl) rfl hl.1 rfl (Nat.le_of_ble_eq_true rfl) dX5_readPerson_80 ⟨Nat.zero_le _, Nat.zero_le _⟩ (fun H locs hP hD hS => ?_)
            refine lv_if_ne (tgt := 88) hx hb dX5_readPerson_83 (by decide) (fun c_15 => ?_) (fun c_15 => ?_)
            · replace hf := ht_f c_15 hf
              refine lv_aload_n hx hb dX5_readPerson_88 rfl (lv_at hl 4 rfl) ?_
              refine va_get (D := D) (ci := 5) (v := .ref jT) (C := RX5) (T := TX5) (N := 6) hx hb hts iw5 hown hK hP 0 rfl rfl 1 (by decide) kw1 (fun _ h9 => h9) rfl dX5_readPerson_89 ?_
              refine lv_iload_n hx hb dX5_readPerson_92 rfl (lv_at hl 3 rfl) ?_
              refine lv_iload_n hx hb dX5_readPerson_93 rfl (lv_at hl 2 rfl) ?_
              refine lv_iload_n hx hb dX5_readPerson_94 rfl (lv_at hl 1 rfl) ?_
              refine lv_iload hx hb dX5_readPerson_95 (lv_at hl 0 rfl) ?_
              obtain ⟨o_16, ho_16, hf⟩ := ht_bn_ob hf
              refine ht_callVv (rest := []) (As := [.int o_1, .int x2_6, .int x3_9, .int x4_12]) (wc := (wTw K jT aT RT.laws RT.kind RT.need RT.saved RT.voice RT.partner RT.speaks RT.count RT.day RT.heard RT.geese RT.z)) (wr := (wTe K jJ jA jT o_14.2.1 o_14.2.2.1 o_14.2.2.2.1 o_14.2.2.2.2 ++ (wTa K jA aA RA.bytes RA.length))) (w1 := (wTw K jT aT RT.laws o_16.1 o_16.2.1 o_16.2.2.1 o_16.2.2.2.1 o_16.2.2.2.2.1 o_16.2.2.2.2.2.1 o_16.2.2.2.2.2.2 RT.day RT.heard RT.geese RT.z)) (w2 := (wTe K jJ jA jT o_14.2.1 o_14.2.2.1 o_14.2.2.2.1 o_14.2.2.2.2 ++ (wTa K jA aA RA.bytes RA.length ++ (wTw K jT aT RT.laws o_16.1 o_16.2.1 o_16.2.2.1 o_16.2.2.2.1 o_16.2.2.2.2.1 o_16.2.2.2.2.2.1 o_16.2.2.2.2.2.2 RT.day RT.heard RT.geese RT.z)))) hF (ctX6_add l D K jT aT RT o_1 x2_6 x3_9 x4_12 o_16 ho_16 H.size) (cwV 4 hts gX5_readPerson_X6_add rfl rfl rfl hdX6_add ⟨Nat.le_of_ble_eq_true rfl, Nat.le_of_ble_eq_true rfl⟩) hK hP hD hS hA [3, 4, 5, 6, 7, 8, 9, 10] [0, 1, 2] rfl rfl (by decide) (by decide) (by decide) [0, 1, 2, 3, 4, 5, 6, 7, 8, 9, 10] rfl (by decide) (va_recv hK hP (ci := 6) (q0 := 3) rfl rfl) rfl hl.1 rfl (Nat.le_of_ble_eq_true rfl) dX5_readPerson_97 ⟨Nat.zero_le _, Nat.zero_le _⟩ (fun H locs hP hD hS => ?_)
              refine lv_iconst (v := 1) hx hb dX5_readPerson_100 (by decide) ?_
              have ho := Option.some.inj hf
              subst ho; subst hQ
              exact ht_iret hx hb hr hlk (show narrow .boolean (.int (1 : Int32)) = .int (1 : Int32) from rfl) hK hP hD hS dX5_readPerson_101
            · replace hf := ht_t c_15 hf
              refine lv_iconst (v := 0) hx hb dX5_readPerson_86 (by decide) ?_
              have ho := Option.some.inj hf
              subst ho; subst hQ
              exact ht_iret hx hb hr hlk (show narrow .boolean (.int (0 : Int32)) = .int (0 : Int32) from rfl) hK hP hD hS dX5_readPerson_87
        · replace hf := ht_t c_10 hf
          refine lv_iconst (v := 0) hx hb dX5_readPerson_60 (by decide) ?_
          have ho := Option.some.inj hf
          subst ho; subst hQ
          exact ht_iret hx hb hr hlk (show narrow .boolean (.int (0 : Int32)) = .int (0 : Int32) from rfl) hK hP hD hS dX5_readPerson_61
      · replace hf := ht_t c_7 hf
        refine lv_iconst (v := 0) hx hb dX5_readPerson_43 (by decide) ?_
        have ho := Option.some.inj hf
        subst ho; subst hQ
        exact ht_iret hx hb hr hlk (show narrow .boolean (.int (0 : Int32)) = .int (0 : Int32) from rfl) hK hP hD hS dX5_readPerson_44
    · replace hf := ht_f c_3 hf
      refine lv_iconst (v := 0) hx hb dX5_readPerson_22 (by decide) ?_
      have ho := Option.some.inj hf
      subst ho; subst hQ
      exact ht_iret hx hb hr hlk (show narrow .boolean (.int (0 : Int32)) = .int (0 : Int32) from rfl) hK hP hD hS dX5_readPerson_23
abbrev rmX5_readLaw : Room := { frames := 3, cells := 0, slots := 0, locals := 63 }
theorem hdX5_readLaw : yX5_readLaw.cls = RX5 ∧ yX5_readLaw.cls ≠ "java/lang/invoke/MethodHandle" ∧ yX5_readLaw.cls ≠ "java/lang/invoke/VarHandle" ∧ (parseMethodDescriptor yX5_readLaw.desc).map (fun d => d.parameters.length) = some 1 := by decide +kernel
def fX5_readLaw (RJ : TellV) (RA : TapeV) (RT : TownV) (p0 : Int32) : Option (Int32 × Int32 × Int32 × Int32 × Int32 × AI) := ht_bn (fX5_readAhead RJ RA) (fun o_1 => ht_bn (fX8_mostOfLaw p0) (fun o_2 => ht_bn (fX5_readNumber (o_1.1, o_1.2.1, o_1.2.2.1, o_1.2.2.2) RA o_2) (fun o_3 => ht_nm o_3.1 (fun x2_4 => if x2_4 = (-1 : Int32) then (some ((0 : Int32), o_3.2.1, o_3.2.2.1, o_3.2.2.2.1, o_3.2.2.2.2, RT.laws)) else (ht_bn (fX5_readSemicolon (o_3.2.1, o_3.2.2.1, o_3.2.2.2.1, o_3.2.2.2.2) RA) (fun o_6 => if o_6.1 = 0 then (some ((0 : Int32), o_6.2.1, o_6.2.2.1, o_6.2.2.2.1, o_6.2.2.2.2, RT.laws)) else (ht_gd (ht_ix p0 4) (ht_nm (upd RT.laws p0.toNatClampNeg x2_4) (fun vT_laws_9 => some ((1 : Int32), o_6.2.1, o_6.2.2.1, o_6.2.2.2.1, o_6.2.2.2.2, vT_laws_9))))))))))
set_option maxHeartbeats 1000000 in
set_option maxRecDepth 100000 in
theorem ctX5_readLaw (l : Launch) (D : va_G) (K : Nat → ClassId) (jJ : Nat) (jA : Nat) (aA : Nat → Nat) (jT : Nat) (aT : Nat → Nat) (aK : Nat → Nat) (aV : Nat → Nat) (RJ : TellV) (RA : TapeV) (RT : TownV) (p0 : Int32) (o : (Int32 × Int32 × Int32 × Int32 × Int32 × AI)) (hf : fX5_readLaw RJ RA RT p0 = some o) (sz : Nat) : Met l yX5_readLaw wsX5_readLaw rmX5_readLaw (ht_PreS D K aK aV [.ref jJ, .int p0] (wTe K jJ jA jT RJ.place RJ.sort RJ.value RJ.start ++ (wTa K jA aA RA.bytes RA.length ++ (wTw K jT aT RT.laws RT.kind RT.need RT.saved RT.voice RT.partner RT.speaks RT.count RT.day RT.heard RT.geese RT.z))) sz) (ht_Qi D K (wTe K jJ jA jT o.2.1 o.2.2.1 o.2.2.2.1 o.2.2.2.2.1 ++ (wTa K jA aA RA.bytes RA.length ++ (wTw K jT aT o.2.2.2.2.2 RT.kind RT.need RT.saved RT.voice RT.partner RT.speaks RT.count RT.day RT.heard RT.geese RT.z))) o.1 (va_A (wTe K jJ jA jT RJ.place RJ.sort RJ.value RJ.start ++ (wTa K jA aA RA.bytes RA.length ++ (wTw K jT aT RT.laws RT.kind RT.need RT.saved RT.voice RT.partner RT.speaks RT.count RT.day RT.heard RT.geese RT.z))) sz)) 0 0 (va_A (wTe K jJ jA jT RJ.place RJ.sort RJ.value RJ.start ++ (wTa K jA aA RA.bytes RA.length ++ (wTw K jT aT RT.laws RT.kind RT.need RT.saved RT.voice RT.partner RT.speaks RT.count RT.day RT.heard RT.geese RT.z))) sz) := by
  refine ht_enterS (Qf := ht_Qi D K (wTe K jJ jA jT o.2.1 o.2.2.1 o.2.2.2.1 o.2.2.2.2.1 ++ (wTa K jA aA RA.bytes RA.length ++ (wTw K jT aT o.2.2.2.2.2 RT.kind RT.need RT.saved RT.voice RT.partner RT.speaks RT.count RT.day RT.heard RT.geese RT.z))) o.1) (cc := cX5_readLaw) (maxL := 3) (rt := (some .boolean)) (by decide) rfl (Nat.le_of_ble_eq_true rfl) ?_ sz
  intro p e s m below meth c A Q H locs ls hQ hx hb hr hlk hmn hml hown hts hA hK hE hP hD hS hl
  have hown : s.vm.findClass RX5 = some m.cls := hown
  have hF : CallFix p m c cX5_readLaw 3 s ([.ref jJ, .int p0] : List Value).toArray wsX5_readLaw RX5 := ⟨hx, hb, hml, hown, hts⟩
  have hl : lv_has ls 3 [(0, .ref jJ), (1, .int p0)] := hl
  have kw0 := hts (.initialized RX8) (by decide +kernel)
  have kw1 := hts (.static yX8_mostOfLaw) (by decide +kernel)
  have iw5 : ∀ w ∈ u_ws RX5 TX5 6, w ∈ wsX5_readLaw := by decide +kernel
  have kw3 := hts (.fieldLink RX5 15 "HeldTongues$Telling" "told" "LHeldTongues$Town;") (by decide +kernel)
  have iw6 : ∀ w ∈ u_ws RX6 TX6 12, w ∈ wsX5_readLaw := by decide +kernel
  have kw5 := hts (.fieldLink RX5 82 "HeldTongues$Town" "laws" "[I") (by decide +kernel)
  delta fX5_readLaw at hf
  refine lv_aload_n hx hb dX5_readLaw_0 rfl (lv_at hl 0 rfl) ?_
  obtain ⟨o_1, ho_1, hf⟩ := ht_bn_ob hf
  refine ht_callVv (rest := []) (As := []) (wc := (wTe K jJ jA jT RJ.place RJ.sort RJ.value RJ.start ++ (wTa K jA aA RA.bytes RA.length))) (wr := (wTw K jT aT RT.laws RT.kind RT.need RT.saved RT.voice RT.partner RT.speaks RT.count RT.day RT.heard RT.geese RT.z)) (w1 := (wTe K jJ jA jT o_1.1 o_1.2.1 o_1.2.2.1 o_1.2.2.2 ++ (wTa K jA aA RA.bytes RA.length))) (w2 := (wTe K jJ jA jT o_1.1 o_1.2.1 o_1.2.2.1 o_1.2.2.2 ++ (wTa K jA aA RA.bytes RA.length ++ (wTw K jT aT RT.laws RT.kind RT.need RT.saved RT.voice RT.partner RT.speaks RT.count RT.day RT.heard RT.geese RT.z)))) hF (ctX5_readAhead l D K jJ jA aA jT RJ RA o_1 ho_1 H.size) (cwV 0 hts gX5_readLaw_X5_readAhead rfl rfl rfl hdX5_readAhead ⟨Nat.le_of_ble_eq_true rfl, Nat.le_of_ble_eq_true rfl⟩) hK hP hD hS hA [0, 1, 2] [3, 4, 5, 6, 7, 8, 9, 10] rfl rfl (by decide) (by decide) (by decide) [8, 9, 10, 0, 1, 2, 3, 4, 5, 6, 7] rfl (by decide) (va_recv hK hP (ci := 5) (q0 := 0) rfl rfl) rfl hl.1 rfl (Nat.le_of_ble_eq_true rfl) dX5_readLaw_1 ⟨Nat.zero_le _, Nat.zero_le _⟩ (fun H locs hP hD hS => ?_)
  refine lv_aload_n hx hb dX5_readLaw_4 rfl (lv_at hl 0 rfl) ?_
  refine lv_iload_n hx hb dX5_readLaw_5 rfl (lv_at hl 1 rfl) ?_
  obtain ⟨o_2, ho_2, hf⟩ := ht_bn_ob hf
  refine ht_gSNi (r := o_2) (rest := [.ref jJ]) (As := [.int p0]) (wc := []) (wr := (wTe K jJ jA jT o_1.1 o_1.2.1 o_1.2.2.1 o_1.2.2.2 ++ (wTa K jA aA RA.bytes RA.length ++ (wTw K jT aT RT.laws RT.kind RT.need RT.saved RT.voice RT.partner RT.speaks RT.count RT.day RT.heard RT.geese RT.z)))) (w1 := []) (w2 := (wTe K jJ jA jT o_1.1 o_1.2.1 o_1.2.2.1 o_1.2.2.2 ++ (wTa K jA aA RA.bytes RA.length ++ (wTw K jT aT RT.laws RT.kind RT.need RT.saved RT.voice RT.partner RT.speaks RT.count RT.day RT.heard RT.geese RT.z)))) hF (ctX8_mostOfLaw l D K p0 o_2 ho_2 H.size) ⟨va_cnB 1 hts gX5_readLaw_X8_mostOfLaw_n75 rfl rfl rfl hE.2.2.2.2 kw0 hdX8_mostOfLaw ⟨Nat.le_of_ble_eq_true rfl, Nat.le_of_ble_eq_true rfl⟩, kw1, trivial⟩ hP hD hS hA [] [0, 1, 2, 3, 4, 5, 6, 7, 8, 9, 10] rfl rfl (by decide) (by decide) (by decide) [0, 1, 2, 3, 4, 5, 6, 7, 8, 9, 10] rfl (by decide) (fun _ hP hD => ht_ps hK hP hD) rfl hl.1 rfl (Nat.le_of_ble_eq_true rfl) dX5_readLaw_6 ⟨Nat.zero_le _, Nat.zero_le _⟩ (fun H locs hP hD hS => ?_)
  obtain ⟨o_3, ho_3, hf⟩ := ht_bn_ob hf
  refine ht_callVi (r := o_3.1) (rest := []) (As := [.int o_2]) (wc := (wTe K jJ jA jT o_1.1 o_1.2.1 o_1.2.2.1 o_1.2.2.2 ++ (wTa K jA aA RA.bytes RA.length))) (wr := (wTw K jT aT RT.laws RT.kind RT.need RT.saved RT.voice RT.partner RT.speaks RT.count RT.day RT.heard RT.geese RT.z)) (w1 := (wTe K jJ jA jT o_3.2.1 o_3.2.2.1 o_3.2.2.2.1 o_3.2.2.2.2 ++ (wTa K jA aA RA.bytes RA.length))) (w2 := (wTe K jJ jA jT o_3.2.1 o_3.2.2.1 o_3.2.2.2.1 o_3.2.2.2.2 ++ (wTa K jA aA RA.bytes RA.length ++ (wTw K jT aT RT.laws RT.kind RT.need RT.saved RT.voice RT.partner RT.speaks RT.count RT.day RT.heard RT.geese RT.z)))) hF (ctX5_readNumber l D K jJ jA aA jT (o_1.1, o_1.2.1, o_1.2.2.1, o_1.2.2.2) RA o_2 o_3 ho_3 H.size) (cwV 1 hts gX5_readLaw_X5_readNumber rfl rfl rfl hdX5_readNumber ⟨Nat.le_of_ble_eq_true rfl, Nat.le_of_ble_eq_true rfl⟩) hK hP hD hS hA [0, 1, 2] [3, 4, 5, 6, 7, 8, 9, 10] rfl rfl (by decide) (by decide) (by decide) [8, 9, 10, 0, 1, 2, 3, 4, 5, 6, 7] rfl (by decide) (va_recv hK hP (ci := 5) (q0 := 0) rfl rfl) rfl hl.1 rfl (Nat.le_of_ble_eq_true rfl) dX5_readLaw_9 ⟨Nat.zero_le _, Nat.zero_le _⟩ (fun H locs hP hD hS => ?_)
  obtain ⟨x2_4, ex2_4, hf⟩ := ht_nm_ob hf
  rw [← ex2_4]
  refine lv_istore_n (lv' := [(2, .int x2_4), (0, .ref jJ), (1, .int p0)]) hx hb dX5_readLaw_12 rfl hl (by decide) rfl (fun ls hl => ?_)
  refine lv_iload_n hx hb dX5_readLaw_13 rfl (lv_at hl 0 rfl) ?_
  refine lv_iconst (v := -1) hx hb dX5_readLaw_14 (by decide) ?_
  refine lv_icmp_eq (tgt := 25) hx hb dX5_readLaw_15 (by decide) (fun c_5 => ?_) (fun c_5 => ?_)
  · replace hf := ht_t c_5 hf
    refine lv_iconst (v := 0) hx hb dX5_readLaw_25 (by decide) ?_
    have ho := Option.some.inj hf
    subst ho; subst hQ
    exact ht_iret hx hb hr hlk (show narrow .boolean (.int (0 : Int32)) = .int (0 : Int32) from rfl) hK hP hD hS dX5_readLaw_26
  · replace hf := ht_f c_5 hf
    refine lv_aload_n hx hb dX5_readLaw_18 rfl (lv_at hl 1 rfl) ?_
    obtain ⟨o_6, ho_6, hf⟩ := ht_bn_ob hf
    refine ht_callVi (r := o_6.1) (rest := []) (As := []) (wc := (wTe K jJ jA jT o_3.2.1 o_3.2.2.1 o_3.2.2.2.1 o_3.2.2.2.2 ++ (wTa K jA aA RA.bytes RA.length))) (wr := (wTw K jT aT RT.laws RT.kind RT.need RT.saved RT.voice RT.partner RT.speaks RT.count RT.day RT.heard RT.geese RT.z)) (w1 := (wTe K jJ jA jT o_6.2.1 o_6.2.2.1 o_6.2.2.2.1 o_6.2.2.2.2 ++ (wTa K jA aA RA.bytes RA.length))) (w2 := (wTe K jJ jA jT o_6.2.1 o_6.2.2.1 o_6.2.2.2.1 o_6.2.2.2.2 ++ (wTa K jA aA RA.bytes RA.length ++ (wTw K jT aT RT.laws RT.kind RT.need RT.saved RT.voice RT.partner RT.speaks RT.count RT.day RT.heard RT.geese RT.z)))) hF (ctX5_readSemicolon l D K jJ jA aA jT (o_3.2.1, o_3.2.2.1, o_3.2.2.2.1, o_3.2.2.2.2) RA o_6 ho_6 H.size) (cwV 0 hts gX5_readLaw_X5_readSemicolon rfl rfl rfl hdX5_readSemicolon ⟨Nat.le_of_ble_eq_true rfl, Nat.le_of_ble_eq_true rfl⟩) hK hP hD hS hA [0, 1, 2] [3, 4, 5, 6, 7, 8, 9, 10] rfl rfl (by decide) (by decide) (by decide) [8, 9, 10, 0, 1, 2, 3, 4, 5, 6, 7] rfl (by decide) (va_recv hK hP (ci := 5) (q0 := 0) rfl rfl) rfl hl.1 rfl (Nat.le_of_ble_eq_true rfl) dX5_readLaw_19 ⟨Nat.zero_le _, Nat.zero_le _⟩ (fun H locs hP hD hS => ?_)
    refine lv_if_ne (tgt := 27) hx hb dX5_readLaw_22 (by decide) (fun c_7 => ?_) (fun c_7 => ?_)
    · replace hf := ht_f c_7 hf
      refine lv_aload_n hx hb dX5_readLaw_27 rfl (lv_at hl 1 rfl) ?_
      refine va_get (D := D) (ci := 5) (v := .ref jT) (C := RX5) (T := TX5) (N := 6) hx hb hts iw5 hown hK hP 0 rfl rfl 1 (by decide) kw3 (fun _ h9 => h9) rfl dX5_readLaw_28 ?_
      refine va_get (D := D) (ci := 6) (v := .ref (aT 0)) (C := RX6) (T := TX6) (N := 12) hx hb hts iw6 hown hK hP 3 rfl rfl 0 (by decide) kw5 (fun _ h9 => h9) rfl dX5_readLaw_31 ?_
      refine lv_iload_n hx hb dX5_readLaw_34 rfl (lv_at hl 2 rfl) ?_
      refine lv_iload_n hx hb dX5_readLaw_35 rfl (lv_at hl 0 rfl) ?_
      obtain ⟨g_8, hf⟩ := ht_gd_ob hf
      obtain ⟨vT_laws_9, evT_laws_9, hf⟩ := ht_nm_ob hf
      refine ht_iast (w2 := (wTe K jJ jA jT o_6.2.1 o_6.2.2.1 o_6.2.2.2.1 o_6.2.2.2.2 ++ (wTa K jA aA RA.bytes RA.length ++ (wTw K jT aT vT_laws_9 RT.kind RT.need RT.saved RT.voice RT.partner RT.speaks RT.count RT.day RT.heard RT.geese RT.z)))) hx hb hK hP hD hS 4 1 rfl rfl g_8 dX5_readLaw_36 evT_laws_9 rfl (fun H locs hP hD hS => ?_)
      refine lv_iconst (v := 1) hx hb dX5_readLaw_37 (by decide) ?_
      have ho := Option.some.inj hf
      subst ho; subst hQ
      exact ht_iret hx hb hr hlk (show narrow .boolean (.int (1 : Int32)) = .int (1 : Int32) from rfl) hK hP hD hS dX5_readLaw_38
    · replace hf := ht_t c_7 hf
      refine lv_iconst (v := 0) hx hb dX5_readLaw_25 (by decide) ?_
      have ho := Option.some.inj hf
      subst ho; subst hQ
      exact ht_iret hx hb hr hlk (show narrow .boolean (.int (0 : Int32)) = .int (0 : Int32) from rfl) hK hP hD hS dX5_readLaw_26
abbrev rmX5_readPair : Room := { frames := 5, cells := 0, slots := 0, locals := 107 }
theorem hdX5_readPair : yX5_readPair.cls = RX5 ∧ yX5_readPair.cls ≠ "java/lang/invoke/MethodHandle" ∧ yX5_readPair.cls ≠ "java/lang/invoke/VarHandle" ∧ (parseMethodDescriptor yX5_readPair.desc).map (fun d => d.parameters.length) = some 0 := by decide +kernel
def fX5_readPair_b56 (RJ : TellV) (RA : TapeV) (RT : TownV) (x1 : Int32) (vJ_place : Int32) (vJ_sort : Int32) (vJ_value : Int32) (vJ_start : Int32) (vT_partner : AI) (vT_speaks : AI) : Option (Int32 × Int32 × Int32 × Int32 × Int32 × AI × AI) := ht_bn (fX5_readNumber (vJ_place, vJ_sort, vJ_value, vJ_start) RA (RT.count - (1 : Int32))) (fun o_1 => ht_nm o_1.1 (fun x2_2 => if x2_2 = (-1 : Int32) then (some ((0 : Int32), o_1.2.1, o_1.2.2.1, o_1.2.2.2.1, o_1.2.2.2.2, vT_partner, vT_speaks)) else (ht_bn (fX5_readSemicolon (o_1.2.1, o_1.2.2.1, o_1.2.2.2.1, o_1.2.2.2.2) RA) (fun o_4 => if o_4.1 = 0 then (some ((0 : Int32), o_4.2.1, o_4.2.2.1, o_4.2.2.2.1, o_4.2.2.2.2, vT_partner, vT_speaks)) else (ht_bn (fX6_join (RT.laws, RT.kind, RT.need, RT.saved, RT.voice, vT_partner, vT_speaks, RT.count, RT.day, RT.heard, RT.geese, RT.z) x1 x2_2) (fun o_6 => some ((1 : Int32), o_4.2.1, o_4.2.2.1, o_4.2.2.2.1, o_4.2.2.2.2, o_6.1, o_6.2)))))))
def fX5_readPair (RJ : TellV) (RA : TapeV) (RT : TownV) : Option (Int32 × Int32 × Int32 × Int32 × Int32 × AI × AI) := ht_bn (fX5_readAhead RJ RA) (fun o_7 => ht_bn (fX5_readNumber (o_7.1, o_7.2.1, o_7.2.2.1, o_7.2.2.2) RA (RT.count - (1 : Int32))) (fun o_8 => ht_nm o_8.1 (fun x1_9 => if x1_9 = (-1 : Int32) then (some ((0 : Int32), o_8.2.1, o_8.2.2.1, o_8.2.2.2.1, o_8.2.2.2.2, RT.partner, RT.speaks)) else (ht_bn (fX5_isName (o_8.2.1, o_8.2.2.1, o_8.2.2.2.1, o_8.2.2.2.2) RA 4) (fun o_11 => if o_11 = 0 then (some ((0 : Int32), o_8.2.1, o_8.2.2.1, o_8.2.2.2.1, o_8.2.2.2.2, RT.partner, RT.speaks)) else (ht_bn (fX5_readAhead (o_8.2.1, o_8.2.2.1, o_8.2.2.2.1, o_8.2.2.2.2) RA) (fun o_13 => if o_13.2.1 = (2 : Int32) then (if o_13.2.2.1 = x1_9 then (some ((0 : Int32), o_13.1, o_13.2.1, o_13.2.2.1, o_13.2.2.2, RT.partner, RT.speaks)) else (fX5_readPair_b56 RJ RA RT x1_9 o_13.1 o_13.2.1 o_13.2.2.1 o_13.2.2.2 RT.partner RT.speaks)) else (fX5_readPair_b56 RJ RA RT x1_9 o_13.1 o_13.2.1 o_13.2.2.1 o_13.2.2.2 RT.partner RT.speaks))))))))
set_option maxHeartbeats 1000000 in
set_option maxRecDepth 100000 in
theorem ctX5_readPair (l : Launch) (D : va_G) (K : Nat → ClassId) (jJ : Nat) (jA : Nat) (aA : Nat → Nat) (jT : Nat) (aT : Nat → Nat) (aK : Nat → Nat) (aV : Nat → Nat) (RJ : TellV) (RA : TapeV) (RT : TownV) (o : (Int32 × Int32 × Int32 × Int32 × Int32 × AI × AI)) (hf : fX5_readPair RJ RA RT = some o) (sz : Nat) : Met l yX5_readPair wsX5_readPair rmX5_readPair (ht_PreS D K aK aV [.ref jJ] (wTe K jJ jA jT RJ.place RJ.sort RJ.value RJ.start ++ (wTa K jA aA RA.bytes RA.length ++ (wTw K jT aT RT.laws RT.kind RT.need RT.saved RT.voice RT.partner RT.speaks RT.count RT.day RT.heard RT.geese RT.z))) sz) (ht_Qi D K (wTe K jJ jA jT o.2.1 o.2.2.1 o.2.2.2.1 o.2.2.2.2.1 ++ (wTa K jA aA RA.bytes RA.length ++ (wTw K jT aT RT.laws RT.kind RT.need RT.saved RT.voice o.2.2.2.2.2.1 o.2.2.2.2.2.2 RT.count RT.day RT.heard RT.geese RT.z))) o.1 (va_A (wTe K jJ jA jT RJ.place RJ.sort RJ.value RJ.start ++ (wTa K jA aA RA.bytes RA.length ++ (wTw K jT aT RT.laws RT.kind RT.need RT.saved RT.voice RT.partner RT.speaks RT.count RT.day RT.heard RT.geese RT.z))) sz)) 0 0 (va_A (wTe K jJ jA jT RJ.place RJ.sort RJ.value RJ.start ++ (wTa K jA aA RA.bytes RA.length ++ (wTw K jT aT RT.laws RT.kind RT.need RT.saved RT.voice RT.partner RT.speaks RT.count RT.day RT.heard RT.geese RT.z))) sz) := by
  refine ht_enterS (Qf := ht_Qi D K (wTe K jJ jA jT o.2.1 o.2.2.1 o.2.2.2.1 o.2.2.2.2.1 ++ (wTa K jA aA RA.bytes RA.length ++ (wTw K jT aT RT.laws RT.kind RT.need RT.saved RT.voice o.2.2.2.2.2.1 o.2.2.2.2.2.2 RT.count RT.day RT.heard RT.geese RT.z))) o.1) (cc := cX5_readPair) (maxL := 3) (rt := (some .boolean)) (by decide) rfl (Nat.le_of_ble_eq_true rfl) ?_ sz
  intro p e s m below meth c A Q H locs ls hQ hx hb hr hlk hmn hml hown hts hA hK hE hP hD hS hl
  have hown : s.vm.findClass RX5 = some m.cls := hown
  have hF : CallFix p m c cX5_readPair 3 s ([.ref jJ] : List Value).toArray wsX5_readPair RX5 := ⟨hx, hb, hml, hown, hts⟩
  have hl : lv_has ls 3 [(0, .ref jJ)] := hl
  have iw5 : ∀ w ∈ u_ws RX5 TX5 6, w ∈ wsX5_readPair := by decide +kernel
  have kw1 := hts (.fieldLink RX5 15 "HeldTongues$Telling" "told" "LHeldTongues$Town;") (by decide +kernel)
  have iw6 : ∀ w ∈ u_ws RX6 TX6 12, w ∈ wsX5_readPair := by decide +kernel
  have kw3 := hts (.fieldLink RX5 53 "HeldTongues$Town" "count" "I") (by decide +kernel)
  have kw4 := hts (.fieldLink RX5 26 "HeldTongues$Telling" "sort" "I") (by decide +kernel)
  have kw5 := hts (.fieldLink RX5 88 "HeldTongues$Telling" "value" "I") (by decide +kernel)
  have b56 : ∀ (x1 : Int32) (vJ_place : Int32) (vJ_sort : Int32) (vJ_value : Int32) (vJ_start : Int32) (vT_partner : AI) (vT_speaks : AI) (H : Heap) (locs : List Loc) (ls : Array Slot), fX5_readPair_b56 RJ RA RT x1 vJ_place vJ_sort vJ_value vJ_start vT_partner vT_speaks = some o → va_P D vwCl (wTe K jJ jA jT vJ_place vJ_sort vJ_value vJ_start ++ (wTa K jA aA RA.bytes RA.length ++ (wTw K jT aT RT.laws RT.kind RT.need RT.saved RT.voice vT_partner vT_speaks RT.count RT.day RT.heard RT.geese RT.z))) H → va_D A (wTe K jJ jA jT vJ_place vJ_sort vJ_value vJ_start ++ (wTa K jA aA RA.bytes RA.length ++ (wTw K jT aT RT.laws RT.kind RT.need RT.saved RT.voice vT_partner vT_speaks RT.count RT.day RT.heard RT.geese RT.z))) → va_S A s.heap H locs → lv_has ls 3 [(0, .ref jJ), (1, .int x1)] → W p l e (headSpec wsX5_readPair rmX5_readPair).room s m ([.ref jJ] : List Value).toArray below meth c H locs 0 0 Q (F0 m 56 ls []) := by
    intro x1 vJ_place vJ_sort vJ_value vJ_start vT_partner vT_speaks H locs ls hf hP hD hS hl
    delta fX5_readPair_b56 at hf
    refine lv_aload_n hx hb dX5_readPair_56 rfl (lv_at hl 0 rfl) ?_
    refine lv_aload_n hx hb dX5_readPair_57 rfl (lv_at hl 0 rfl) ?_
    refine va_get (D := D) (ci := 5) (v := .ref jT) (C := RX5) (T := TX5) (N := 6) hx hb hts iw5 hown hK hP 0 rfl rfl 1 (by decide) kw1 (fun _ h9 => h9) rfl dX5_readPair_58 ?_
    refine va_get (D := D) (ci := 6) (v := .int RT.count) (C := RX6) (T := TX6) (N := 12) hx hb hts iw6 hown hK hP 3 rfl rfl 7 (by decide) kw3 (fun _ h9 => h9) rfl dX5_readPair_61 ?_
    refine lv_iconst (v := 1) hx hb dX5_readPair_64 (by decide) ?_
    refine lv_isub hx hb dX5_readPair_65 ?_
    obtain ⟨o_1, ho_1, hf⟩ := ht_bn_ob hf
    refine ht_callVi (r := o_1.1) (rest := []) (As := [.int (RT.count - (1 : Int32))]) (wc := (wTe K jJ jA jT vJ_place vJ_sort vJ_value vJ_start ++ (wTa K jA aA RA.bytes RA.length))) (wr := (wTw K jT aT RT.laws RT.kind RT.need RT.saved RT.voice vT_partner vT_speaks RT.count RT.day RT.heard RT.geese RT.z)) (w1 := (wTe K jJ jA jT o_1.2.1 o_1.2.2.1 o_1.2.2.2.1 o_1.2.2.2.2 ++ (wTa K jA aA RA.bytes RA.length))) (w2 := (wTe K jJ jA jT o_1.2.1 o_1.2.2.1 o_1.2.2.2.1 o_1.2.2.2.2 ++ (wTa K jA aA RA.bytes RA.length ++ (wTw K jT aT RT.laws RT.kind RT.need RT.saved RT.voice vT_partner vT_speaks RT.count RT.day RT.heard RT.geese RT.z)))) hF (ctX5_readNumber l D K jJ jA aA jT (vJ_place, vJ_sort, vJ_value, vJ_start) RA (RT.count - (1 : Int32)) o_1 ho_1 H.size) (cwV 1 hts gX5_readPair_X5_readNumber rfl rfl rfl hdX5_readNumber ⟨Nat.le_of_ble_eq_true rfl, Nat.le_of_ble_eq_true rfl⟩) hK hP hD hS hA [0, 1, 2] [3, 4, 5, 6, 7, 8, 9, 10] rfl rfl (by decide) (by decide) (by decide) [8, 9, 10, 0, 1, 2, 3, 4, 5, 6, 7] rfl (by decide) (va_recv hK hP (ci := 5) (q0 := 0) rfl rfl) rfl hl.1 rfl (Nat.le_of_ble_eq_true rfl) dX5_readPair_66 ⟨Nat.zero_le _, Nat.zero_le _⟩ (fun H locs hP hD hS => ?_)
    obtain ⟨x2_2, ex2_2, hf⟩ := ht_nm_ob hf
    rw [← ex2_2]
    refine lv_istore_n (lv' := [(2, .int x2_2), (0, .ref jJ), (1, .int x1)]) hx hb dX5_readPair_69 rfl hl (by decide) rfl (fun ls hl => ?_)
    refine lv_iload_n hx hb dX5_readPair_70 rfl (lv_at hl 0 rfl) ?_
    refine lv_iconst (v := -1) hx hb dX5_readPair_71 (by decide) ?_
    refine lv_icmp_eq (tgt := 82) hx hb dX5_readPair_72 (by decide) (fun c_3 => ?_) (fun c_3 => ?_)
    · replace hf := ht_t c_3 hf
      refine lv_iconst (v := 0) hx hb dX5_readPair_82 (by decide) ?_
      have ho := Option.some.inj hf
      subst ho; subst hQ
      exact ht_iret hx hb hr hlk (show narrow .boolean (.int (0 : Int32)) = .int (0 : Int32) from rfl) hK hP hD hS dX5_readPair_83
    · replace hf := ht_f c_3 hf
      refine lv_aload_n hx hb dX5_readPair_75 rfl (lv_at hl 1 rfl) ?_
      obtain ⟨o_4, ho_4, hf⟩ := ht_bn_ob hf
      refine ht_callVi (r := o_4.1) (rest := []) (As := []) (wc := (wTe K jJ jA jT o_1.2.1 o_1.2.2.1 o_1.2.2.2.1 o_1.2.2.2.2 ++ (wTa K jA aA RA.bytes RA.length))) (wr := (wTw K jT aT RT.laws RT.kind RT.need RT.saved RT.voice vT_partner vT_speaks RT.count RT.day RT.heard RT.geese RT.z)) (w1 := (wTe K jJ jA jT o_4.2.1 o_4.2.2.1 o_4.2.2.2.1 o_4.2.2.2.2 ++ (wTa K jA aA RA.bytes RA.length))) (w2 := (wTe K jJ jA jT o_4.2.1 o_4.2.2.1 o_4.2.2.2.1 o_4.2.2.2.2 ++ (wTa K jA aA RA.bytes RA.length ++ (wTw K jT aT RT.laws RT.kind RT.need RT.saved RT.voice vT_partner vT_speaks RT.count RT.day RT.heard RT.geese RT.z)))) hF (ctX5_readSemicolon l D K jJ jA aA jT (o_1.2.1, o_1.2.2.1, o_1.2.2.2.1, o_1.2.2.2.2) RA o_4 ho_4 H.size) (cwV 0 hts gX5_readPair_X5_readSemicolon rfl rfl rfl hdX5_readSemicolon ⟨Nat.le_of_ble_eq_true rfl, Nat.le_of_ble_eq_true rfl⟩) hK hP hD hS hA [0, 1, 2] [3, 4, 5, 6, 7, 8, 9, 10] rfl rfl (by decide) (by decide) (by decide) [8, 9, 10, 0, 1, 2, 3, 4, 5, 6, 7] rfl (by decide) (va_recv hK hP (ci := 5) (q0 := 0) rfl rfl) rfl hl.1 rfl (Nat.le_of_ble_eq_true rfl) dX5_readPair_76 ⟨Nat.zero_le _, Nat.zero_le _⟩ (fun H locs hP hD hS => ?_)
      refine lv_if_ne (tgt := 84) hx hb dX5_readPair_79 (by decide) (fun c_5 => ?_) (fun c_5 => ?_)
      · replace hf := ht_f c_5 hf
        refine lv_aload_n hx hb dX5_readPair_84 rfl (lv_at hl 1 rfl) ?_
        refine va_get (D := D) (ci := 5) (v := .ref jT) (C := RX5) (T := TX5) (N := 6) hx hb hts iw5 hown hK hP 0 rfl rfl 1 (by decide) kw1 (fun _ h9 => h9) rfl dX5_readPair_85 ?_
        refine lv_iload_n hx hb dX5_readPair_88 rfl (lv_at hl 2 rfl) ?_
        refine lv_iload_n hx hb dX5_readPair_89 rfl (lv_at hl 0 rfl) ?_
        obtain ⟨o_6, ho_6, hf⟩ := ht_bn_ob hf
        refine ht_callVv (rest := []) (As := [.int x1, .int x2_2]) (wc := (wTw K jT aT RT.laws RT.kind RT.need RT.saved RT.voice vT_partner vT_speaks RT.count RT.day RT.heard RT.geese RT.z)) (wr := (wTe K jJ jA jT o_4.2.1 o_4.2.2.1 o_4.2.2.2.1 o_4.2.2.2.2 ++ (wTa K jA aA RA.bytes RA.length))) (w1 := (wTw K jT aT RT.laws RT.kind RT.need RT.saved RT.voice o_6.1 o_6.2 RT.count RT.day RT.heard RT.geese RT.z)) (w2 := (wTe K jJ jA jT o_4.2.1 o_4.2.2.1 o_4.2.2.2.1 o_4.2.2.2.2 ++ (wTa K jA aA RA.bytes RA.length ++ (wTw K jT aT RT.laws RT.kind RT.need RT.saved RT.voice o_6.1 o_6.2 RT.count RT.day RT.heard RT.geese RT.z)))) hF (ctX6_join l D K jT aT (RT.laws, RT.kind, RT.need, RT.saved, RT.voice, vT_partner, vT_speaks, RT.count, RT.day, RT.heard, RT.geese, RT.z) x1 x2_2 o_6 ho_6 H.size) (cwV 2 hts gX5_readPair_X6_join rfl rfl rfl hdX6_join ⟨Nat.le_of_ble_eq_true rfl, Nat.le_of_ble_eq_true rfl⟩) hK hP hD hS hA [3, 4, 5, 6, 7, 8, 9, 10] [0, 1, 2] rfl rfl (by decide) (by decide) (by decide) [0, 1, 2, 3, 4, 5, 6, 7, 8, 9, 10] rfl (by decide) (va_recv hK hP (ci := 6) (q0 := 3) rfl rfl) rfl hl.1 rfl (Nat.le_of_ble_eq_true rfl) dX5_readPair_90 ⟨Nat.zero_le _, Nat.zero_le _⟩ (fun H locs hP hD hS => ?_)
        refine lv_iconst (v := 1) hx hb dX5_readPair_93 (by decide) ?_
        have ho := Option.some.inj hf
        subst ho; subst hQ
        exact ht_iret hx hb hr hlk (show narrow .boolean (.int (1 : Int32)) = .int (1 : Int32) from rfl) hK hP hD hS dX5_readPair_94
      · replace hf := ht_t c_5 hf
        refine lv_iconst (v := 0) hx hb dX5_readPair_82 (by decide) ?_
        have ho := Option.some.inj hf
        subst ho; subst hQ
        exact ht_iret hx hb hr hlk (show narrow .boolean (.int (0 : Int32)) = .int (0 : Int32) from rfl) hK hP hD hS dX5_readPair_83
  delta fX5_readPair at hf
  refine lv_aload_n hx hb dX5_readPair_0 rfl (lv_at hl 0 rfl) ?_
  obtain ⟨o_7, ho_7, hf⟩ := ht_bn_ob hf
  refine ht_callVv (rest := []) (As := []) (wc := (wTe K jJ jA jT RJ.place RJ.sort RJ.value RJ.start ++ (wTa K jA aA RA.bytes RA.length))) (wr := (wTw K jT aT RT.laws RT.kind RT.need RT.saved RT.voice RT.partner RT.speaks RT.count RT.day RT.heard RT.geese RT.z)) (w1 := (wTe K jJ jA jT o_7.1 o_7.2.1 o_7.2.2.1 o_7.2.2.2 ++ (wTa K jA aA RA.bytes RA.length))) (w2 := (wTe K jJ jA jT o_7.1 o_7.2.1 o_7.2.2.1 o_7.2.2.2 ++ (wTa K jA aA RA.bytes RA.length ++ (wTw K jT aT RT.laws RT.kind RT.need RT.saved RT.voice RT.partner RT.speaks RT.count RT.day RT.heard RT.geese RT.z)))) hF (ctX5_readAhead l D K jJ jA aA jT RJ RA o_7 ho_7 H.size) (cwV 0 hts gX5_readPair_X5_readAhead rfl rfl rfl hdX5_readAhead ⟨Nat.le_of_ble_eq_true rfl, Nat.le_of_ble_eq_true rfl⟩) hK hP hD hS hA [0, 1, 2] [3, 4, 5, 6, 7, 8, 9, 10] rfl rfl (by decide) (by decide) (by decide) [8, 9, 10, 0, 1, 2, 3, 4, 5, 6, 7] rfl (by decide) (va_recv hK hP (ci := 5) (q0 := 0) rfl rfl) rfl hl.1 rfl (Nat.le_of_ble_eq_true rfl) dX5_readPair_1 ⟨Nat.zero_le _, Nat.zero_le _⟩ (fun H locs hP hD hS => ?_)
  refine lv_aload_n hx hb dX5_readPair_4 rfl (lv_at hl 0 rfl) ?_
  refine lv_aload_n hx hb dX5_readPair_5 rfl (lv_at hl 0 rfl) ?_
  refine va_get (D := D) (ci := 5) (v := .ref jT) (C := RX5) (T := TX5) (N := 6) hx hb hts iw5 hown hK hP 0 rfl rfl 1 (by decide) kw1 (fun _ h9 => h9) rfl dX5_readPair_6 ?_
  refine va_get (D := D) (ci := 6) (v := .int RT.count) (C := RX6) (T := TX6) (N := 12) hx hb hts iw6 hown hK hP 3 rfl rfl 7 (by decide) kw3 (fun _ h9 => h9) rfl dX5_readPair_9 ?_
  refine lv_iconst (v := 1) hx hb dX5_readPair_12 (by decide) ?_
  refine lv_isub hx hb dX5_readPair_13 ?_
  obtain ⟨o_8, ho_8, hf⟩ := ht_bn_ob hf
  refine ht_callVi (r := o_8.1) (rest := []) (As := [.int (RT.count - (1 : Int32))]) (wc := (wTe K jJ jA jT o_7.1 o_7.2.1 o_7.2.2.1 o_7.2.2.2 ++ (wTa K jA aA RA.bytes RA.length))) (wr := (wTw K jT aT RT.laws RT.kind RT.need RT.saved RT.voice RT.partner RT.speaks RT.count RT.day RT.heard RT.geese RT.z)) (w1 := (wTe K jJ jA jT o_8.2.1 o_8.2.2.1 o_8.2.2.2.1 o_8.2.2.2.2 ++ (wTa K jA aA RA.bytes RA.length))) (w2 := (wTe K jJ jA jT o_8.2.1 o_8.2.2.1 o_8.2.2.2.1 o_8.2.2.2.2 ++ (wTa K jA aA RA.bytes RA.length ++ (wTw K jT aT RT.laws RT.kind RT.need RT.saved RT.voice RT.partner RT.speaks RT.count RT.day RT.heard RT.geese RT.z)))) hF (ctX5_readNumber l D K jJ jA aA jT (o_7.1, o_7.2.1, o_7.2.2.1, o_7.2.2.2) RA (RT.count - (1 : Int32)) o_8 ho_8 H.size) (cwV 1 hts gX5_readPair_X5_readNumber rfl rfl rfl hdX5_readNumber ⟨Nat.le_of_ble_eq_true rfl, Nat.le_of_ble_eq_true rfl⟩) hK hP hD hS hA [0, 1, 2] [3, 4, 5, 6, 7, 8, 9, 10] rfl rfl (by decide) (by decide) (by decide) [8, 9, 10, 0, 1, 2, 3, 4, 5, 6, 7] rfl (by decide) (va_recv hK hP (ci := 5) (q0 := 0) rfl rfl) rfl hl.1 rfl (Nat.le_of_ble_eq_true rfl) dX5_readPair_14 ⟨Nat.zero_le _, Nat.zero_le _⟩ (fun H locs hP hD hS => ?_)
  obtain ⟨x1_9, ex1_9, hf⟩ := ht_nm_ob hf
  rw [← ex1_9]
  refine lv_istore_n (lv' := [(1, .int x1_9), (0, .ref jJ)]) hx hb dX5_readPair_17 rfl hl (by decide) rfl (fun ls hl => ?_)
  refine lv_iload_n hx hb dX5_readPair_18 rfl (lv_at hl 0 rfl) ?_
  refine lv_iconst (v := -1) hx hb dX5_readPair_19 (by decide) ?_
  refine lv_icmp_eq (tgt := 32) hx hb dX5_readPair_20 (by decide) (fun c_10 => ?_) (fun c_10 => ?_)
  · replace hf := ht_t c_10 hf
    refine lv_iconst (v := 0) hx hb dX5_readPair_32 (by decide) ?_
    have ho := Option.some.inj hf
    subst ho; subst hQ
    exact ht_iret hx hb hr hlk (show narrow .boolean (.int (0 : Int32)) = .int (0 : Int32) from rfl) hK hP hD hS dX5_readPair_33
  · replace hf := ht_f c_10 hf
    refine lv_aload_n hx hb dX5_readPair_23 rfl (lv_at hl 1 rfl) ?_
    refine va_ldcS hx hb hown (hE.2.1 4 (by decide)) dX5_readPair_24 ?_
    obtain ⟨o_11, ho_11, hf⟩ := ht_bn_ob hf
    refine ht_gVi (r := o_11) (rest := []) (As := [.ref (aK 4)]) (wc := (wTe K jJ jA jT o_8.2.1 o_8.2.2.1 o_8.2.2.2.1 o_8.2.2.2.2 ++ (wTa K jA aA RA.bytes RA.length))) (wr := (wTw K jT aT RT.laws RT.kind RT.need RT.saved RT.voice RT.partner RT.speaks RT.count RT.day RT.heard RT.geese RT.z)) (w1 := (wTe K jJ jA jT o_8.2.1 o_8.2.2.1 o_8.2.2.2.1 o_8.2.2.2.2 ++ (wTa K jA aA RA.bytes RA.length))) (w2 := (wTe K jJ jA jT o_8.2.1 o_8.2.2.1 o_8.2.2.2.1 o_8.2.2.2.2 ++ (wTa K jA aA RA.bytes RA.length ++ (wTw K jT aT RT.laws RT.kind RT.need RT.saved RT.voice RT.partner RT.speaks RT.count RT.day RT.heard RT.geese RT.z)))) hF (ctX5_isName l D K jJ jA aA jT aK aV (o_8.2.1, o_8.2.2.1, o_8.2.2.2.1, o_8.2.2.2.2) RA 4 o_11 ho_11 H.size) (cwV 1 hts gX5_readPair_X5_isName rfl rfl rfl hdX5_isName ⟨Nat.le_of_ble_eq_true rfl, Nat.le_of_ble_eq_true rfl⟩) hP hD hS hA [0, 1, 2] [3, 4, 5, 6, 7, 8, 9, 10] rfl rfl (by decide) (by decide) (by decide) [8, 9, 10, 0, 1, 2, 3, 4, 5, 6, 7] rfl (by decide) (fun hf hP2 hD2 => ht_pvS hK hE hS hf (va_recv hK hP (ci := 5) (q0 := 0) rfl rfl) hP2 hD2) rfl hl.1 rfl (Nat.le_of_ble_eq_true rfl) dX5_readPair_26 ⟨Nat.zero_le _, Nat.zero_le _⟩ (fun H locs hP hD hS => ?_)
    refine lv_if_ne (tgt := 34) hx hb dX5_readPair_29 (by decide) (fun c_12 => ?_) (fun c_12 => ?_)
    · replace hf := ht_f c_12 hf
      refine lv_aload_n hx hb dX5_readPair_34 rfl (lv_at hl 1 rfl) ?_
      obtain ⟨o_13, ho_13, hf⟩ := ht_bn_ob hf
      refine ht_callVv (rest := []) (As := []) (wc := (wTe K jJ jA jT o_8.2.1 o_8.2.2.1 o_8.2.2.2.1 o_8.2.2.2.2 ++ (wTa K jA aA RA.bytes RA.length))) (wr := (wTw K jT aT RT.laws RT.kind RT.need RT.saved RT.voice RT.partner RT.speaks RT.count RT.day RT.heard RT.geese RT.z)) (w1 := (wTe K jJ jA jT o_13.1 o_13.2.1 o_13.2.2.1 o_13.2.2.2 ++ (wTa K jA aA RA.bytes RA.length))) (w2 := (wTe K jJ jA jT o_13.1 o_13.2.1 o_13.2.2.1 o_13.2.2.2 ++ (wTa K jA aA RA.bytes RA.length ++ (wTw K jT aT RT.laws RT.kind RT.need RT.saved RT.voice RT.partner RT.speaks RT.count RT.day RT.heard RT.geese RT.z)))) hF (ctX5_readAhead l D K jJ jA aA jT (o_8.2.1, o_8.2.2.1, o_8.2.2.2.1, o_8.2.2.2.2) RA o_13 ho_13 H.size) (cwV 0 hts gX5_readPair_X5_readAhead rfl rfl rfl hdX5_readAhead ⟨Nat.le_of_ble_eq_true rfl, Nat.le_of_ble_eq_true rfl⟩) hK hP hD hS hA [0, 1, 2] [3, 4, 5, 6, 7, 8, 9, 10] rfl rfl (by decide) (by decide) (by decide) [8, 9, 10, 0, 1, 2, 3, 4, 5, 6, 7] rfl (by decide) (va_recv hK hP (ci := 5) (q0 := 0) rfl rfl) rfl hl.1 rfl (Nat.le_of_ble_eq_true rfl) dX5_readPair_35 ⟨Nat.zero_le _, Nat.zero_le _⟩ (fun H locs hP hD hS => ?_)
      refine lv_aload_n hx hb dX5_readPair_38 rfl (lv_at hl 1 rfl) ?_
      refine va_get (D := D) (ci := 5) (v := .int o_13.2.1) (C := RX5) (T := TX5) (N := 6) hx hb hts iw5 hown hK hP 0 rfl rfl 3 (by decide) kw4 (fun _ h9 => h9) rfl dX5_readPair_39 ?_
      refine lv_iconst (v := 2) hx hb dX5_readPair_42 (by decide) ?_
      refine lv_icmp_ne (tgt := 56) hx hb dX5_readPair_43 (by decide) (fun c_14 => ?_) (fun c_14 => ?_)
      · replace hf := ht_f c_14 hf
        exact b56  x1_9 o_13.1 o_13.2.1 o_13.2.2.1 o_13.2.2.2 RT.partner RT.speaks _ _ _ hf hP hD hS (lv_sub hl [1, 0] rfl)
      · replace hf := ht_t c_14 hf
        refine lv_aload_n hx hb dX5_readPair_46 rfl (lv_at hl 1 rfl) ?_
        refine va_get (D := D) (ci := 5) (v := .int o_13.2.2.1) (C := RX5) (T := TX5) (N := 6) hx hb hts iw5 hown hK hP 0 rfl rfl 4 (by decide) kw5 (fun _ h9 => h9) rfl dX5_readPair_47 ?_
        refine lv_iload_n hx hb dX5_readPair_50 rfl (lv_at hl 0 rfl) ?_
        refine lv_icmp_ne (tgt := 56) hx hb dX5_readPair_51 (by decide) (fun c_15 => ?_) (fun c_15 => ?_)
        · replace hf := ht_f c_15 hf
          exact b56  x1_9 o_13.1 o_13.2.1 o_13.2.2.1 o_13.2.2.2 RT.partner RT.speaks _ _ _ hf hP hD hS (lv_sub hl [1, 0] rfl)
        · replace hf := ht_t c_15 hf
          refine lv_iconst (v := 0) hx hb dX5_readPair_54 (by decide) ?_
          have ho := Option.some.inj hf
          subst ho; subst hQ
          exact ht_iret hx hb hr hlk (show narrow .boolean (.int (0 : Int32)) = .int (0 : Int32) from rfl) hK hP hD hS dX5_readPair_55
    · replace hf := ht_t c_12 hf
      refine lv_iconst (v := 0) hx hb dX5_readPair_32 (by decide) ?_
      have ho := Option.some.inj hf
      subst ho; subst hQ
      exact ht_iret hx hb hr hlk (show narrow .boolean (.int (0 : Int32)) = .int (0 : Int32) from rfl) hK hP hD hS dX5_readPair_33
abbrev rmX5_readTown : Room := { frames := 7, cells := 0, slots := 0, locals := 154 }
theorem hdX5_readTown : yX5_readTown.cls = RX5 ∧ yX5_readTown.cls ≠ "java/lang/invoke/MethodHandle" ∧ yX5_readTown.cls ≠ "java/lang/invoke/VarHandle" ∧ (parseMethodDescriptor yX5_readTown.desc).map (fun d => d.parameters.length) = some 0 := by decide +kernel
def fX5_readTown_b78 (RJ : TellV) (RA : TapeV) (RT : TownV) (x1 : Int32) (vJ_place : Int32) (vJ_sort : Int32) (vJ_value : Int32) (vJ_start : Int32) (vT_laws : AI) (vT_kind : AI) (vT_need : AI) (vT_saved : AI) (vT_voice : AI) (vT_partner : AI) (vT_speaks : AI) (vT_count : Int32) : Option (Int32 × Int32 × Int32 × Int32 × Int32 × AI × AI × AI × AI × AI × AI × AI × Int32) := if x1 = 0 then (some ((0 : Int32), vJ_place, vJ_sort, vJ_value, vJ_start, vT_laws, vT_kind, vT_need, vT_saved, vT_voice, vT_partner, vT_speaks, vT_count)) else (if vJ_sort = 0 then (some ((1 : Int32), vJ_place, vJ_sort, vJ_value, vJ_start, vT_laws, vT_kind, vT_need, vT_saved, vT_voice, vT_partner, vT_speaks, vT_count)) else (some ((0 : Int32), vJ_place, vJ_sort, vJ_value, vJ_start, vT_laws, vT_kind, vT_need, vT_saved, vT_voice, vT_partner, vT_speaks, vT_count)))
def fX5_readTown_b72 (RJ : TellV) (RA : TapeV) (RT : TownV) (k13 : Int32 → Int32 → Int32 → Int32 → Int32 → Int32 → AI → AI → AI → AI → AI → AI → AI → Int32 → Option (Int32 × Int32 × Int32 × Int32 × Int32 × AI × AI × AI × AI × AI × AI × AI × Int32)) (x1 : Int32) (x2 : Int32) (vJ_place : Int32) (vJ_sort : Int32) (vJ_value : Int32) (vJ_start : Int32) (vT_laws : AI) (vT_kind : AI) (vT_need : AI) (vT_saved : AI) (vT_voice : AI) (vT_partner : AI) (vT_speaks : AI) (vT_count : Int32) : Option (Int32 × Int32 × Int32 × Int32 × Int32 × AI × AI × AI × AI × AI × AI × AI × Int32) := ht_nm (x2 + (1 : Int32)) (fun x2_3 => k13 x1 x2_3 vJ_place vJ_sort vJ_value vJ_start vT_laws vT_kind vT_need vT_saved vT_voice vT_partner vT_speaks vT_count)
def fX5_readTown_b13 (RJ : TellV) (RA : TapeV) (RT : TownV) (k13 : Int32 → Int32 → Int32 → Int32 → Int32 → Int32 → AI → AI → AI → AI → AI → AI → AI → Int32 → Option (Int32 × Int32 × Int32 × Int32 × Int32 × AI × AI × AI × AI × AI × AI × AI × Int32)) (x1 : Int32) (x2 : Int32) (vJ_place : Int32) (vJ_sort : Int32) (vJ_value : Int32) (vJ_start : Int32) (vT_laws : AI) (vT_kind : AI) (vT_need : AI) (vT_saved : AI) (vT_voice : AI) (vT_partner : AI) (vT_speaks : AI) (vT_count : Int32) : Option (Int32 × Int32 × Int32 × Int32 × Int32 × AI × AI × AI × AI × AI × AI × AI × Int32) := if (200 : Int32) ≤ x2 then (fX5_readTown_b78 RJ RA RT x1 vJ_place vJ_sort vJ_value vJ_start vT_laws vT_kind vT_need vT_saved vT_voice vT_partner vT_speaks vT_count) else (if x1 = 0 then (fX5_readTown_b78 RJ RA RT x1 vJ_place vJ_sort vJ_value vJ_start vT_laws vT_kind vT_need vT_saved vT_voice vT_partner vT_speaks vT_count) else (if vJ_sort = 0 then (fX5_readTown_b78 RJ RA RT x1 vJ_place vJ_sort vJ_value vJ_start vT_laws vT_kind vT_need vT_saved vT_voice vT_partner vT_speaks vT_count) else (ht_bn (fX5_lawNamed (vJ_place, vJ_sort, vJ_value, vJ_start) RA) (fun o_7 => if o_7 = (-1 : Int32) then (ht_bn (fX5_isName (vJ_place, vJ_sort, vJ_value, vJ_start) RA 0) (fun o_9 => if o_9 = 0 then (ht_bn (fX5_readPerson (vJ_place, vJ_sort, vJ_value, vJ_start) RA (vT_laws, vT_kind, vT_need, vT_saved, vT_voice, vT_partner, vT_speaks, vT_count, RT.day, RT.heard, RT.geese, RT.z)) (fun o_11 => ht_nm o_11.1 (fun x1_12 => fX5_readTown_b72 RJ RA RT k13 x1_12 x2 o_11.2.1 o_11.2.2.1 o_11.2.2.2.1 o_11.2.2.2.2.1 vT_laws o_11.2.2.2.2.2.1 o_11.2.2.2.2.2.2.1 o_11.2.2.2.2.2.2.2.1 o_11.2.2.2.2.2.2.2.2.1 o_11.2.2.2.2.2.2.2.2.2.1 o_11.2.2.2.2.2.2.2.2.2.2.1 o_11.2.2.2.2.2.2.2.2.2.2.2))) else (ht_bn (fX5_readPair (vJ_place, vJ_sort, vJ_value, vJ_start) RA (vT_laws, vT_kind, vT_need, vT_saved, vT_voice, vT_partner, vT_speaks, vT_count, RT.day, RT.heard, RT.geese, RT.z)) (fun o_13 => ht_nm o_13.1 (fun x1_14 => fX5_readTown_b72 RJ RA RT k13 x1_14 x2 o_13.2.1 o_13.2.2.1 o_13.2.2.2.1 o_13.2.2.2.2.1 vT_laws vT_kind vT_need vT_saved vT_voice o_13.2.2.2.2.2.1 o_13.2.2.2.2.2.2 vT_count))))) else (ht_bn (fX5_readLaw (vJ_place, vJ_sort, vJ_value, vJ_start) RA (vT_laws, vT_kind, vT_need, vT_saved, vT_voice, vT_partner, vT_speaks, vT_count, RT.day, RT.heard, RT.geese, RT.z) o_7) (fun o_15 => ht_nm o_15.1 (fun x1_16 => fX5_readTown_b72 RJ RA RT k13 x1_16 x2 o_15.2.1 o_15.2.2.1 o_15.2.2.2.1 o_15.2.2.2.2.1 o_15.2.2.2.2.2 vT_kind vT_need vT_saved vT_voice vT_partner vT_speaks vT_count)))))))
def fX5_readTown (RJ : TellV) (RA : TapeV) (RT : TownV) : Option (Int32 × Int32 × Int32 × Int32 × Int32 × AI × AI × AI × AI × AI × AI × AI × Int32) := ht_bn (fX5_readAhead ((0 : Int32), RJ.sort, RJ.value, RJ.start) RA) (fun o_17 => ht_lp14 (fX5_readTown_b13 RJ RA RT) FU (1 : Int32) (0 : Int32) o_17.1 o_17.2.1 o_17.2.2.1 o_17.2.2.2 RT.laws RT.kind RT.need RT.saved RT.voice RT.partner RT.speaks RT.count)
set_option maxHeartbeats 1000000 in
set_option maxRecDepth 100000 in
theorem ctX5_readTown (l : Launch) (D : va_G) (K : Nat → ClassId) (jJ : Nat) (jA : Nat) (aA : Nat → Nat) (jT : Nat) (aT : Nat → Nat) (aK : Nat → Nat) (aV : Nat → Nat) (RJ : TellV) (RA : TapeV) (RT : TownV) (o : (Int32 × Int32 × Int32 × Int32 × Int32 × AI × AI × AI × AI × AI × AI × AI × Int32)) (hf : fX5_readTown RJ RA RT = some o) (sz : Nat) : Met l yX5_readTown wsX5_readTown rmX5_readTown (ht_PreS D K aK aV [.ref jJ] (wTe K jJ jA jT RJ.place RJ.sort RJ.value RJ.start ++ (wTa K jA aA RA.bytes RA.length ++ (wTw K jT aT RT.laws RT.kind RT.need RT.saved RT.voice RT.partner RT.speaks RT.count RT.day RT.heard RT.geese RT.z))) sz) (ht_Qi D K (wTe K jJ jA jT o.2.1 o.2.2.1 o.2.2.2.1 o.2.2.2.2.1 ++ (wTa K jA aA RA.bytes RA.length ++ (wTw K jT aT o.2.2.2.2.2.1 o.2.2.2.2.2.2.1 o.2.2.2.2.2.2.2.1 o.2.2.2.2.2.2.2.2.1 o.2.2.2.2.2.2.2.2.2.1 o.2.2.2.2.2.2.2.2.2.2.1 o.2.2.2.2.2.2.2.2.2.2.2.1 o.2.2.2.2.2.2.2.2.2.2.2.2 RT.day RT.heard RT.geese RT.z))) o.1 (va_A (wTe K jJ jA jT RJ.place RJ.sort RJ.value RJ.start ++ (wTa K jA aA RA.bytes RA.length ++ (wTw K jT aT RT.laws RT.kind RT.need RT.saved RT.voice RT.partner RT.speaks RT.count RT.day RT.heard RT.geese RT.z))) sz)) 0 0 (va_A (wTe K jJ jA jT RJ.place RJ.sort RJ.value RJ.start ++ (wTa K jA aA RA.bytes RA.length ++ (wTw K jT aT RT.laws RT.kind RT.need RT.saved RT.voice RT.partner RT.speaks RT.count RT.day RT.heard RT.geese RT.z))) sz) := by
  refine ht_enterS (Qf := ht_Qi D K (wTe K jJ jA jT o.2.1 o.2.2.1 o.2.2.2.1 o.2.2.2.2.1 ++ (wTa K jA aA RA.bytes RA.length ++ (wTw K jT aT o.2.2.2.2.2.1 o.2.2.2.2.2.2.1 o.2.2.2.2.2.2.2.1 o.2.2.2.2.2.2.2.2.1 o.2.2.2.2.2.2.2.2.2.1 o.2.2.2.2.2.2.2.2.2.2.1 o.2.2.2.2.2.2.2.2.2.2.2.1 o.2.2.2.2.2.2.2.2.2.2.2.2 RT.day RT.heard RT.geese RT.z))) o.1) (cc := cX5_readTown) (maxL := 4) (rt := (some .boolean)) (by decide) rfl (Nat.le_of_ble_eq_true rfl) ?_ sz
  intro p e s m below meth c A Q H locs ls hQ hx hb hr hlk hmn hml hown hts hA hK hE hP hD hS hl
  have hown : s.vm.findClass RX5 = some m.cls := hown
  have hF : CallFix p m c cX5_readTown 4 s ([.ref jJ] : List Value).toArray wsX5_readTown RX5 := ⟨hx, hb, hml, hown, hts⟩
  have hl : lv_has ls 4 [(0, .ref jJ)] := hl
  have iw5 : ∀ w ∈ u_ws RX5 TX5 6, w ∈ wsX5_readTown := by decide +kernel
  have kw1 := hts (.fieldLink RX5 26 "HeldTongues$Telling" "sort" "I") (by decide +kernel)
  have kw2 := hts (.fieldLink RX5 19 "HeldTongues$Telling" "place" "I") (by decide +kernel)
  have b78 : ∀ (x1 : Int32) (vJ_place : Int32) (vJ_sort : Int32) (vJ_value : Int32) (vJ_start : Int32) (vT_laws : AI) (vT_kind : AI) (vT_need : AI) (vT_saved : AI) (vT_voice : AI) (vT_partner : AI) (vT_speaks : AI) (vT_count : Int32) (H : Heap) (locs : List Loc) (ls : Array Slot), fX5_readTown_b78 RJ RA RT x1 vJ_place vJ_sort vJ_value vJ_start vT_laws vT_kind vT_need vT_saved vT_voice vT_partner vT_speaks vT_count = some o → va_P D vwCl (wTe K jJ jA jT vJ_place vJ_sort vJ_value vJ_start ++ (wTa K jA aA RA.bytes RA.length ++ (wTw K jT aT vT_laws vT_kind vT_need vT_saved vT_voice vT_partner vT_speaks vT_count RT.day RT.heard RT.geese RT.z))) H → va_D A (wTe K jJ jA jT vJ_place vJ_sort vJ_value vJ_start ++ (wTa K jA aA RA.bytes RA.length ++ (wTw K jT aT vT_laws vT_kind vT_need vT_saved vT_voice vT_partner vT_speaks vT_count RT.day RT.heard RT.geese RT.z))) → va_S A s.heap H locs → lv_has ls 4 [(0, .ref jJ), (1, .int x1)] → W p l e (headSpec wsX5_readTown rmX5_readTown).room s m ([.ref jJ] : List Value).toArray below meth c H locs 0 0 Q (F0 m 78 ls []) := by
    intro x1 vJ_place vJ_sort vJ_value vJ_start vT_laws vT_kind vT_need vT_saved vT_voice vT_partner vT_speaks vT_count H locs ls hf hP hD hS hl
    delta fX5_readTown_b78 at hf
    refine lv_iload_n hx hb dX5_readTown_78 rfl (lv_at hl 1 rfl) ?_
    refine lv_if_eq (tgt := 93) hx hb dX5_readTown_79 (by decide) (fun c_1 => ?_) (fun c_1 => ?_)
    · replace hf := ht_t c_1 hf
      refine lv_iconst (v := 0) hx hb dX5_readTown_93 (by decide) ?_
      have ho := Option.some.inj hf
      subst ho; subst hQ
      exact ht_iret hx hb hr hlk (show narrow .boolean (.int (0 : Int32)) = .int (0 : Int32) from rfl) hK hP hD hS dX5_readTown_94
    · replace hf := ht_f c_1 hf
      refine lv_aload_n hx hb dX5_readTown_82 rfl (lv_at hl 0 rfl) ?_
      refine va_get (D := D) (ci := 5) (v := .int vJ_sort) (C := RX5) (T := TX5) (N := 6) hx hb hts iw5 hown hK hP 0 rfl rfl 3 (by decide) kw1 (fun _ h9 => h9) rfl dX5_readTown_83 ?_
      refine lv_if_ne (tgt := 93) hx hb dX5_readTown_86 (by decide) (fun c_2 => ?_) (fun c_2 => ?_)
      · replace hf := ht_f c_2 hf
        refine lv_iconst (v := 0) hx hb dX5_readTown_93 (by decide) ?_
        have ho := Option.some.inj hf
        subst ho; subst hQ
        exact ht_iret hx hb hr hlk (show narrow .boolean (.int (0 : Int32)) = .int (0 : Int32) from rfl) hK hP hD hS dX5_readTown_94
      · replace hf := ht_t c_2 hf
        refine lv_iconst (v := 1) hx hb dX5_readTown_89 (by decide) ?_
        refine lv_goto (tgt := 94) hx hb dX5_readTown_90 (by decide) ?_
        have ho := Option.some.inj hf
        subst ho; subst hQ
        exact ht_iret hx hb hr hlk (show narrow .boolean (.int (1 : Int32)) = .int (1 : Int32) from rfl) hK hP hD hS dX5_readTown_94
  have b72 : ∀ (k13 : Int32 → Int32 → Int32 → Int32 → Int32 → Int32 → AI → AI → AI → AI → AI → AI → AI → Int32 → Option (Int32 × Int32 × Int32 × Int32 × Int32 × AI × AI × AI × AI × AI × AI × AI × Int32)) (hk13 : ∀ (x1 : Int32) (x2 : Int32) (vJ_place : Int32) (vJ_sort : Int32) (vJ_value : Int32) (vJ_start : Int32) (vT_laws : AI) (vT_kind : AI) (vT_need : AI) (vT_saved : AI) (vT_voice : AI) (vT_partner : AI) (vT_speaks : AI) (vT_count : Int32) (H : Heap) (locs : List Loc) (ls : Array Slot), k13 x1 x2 vJ_place vJ_sort vJ_value vJ_start vT_laws vT_kind vT_need vT_saved vT_voice vT_partner vT_speaks vT_count = some o → va_P D vwCl (wTe K jJ jA jT vJ_place vJ_sort vJ_value vJ_start ++ (wTa K jA aA RA.bytes RA.length ++ (wTw K jT aT vT_laws vT_kind vT_need vT_saved vT_voice vT_partner vT_speaks vT_count RT.day RT.heard RT.geese RT.z))) H → va_D A (wTe K jJ jA jT vJ_place vJ_sort vJ_value vJ_start ++ (wTa K jA aA RA.bytes RA.length ++ (wTw K jT aT vT_laws vT_kind vT_need vT_saved vT_voice vT_partner vT_speaks vT_count RT.day RT.heard RT.geese RT.z))) → va_S A s.heap H locs → lv_has ls 4 [(0, .ref jJ), (1, .int x1), (2, .int x2)] → W p l e (headSpec wsX5_readTown rmX5_readTown).room s m ([.ref jJ] : List Value).toArray below meth c H locs 0 0 Q (F0 m 13 ls [])) (x1 : Int32) (x2 : Int32) (vJ_place : Int32) (vJ_sort : Int32) (vJ_value : Int32) (vJ_start : Int32) (vT_laws : AI) (vT_kind : AI) (vT_need : AI) (vT_saved : AI) (vT_voice : AI) (vT_partner : AI) (vT_speaks : AI) (vT_count : Int32) (H : Heap) (locs : List Loc) (ls : Array Slot), fX5_readTown_b72 RJ RA RT k13 x1 x2 vJ_place vJ_sort vJ_value vJ_start vT_laws vT_kind vT_need vT_saved vT_voice vT_partner vT_speaks vT_count = some o → va_P D vwCl (wTe K jJ jA jT vJ_place vJ_sort vJ_value vJ_start ++ (wTa K jA aA RA.bytes RA.length ++ (wTw K jT aT vT_laws vT_kind vT_need vT_saved vT_voice vT_partner vT_speaks vT_count RT.day RT.heard RT.geese RT.z))) H → va_D A (wTe K jJ jA jT vJ_place vJ_sort vJ_value vJ_start ++ (wTa K jA aA RA.bytes RA.length ++ (wTw K jT aT vT_laws vT_kind vT_need vT_saved vT_voice vT_partner vT_speaks vT_count RT.day RT.heard RT.geese RT.z))) → va_S A s.heap H locs → lv_has ls 4 [(0, .ref jJ), (1, .int x1), (2, .int x2)] → W p l e (headSpec wsX5_readTown rmX5_readTown).room s m ([.ref jJ] : List Value).toArray below meth c H locs 0 0 Q (F0 m 72 ls []) := by
    intro k13 hk13 x1 x2 vJ_place vJ_sort vJ_value vJ_start vT_laws vT_kind vT_need vT_saved vT_voice vT_partner vT_speaks vT_count H locs ls hf hP hD hS hl
    delta fX5_readTown_b72 at hf
    obtain ⟨x2_3, ex2_3, hf⟩ := ht_nm_ob hf
    refine lv_iinc (v := x2_3) (lv' := [(2, .int x2_3), (0, .ref jJ), (1, .int x1)]) hx hb dX5_readTown_72 hl (k := 2) rfl (by rw [ex2_3]; rfl) (by decide) rfl (fun ls hl => ?_)
    refine lv_goto (tgt := 13) hx hb dX5_readTown_75 (by decide) ?_
    exact hk13 x1 x2_3 vJ_place vJ_sort vJ_value vJ_start vT_laws vT_kind vT_need vT_saved vT_voice vT_partner vT_speaks vT_count _ _ _ hf hP hD hS (lv_sub hl [1, 2, 0] rfl)
  have b13 : ∀ (n : Nat) (x1 : Int32) (x2 : Int32) (vJ_place : Int32) (vJ_sort : Int32) (vJ_value : Int32) (vJ_start : Int32) (vT_laws : AI) (vT_kind : AI) (vT_need : AI) (vT_saved : AI) (vT_voice : AI) (vT_partner : AI) (vT_speaks : AI) (vT_count : Int32) (H : Heap) (locs : List Loc) (ls : Array Slot), ht_lp14 (fX5_readTown_b13 RJ RA RT) n x1 x2 vJ_place vJ_sort vJ_value vJ_start vT_laws vT_kind vT_need vT_saved vT_voice vT_partner vT_speaks vT_count = some o → va_P D vwCl (wTe K jJ jA jT vJ_place vJ_sort vJ_value vJ_start ++ (wTa K jA aA RA.bytes RA.length ++ (wTw K jT aT vT_laws vT_kind vT_need vT_saved vT_voice vT_partner vT_speaks vT_count RT.day RT.heard RT.geese RT.z))) H → va_D A (wTe K jJ jA jT vJ_place vJ_sort vJ_value vJ_start ++ (wTa K jA aA RA.bytes RA.length ++ (wTw K jT aT vT_laws vT_kind vT_need vT_saved vT_voice vT_partner vT_speaks vT_count RT.day RT.heard RT.geese RT.z))) → va_S A s.heap H locs → lv_has ls 4 [(0, .ref jJ), (1, .int x1), (2, .int x2)] → W p l e (headSpec wsX5_readTown rmX5_readTown).room s m ([.ref jJ] : List Value).toArray below meth c H locs 0 0 Q (F0 m 13 ls []) := by
    intro n
    induction n with
    | zero =>
      intro x1 x2 vJ_place vJ_sort vJ_value vJ_start vT_laws vT_kind vT_need vT_saved vT_voice vT_partner vT_speaks vT_count H locs ls hf hP hD hS hl
      cases (show (none : Option (Int32 × Int32 × Int32 × Int32 × Int32 × AI × AI × AI × AI × AI × AI × AI × Int32)) = some o from hf)
    | succ n hk13 =>
      intro x1 x2 vJ_place vJ_sort vJ_value vJ_start vT_laws vT_kind vT_need vT_saved vT_voice vT_partner vT_speaks vT_count H locs ls hf hP hD hS hl
      replace hf : fX5_readTown_b13 RJ RA RT (ht_lp14 (fX5_readTown_b13 RJ RA RT) n) x1 x2 vJ_place vJ_sort vJ_value vJ_start vT_laws vT_kind vT_need vT_saved vT_voice vT_partner vT_speaks vT_count = some o := hf
      delta fX5_readTown_b13 at hf
      refine lv_iload_n hx hb dX5_readTown_13 rfl (lv_at hl 2 rfl) ?_
      refine lv_sipush (v := 200) hx hb dX5_readTown_14 (by decide) ?_
      refine lv_icmp_ge (tgt := 78) hx hb dX5_readTown_17 (by decide) (fun c_4 => ?_) (fun c_4 => ?_)
      · replace hf := ht_t c_4 hf
        exact b78  x1 vJ_place vJ_sort vJ_value vJ_start vT_laws vT_kind vT_need vT_saved vT_voice vT_partner vT_speaks vT_count _ _ _ hf hP hD hS (lv_sub hl [0, 1] rfl)
      · replace hf := ht_f c_4 hf
        refine lv_iload_n hx hb dX5_readTown_20 rfl (lv_at hl 1 rfl) ?_
        refine lv_if_eq (tgt := 78) hx hb dX5_readTown_21 (by decide) (fun c_5 => ?_) (fun c_5 => ?_)
        · replace hf := ht_t c_5 hf
          exact b78  x1 vJ_place vJ_sort vJ_value vJ_start vT_laws vT_kind vT_need vT_saved vT_voice vT_partner vT_speaks vT_count _ _ _ hf hP hD hS (lv_sub hl [0, 1] rfl)
        · replace hf := ht_f c_5 hf
          refine lv_aload_n hx hb dX5_readTown_24 rfl (lv_at hl 0 rfl) ?_
          refine va_get (D := D) (ci := 5) (v := .int vJ_sort) (C := RX5) (T := TX5) (N := 6) hx hb hts iw5 hown hK hP 0 rfl rfl 3 (by decide) kw1 (fun _ h9 => h9) rfl dX5_readTown_25 ?_
          refine lv_if_eq (tgt := 78) hx hb dX5_readTown_28 (by decide) (fun c_6 => ?_) (fun c_6 => ?_)
          · replace hf := ht_t c_6 hf
            exact b78  x1 vJ_place vJ_sort vJ_value vJ_start vT_laws vT_kind vT_need vT_saved vT_voice vT_partner vT_speaks vT_count _ _ _ hf hP hD hS (lv_sub hl [0, 1] rfl)
          · replace hf := ht_f c_6 hf
            refine lv_aload_n hx hb dX5_readTown_31 rfl (lv_at hl 0 rfl) ?_
            obtain ⟨o_7, ho_7, hf⟩ := ht_bn_ob hf
            refine ht_gVi (r := o_7) (rest := []) (As := []) (wc := (wTe K jJ jA jT vJ_place vJ_sort vJ_value vJ_start ++ (wTa K jA aA RA.bytes RA.length))) (wr := (wTw K jT aT vT_laws vT_kind vT_need vT_saved vT_voice vT_partner vT_speaks vT_count RT.day RT.heard RT.geese RT.z)) (w1 := (wTe K jJ jA jT vJ_place vJ_sort vJ_value vJ_start ++ (wTa K jA aA RA.bytes RA.length))) (w2 := (wTe K jJ jA jT vJ_place vJ_sort vJ_value vJ_start ++ (wTa K jA aA RA.bytes RA.length ++ (wTw K jT aT vT_laws vT_kind vT_need vT_saved vT_voice vT_partner vT_speaks vT_count RT.day RT.heard RT.geese RT.z)))) hF (ctX5_lawNamed l D K jJ jA aA jT aK aV (vJ_place, vJ_sort, vJ_value, vJ_start) RA o_7 ho_7 H.size) (cwV 0 hts gX5_readTown_X5_lawNamed rfl rfl rfl hdX5_lawNamed ⟨Nat.le_of_ble_eq_true rfl, Nat.le_of_ble_eq_true rfl⟩) hP hD hS hA [0, 1, 2] [3, 4, 5, 6, 7, 8, 9, 10] rfl rfl (by decide) (by decide) (by decide) [8, 9, 10, 0, 1, 2, 3, 4, 5, 6, 7] rfl (by decide) (fun hf hP2 hD2 => ht_pvS hK hE hS hf (va_recv hK hP (ci := 5) (q0 := 0) rfl rfl) hP2 hD2) rfl hl.1 rfl (Nat.le_of_ble_eq_true rfl) dX5_readTown_32 ⟨Nat.zero_le _, Nat.zero_le _⟩ (fun H locs hP hD hS => ?_)
            refine lv_istore_n (lv' := [(3, .int o_7), (0, .ref jJ), (1, .int x1), (2, .int x2)]) hx hb dX5_readTown_35 rfl hl (by decide) rfl (fun ls hl => ?_)
            refine lv_iload_n hx hb dX5_readTown_36 rfl (lv_at hl 0 rfl) ?_
            refine lv_iconst (v := -1) hx hb dX5_readTown_37 (by decide) ?_
            refine lv_icmp_eq (tgt := 50) hx hb dX5_readTown_38 (by decide) (fun c_8 => ?_) (fun c_8 => ?_)
            · replace hf := ht_t c_8 hf
              refine lv_aload_n hx hb dX5_readTown_50 rfl (lv_at hl 1 rfl) ?_
              refine va_ldcS hx hb hown (hE.2.1 0 (by decide)) dX5_readTown_51 ?_
              obtain ⟨o_9, ho_9, hf⟩ := ht_bn_ob hf
              refine ht_gVi (r := o_9) (rest := []) (As := [.ref (aK 0)]) (wc := (wTe K jJ jA jT vJ_place vJ_sort vJ_value vJ_start ++ (wTa K jA aA RA.bytes RA.length))) (wr := (wTw K jT aT vT_laws vT_kind vT_need vT_saved vT_voice vT_partner vT_speaks vT_count RT.day RT.heard RT.geese RT.z)) (w1 := (wTe K jJ jA jT vJ_place vJ_sort vJ_value vJ_start ++ (wTa K jA aA RA.bytes RA.length))) (w2 := (wTe K jJ jA jT vJ_place vJ_sort vJ_value vJ_start ++ (wTa K jA aA RA.bytes RA.length ++ (wTw K jT aT vT_laws vT_kind vT_need vT_saved vT_voice vT_partner vT_speaks vT_count RT.day RT.heard RT.geese RT.z)))) hF (ctX5_isName l D K jJ jA aA jT aK aV (vJ_place, vJ_sort, vJ_value, vJ_start) RA 0 o_9 ho_9 H.size) (cwV 1 hts gX5_readTown_X5_isName rfl rfl rfl hdX5_isName ⟨Nat.le_of_ble_eq_true rfl, Nat.le_of_ble_eq_true rfl⟩) hP hD hS hA [0, 1, 2] [3, 4, 5, 6, 7, 8, 9, 10] rfl rfl (by decide) (by decide) (by decide) [8, 9, 10, 0, 1, 2, 3, 4, 5, 6, 7] rfl (by decide) (fun hf hP2 hD2 => ht_pvS hK hE hS hf (va_recv hK hP (ci := 5) (q0 := 0) rfl rfl) hP2 hD2) rfl hl.1 rfl (Nat.le_of_ble_eq_true rfl) dX5_readTown_53 ⟨Nat.zero_le _, Nat.zero_le _⟩ (fun H locs hP hD hS => ?_)
              refine lv_if_eq (tgt := 67) hx hb dX5_readTown_56 (by decide) (fun c_10 => ?_) (fun c_10 => ?_)
              · replace hf := ht_t c_10 hf
                refine lv_aload_n hx hb dX5_readTown_67 rfl (lv_at hl 1 rfl) ?_
                obtain ⟨o_11, ho_11, hf⟩ := ht_bn_ob hf
                refine ht_gVi (r := o_11.1) (rest := []) (As := []) (wc := (wTe K jJ jA jT vJ_place vJ_sort vJ_value vJ_start ++ (wTa K jA aA RA.bytes RA.length ++ (wTw K jT aT vT_laws vT_kind vT_need vT_saved vT_voice vT_partner vT_speaks vT_count RT.day RT.heard RT.geese RT.z)))) (wr := []) (w1 := (wTe K jJ jA jT o_11.2.1 o_11.2.2.1 o_11.2.2.2.1 o_11.2.2.2.2.1 ++ (wTa K jA aA RA.bytes RA.length ++ (wTw K jT aT vT_laws o_11.2.2.2.2.2.1 o_11.2.2.2.2.2.2.1 o_11.2.2.2.2.2.2.2.1 o_11.2.2.2.2.2.2.2.2.1 o_11.2.2.2.2.2.2.2.2.2.1 o_11.2.2.2.2.2.2.2.2.2.2.1 o_11.2.2.2.2.2.2.2.2.2.2.2 RT.day RT.heard RT.geese RT.z)))) (w2 := (wTe K jJ jA jT o_11.2.1 o_11.2.2.1 o_11.2.2.2.1 o_11.2.2.2.2.1 ++ (wTa K jA aA RA.bytes RA.length ++ (wTw K jT aT vT_laws o_11.2.2.2.2.2.1 o_11.2.2.2.2.2.2.1 o_11.2.2.2.2.2.2.2.1 o_11.2.2.2.2.2.2.2.2.1 o_11.2.2.2.2.2.2.2.2.2.1 o_11.2.2.2.2.2.2.2.2.2.2.1 o_11.2.2.2.2.2.2.2.2.2.2.2 RT.day RT.heard RT.geese RT.z)))) hF (ctX5_readPerson l D K jJ jA aA jT aT aK aV (vJ_place, vJ_sort, vJ_value, vJ_start) RA (vT_laws, vT_kind, vT_need, vT_saved, vT_voice, vT_partner, vT_speaks, vT_count, RT.day, RT.heard, RT.geese, RT.z) o_11 ho_11 H.size) (cwV 0 hts gX5_readTown_X5_readPerson rfl rfl rfl hdX5_readPerson ⟨Nat.le_of_ble_eq_true rfl, Nat.le_of_ble_eq_true rfl⟩) hP hD hS hA [0, 1, 2, 3, 4, 5, 6, 7, 8, 9, 10] [] rfl rfl (by decide) (by decide) (by decide) [0, 1, 2, 3, 4, 5, 6, 7, 8, 9, 10] rfl (by decide) (fun hf hP2 hD2 => ht_pvS hK hE hS hf (va_recv hK hP (ci := 5) (q0 := 0) rfl rfl) hP2 hD2) rfl hl.1 rfl (Nat.le_of_ble_eq_true rfl) dX5_readTown_68 ⟨Nat.zero_le _, Nat.zero_le _⟩ (fun H locs hP hD hS => ?_)
                obtain ⟨x1_12, ex1_12, hf⟩ := ht_nm_ob hf
                rw [← ex1_12]
                refine lv_istore_n (lv' := [(1, .int x1_12), (3, .int o_7), (0, .ref jJ), (2, .int x2)]) hx hb dX5_readTown_71 rfl hl (by decide) rfl (fun ls hl => ?_)
                exact b72 _ hk13 x1_12 x2 o_11.2.1 o_11.2.2.1 o_11.2.2.2.1 o_11.2.2.2.2.1 vT_laws o_11.2.2.2.2.2.1 o_11.2.2.2.2.2.2.1 o_11.2.2.2.2.2.2.2.1 o_11.2.2.2.2.2.2.2.2.1 o_11.2.2.2.2.2.2.2.2.2.1 o_11.2.2.2.2.2.2.2.2.2.2.1 o_11.2.2.2.2.2.2.2.2.2.2.2 _ _ _ hf hP hD hS (lv_sub hl [2, 0, 3] rfl)
              · replace hf := ht_f c_10 hf
                refine lv_aload_n hx hb dX5_readTown_59 rfl (lv_at hl 1 rfl) ?_
                obtain ⟨o_13, ho_13, hf⟩ := ht_bn_ob hf
                refine ht_gVi (r := o_13.1) (rest := []) (As := []) (wc := (wTe K jJ jA jT vJ_place vJ_sort vJ_value vJ_start ++ (wTa K jA aA RA.bytes RA.length ++ (wTw K jT aT vT_laws vT_kind vT_need vT_saved vT_voice vT_partner vT_speaks vT_count RT.day RT.heard RT.geese RT.z)))) (wr := []) (w1 := (wTe K jJ jA jT o_13.2.1 o_13.2.2.1 o_13.2.2.2.1 o_13.2.2.2.2.1 ++ (wTa K jA aA RA.bytes RA.length ++ (wTw K jT aT vT_laws vT_kind vT_need vT_saved vT_voice o_13.2.2.2.2.2.1 o_13.2.2.2.2.2.2 vT_count RT.day RT.heard RT.geese RT.z)))) (w2 := (wTe K jJ jA jT o_13.2.1 o_13.2.2.1 o_13.2.2.2.1 o_13.2.2.2.2.1 ++ (wTa K jA aA RA.bytes RA.length ++ (wTw K jT aT vT_laws vT_kind vT_need vT_saved vT_voice o_13.2.2.2.2.2.1 o_13.2.2.2.2.2.2 vT_count RT.day RT.heard RT.geese RT.z)))) hF (ctX5_readPair l D K jJ jA aA jT aT aK aV (vJ_place, vJ_sort, vJ_value, vJ_start) RA (vT_laws, vT_kind, vT_need, vT_saved, vT_voice, vT_partner, vT_speaks, vT_count, RT.day, RT.heard, RT.geese, RT.z) o_13 ho_13 H.size) (cwV 0 hts gX5_readTown_X5_readPair rfl rfl rfl hdX5_readPair ⟨Nat.le_of_ble_eq_true rfl, Nat.le_of_ble_eq_true rfl⟩) hP hD hS hA [0, 1, 2, 3, 4, 5, 6, 7, 8, 9, 10] [] rfl rfl (by decide) (by decide) (by decide) [0, 1, 2, 3, 4, 5, 6, 7, 8, 9, 10] rfl (by decide) (fun hf hP2 hD2 => ht_pvS hK hE hS hf (va_recv hK hP (ci := 5) (q0 := 0) rfl rfl) hP2 hD2) rfl hl.1 rfl (Nat.le_of_ble_eq_true rfl) dX5_readTown_60 ⟨Nat.zero_le _, Nat.zero_le _⟩ (fun H locs hP hD hS => ?_)
                obtain ⟨x1_14, ex1_14, hf⟩ := ht_nm_ob hf
                rw [← ex1_14]
                refine lv_istore_n (lv' := [(1, .int x1_14), (3, .int o_7), (0, .ref jJ), (2, .int x2)]) hx hb dX5_readTown_63 rfl hl (by decide) rfl (fun ls hl => ?_)
                refine lv_goto (tgt := 72) hx hb dX5_readTown_64 (by decide) ?_
                exact b72 _ hk13 x1_14 x2 o_13.2.1 o_13.2.2.1 o_13.2.2.2.1 o_13.2.2.2.2.1 vT_laws vT_kind vT_need vT_saved vT_voice o_13.2.2.2.2.2.1 o_13.2.2.2.2.2.2 vT_count _ _ _ hf hP hD hS (lv_sub hl [2, 0, 3] rfl)
            · replace hf := ht_f c_8 hf
              refine lv_aload_n hx hb dX5_readTown_41 rfl (lv_at hl 1 rfl) ?_
              refine lv_iload_n hx hb dX5_readTown_42 rfl (lv_at hl 0 rfl) ?_
              obtain ⟨o_15, ho_15, hf⟩ := ht_bn_ob hf
              refine ht_gVi (r := o_15.1) (rest := []) (As := [.int o_7]) (wc := (wTe K jJ jA jT vJ_place vJ_sort vJ_value vJ_start ++ (wTa K jA aA RA.bytes RA.length ++ (wTw K jT aT vT_laws vT_kind vT_need vT_saved vT_voice vT_partner vT_speaks vT_count RT.day RT.heard RT.geese RT.z)))) (wr := []) (w1 := (wTe K jJ jA jT o_15.2.1 o_15.2.2.1 o_15.2.2.2.1 o_15.2.2.2.2.1 ++ (wTa K jA aA RA.bytes RA.length ++ (wTw K jT aT o_15.2.2.2.2.2 vT_kind vT_need vT_saved vT_voice vT_partner vT_speaks vT_count RT.day RT.heard RT.geese RT.z)))) (w2 := (wTe K jJ jA jT o_15.2.1 o_15.2.2.1 o_15.2.2.2.1 o_15.2.2.2.2.1 ++ (wTa K jA aA RA.bytes RA.length ++ (wTw K jT aT o_15.2.2.2.2.2 vT_kind vT_need vT_saved vT_voice vT_partner vT_speaks vT_count RT.day RT.heard RT.geese RT.z)))) hF (ctX5_readLaw l D K jJ jA aA jT aT aK aV (vJ_place, vJ_sort, vJ_value, vJ_start) RA (vT_laws, vT_kind, vT_need, vT_saved, vT_voice, vT_partner, vT_speaks, vT_count, RT.day, RT.heard, RT.geese, RT.z) o_7 o_15 ho_15 H.size) (cwV 1 hts gX5_readTown_X5_readLaw rfl rfl rfl hdX5_readLaw ⟨Nat.le_of_ble_eq_true rfl, Nat.le_of_ble_eq_true rfl⟩) hP hD hS hA [0, 1, 2, 3, 4, 5, 6, 7, 8, 9, 10] [] rfl rfl (by decide) (by decide) (by decide) [0, 1, 2, 3, 4, 5, 6, 7, 8, 9, 10] rfl (by decide) (fun hf hP2 hD2 => ht_pvS hK hE hS hf (va_recv hK hP (ci := 5) (q0 := 0) rfl rfl) hP2 hD2) rfl hl.1 rfl (Nat.le_of_ble_eq_true rfl) dX5_readTown_43 ⟨Nat.zero_le _, Nat.zero_le _⟩ (fun H locs hP hD hS => ?_)
              obtain ⟨x1_16, ex1_16, hf⟩ := ht_nm_ob hf
              rw [← ex1_16]
              refine lv_istore_n (lv' := [(1, .int x1_16), (3, .int o_7), (0, .ref jJ), (2, .int x2)]) hx hb dX5_readTown_46 rfl hl (by decide) rfl (fun ls hl => ?_)
              refine lv_goto (tgt := 72) hx hb dX5_readTown_47 (by decide) ?_
              exact b72 _ hk13 x1_16 x2 o_15.2.1 o_15.2.2.1 o_15.2.2.2.1 o_15.2.2.2.2.1 o_15.2.2.2.2.2 vT_kind vT_need vT_saved vT_voice vT_partner vT_speaks vT_count _ _ _ hf hP hD hS (lv_sub hl [2, 0, 3] rfl)
  delta fX5_readTown at hf
  refine lv_aload_n hx hb dX5_readTown_0 rfl (lv_at hl 0 rfl) ?_
  refine lv_iconst (v := 0) hx hb dX5_readTown_1 (by decide) ?_
  refine ht_put (ci := 5) (v := .int (0 : Int32)) (ty := .int) (C := RX5) (T := TX5) (N := 6) (w2 := (wTe K jJ jA jT (0 : Int32) RJ.sort RJ.value RJ.start ++ (wTa K jA aA RA.bytes RA.length ++ (wTw K jT aT RT.laws RT.kind RT.need RT.saved RT.voice RT.partner RT.speaks RT.count RT.day RT.heard RT.geese RT.z)))) hx hb hts iw5 tyX5 tyX5_ok nmX5 hown hK hP hD hS 0 rfl rfl 2 (by decide) kw2 (fun _ h9 => h9) rfl (by decide +kernel) rfl rfl (Nat.le_of_ble_eq_true rfl) dX5_readTown_2 rfl (fun H locs hP hD hS => ?_)
  refine lv_aload_n hx hb dX5_readTown_5 rfl (lv_at hl 0 rfl) ?_
  obtain ⟨o_17, ho_17, hf⟩ := ht_bn_ob hf
  refine ht_callVv (rest := []) (As := []) (wc := (wTe K jJ jA jT (0 : Int32) RJ.sort RJ.value RJ.start ++ (wTa K jA aA RA.bytes RA.length))) (wr := (wTw K jT aT RT.laws RT.kind RT.need RT.saved RT.voice RT.partner RT.speaks RT.count RT.day RT.heard RT.geese RT.z)) (w1 := (wTe K jJ jA jT o_17.1 o_17.2.1 o_17.2.2.1 o_17.2.2.2 ++ (wTa K jA aA RA.bytes RA.length))) (w2 := (wTe K jJ jA jT o_17.1 o_17.2.1 o_17.2.2.1 o_17.2.2.2 ++ (wTa K jA aA RA.bytes RA.length ++ (wTw K jT aT RT.laws RT.kind RT.need RT.saved RT.voice RT.partner RT.speaks RT.count RT.day RT.heard RT.geese RT.z)))) hF (ctX5_readAhead l D K jJ jA aA jT ((0 : Int32), RJ.sort, RJ.value, RJ.start) RA o_17 ho_17 H.size) (cwV 0 hts gX5_readTown_X5_readAhead rfl rfl rfl hdX5_readAhead ⟨Nat.le_of_ble_eq_true rfl, Nat.le_of_ble_eq_true rfl⟩) hK hP hD hS hA [0, 1, 2] [3, 4, 5, 6, 7, 8, 9, 10] rfl rfl (by decide) (by decide) (by decide) [8, 9, 10, 0, 1, 2, 3, 4, 5, 6, 7] rfl (by decide) (va_recv hK hP (ci := 5) (q0 := 0) rfl rfl) rfl hl.1 rfl (Nat.le_of_ble_eq_true rfl) dX5_readTown_6 ⟨Nat.zero_le _, Nat.zero_le _⟩ (fun H locs hP hD hS => ?_)
  refine lv_iconst (v := 1) hx hb dX5_readTown_9 (by decide) ?_
  refine lv_istore_n (lv' := [(1, .int (1 : Int32)), (0, .ref jJ)]) hx hb dX5_readTown_10 rfl hl (by decide) rfl (fun ls hl => ?_)
  refine lv_iconst (v := 0) hx hb dX5_readTown_11 (by decide) ?_
  refine lv_istore_n (lv' := [(2, .int (0 : Int32)), (1, .int (1 : Int32)), (0, .ref jJ)]) hx hb dX5_readTown_12 rfl hl (by decide) rfl (fun ls hl => ?_)
  exact b13  FU (1 : Int32) (0 : Int32) o_17.1 o_17.2.1 o_17.2.2.1 o_17.2.2.2 RT.laws RT.kind RT.need RT.saved RT.voice RT.partner RT.speaks RT.count _ _ _ hf hP hD hS (lv_sub hl [2, 1, 0] rfl)
abbrev rmX8_town : Room := { frames := 8, cells := 0, slots := 0, locals := 177 }
theorem hdX8_town : yX8_town.cls = RX8 ∧ yX8_town.cls ≠ "java/lang/invoke/MethodHandle" ∧ yX8_town.cls ≠ "java/lang/invoke/VarHandle" ∧ (parseMethodDescriptor yX8_town.desc).map (fun d => d.parameters.length) = some 0 := by decide +kernel
def fX8_town (RX : HTV) (RJ : TellV) (RA : TapeV) (RN : TownV) (RT : TownV) (RR : DayV) : Option (Int32 × Int32 × Int32 × Int32 × Int32 × Int32 × AI × AI × AI × AI × AI × AI × AI × Int32 × Int32 × Int32 × Int32 × Int32 × AI × AI × AI × AI × AI × AI × AI × Int32 × Int32 × Int32 × Int32 × Int32 × Int32) := ht_bn (fX6_beginAnew RT) (fun o_1 => ht_nm RN.z (fun vT_z_2 => ht_bn (fX5_readTown RJ RA (o_1.1, RT.kind, RT.need, RT.saved, RT.voice, RT.partner, RT.speaks, o_1.2.1, o_1.2.2.1, o_1.2.2.2.1, o_1.2.2.2.2, vT_z_2)) (fun o_3 => ht_nm o_3.1 (fun x1_4 => if x1_4 = 0 then (some (((-100 : Int32) - o_3.2.2.2.2.1), o_3.2.1, o_3.2.2.1, o_3.2.2.2.1, o_3.2.2.2.2.1, (0 : Int32), RN.laws, RN.kind, RN.need, RN.saved, RN.voice, RN.partner, RN.speaks, RN.count, RN.day, RN.heard, RN.geese, RN.z, o_3.2.2.2.2.2.1, o_3.2.2.2.2.2.2.1, o_3.2.2.2.2.2.2.2.1, o_3.2.2.2.2.2.2.2.2.1, o_3.2.2.2.2.2.2.2.2.2.1, o_3.2.2.2.2.2.2.2.2.2.2.1, o_3.2.2.2.2.2.2.2.2.2.2.2.1, o_3.2.2.2.2.2.2.2.2.2.2.2.2, o_1.2.2.1, o_1.2.2.2.1, o_1.2.2.2.2, vT_z_2, RR.count)) else (ht_bn (fX6_copyFrom RN (o_3.2.2.2.2.2.1, o_3.2.2.2.2.2.2.1, o_3.2.2.2.2.2.2.2.1, o_3.2.2.2.2.2.2.2.2.1, o_3.2.2.2.2.2.2.2.2.2.1, o_3.2.2.2.2.2.2.2.2.2.2.1, o_3.2.2.2.2.2.2.2.2.2.2.2.1, o_3.2.2.2.2.2.2.2.2.2.2.2.2, o_1.2.2.1, o_1.2.2.2.1, o_1.2.2.2.2, vT_z_2)) (fun o_6 => some (o_6.2.2.2.2.2.2.2.1, o_3.2.1, o_3.2.2.1, o_3.2.2.2.1, o_3.2.2.2.2.1, (0 : Int32), o_6.1, o_6.2.1, o_6.2.2.1, o_6.2.2.2.1, o_6.2.2.2.2.1, o_6.2.2.2.2.2.1, o_6.2.2.2.2.2.2.1, o_6.2.2.2.2.2.2.2.1, o_6.2.2.2.2.2.2.2.2.1, o_6.2.2.2.2.2.2.2.2.2.1, o_6.2.2.2.2.2.2.2.2.2.2.1, o_6.2.2.2.2.2.2.2.2.2.2.2, o_3.2.2.2.2.2.1, o_3.2.2.2.2.2.2.1, o_3.2.2.2.2.2.2.2.1, o_3.2.2.2.2.2.2.2.2.1, o_3.2.2.2.2.2.2.2.2.2.1, o_3.2.2.2.2.2.2.2.2.2.2.1, o_3.2.2.2.2.2.2.2.2.2.2.2.1, o_3.2.2.2.2.2.2.2.2.2.2.2.2, o_1.2.2.1, o_1.2.2.2.1, o_1.2.2.2.2, vT_z_2, (0 : Int32))))))))
set_option maxHeartbeats 1000000 in
set_option maxRecDepth 100000 in
theorem ctX8_town (l : Launch) (D : va_G) (K : Nat → ClassId) (jX : Nat) (jJ : Nat) (jA : Nat) (aA : Nat → Nat) (jN : Nat) (aN : Nat → Nat) (jT : Nat) (aT : Nat → Nat) (jR : Nat) (aR : Nat → Nat) (kX_kept : Nat) (kX_trials : Nat) (kX_pairings : Nat) (kX_deed : Nat) (kX_sheets : Nat) (kX_shelvedPerson : Nat) (kX_shelvedRow : Nat) (kR_now : Nat) (kR_tried : Nat) (aK : Nat → Nat) (aV : Nat → Nat) (RX : HTV) (RJ : TellV) (RA : TapeV) (RN : TownV) (RT : TownV) (RR : DayV) (o : (Int32 × Int32 × Int32 × Int32 × Int32 × Int32 × AI × AI × AI × AI × AI × AI × AI × Int32 × Int32 × Int32 × Int32 × Int32 × AI × AI × AI × AI × AI × AI × AI × Int32 × Int32 × Int32 × Int32 × Int32 × Int32)) (hf : fX8_town RX RJ RA RN RT RR = some o) (sz : Nat) : Met l yX8_town wsX8_town rmX8_town (ht_PreS D K aK aV [.ref jX] (wHT K jX jN kX_kept jT kX_trials kX_pairings jA jJ jR kX_deed kX_sheets kX_shelvedPerson kX_shelvedRow RX.anythingKept ++ (wTe K jJ jA jT RJ.place RJ.sort RJ.value RJ.start ++ (wTa K jA aA RA.bytes RA.length ++ (wTw K jN aN RN.laws RN.kind RN.need RN.saved RN.voice RN.partner RN.speaks RN.count RN.day RN.heard RN.geese RN.z ++ (wTw K jT aT RT.laws RT.kind RT.need RT.saved RT.voice RT.partner RT.speaks RT.count RT.day RT.heard RT.geese RT.z ++ (wDr K jR aR kR_now kR_tried RR.numbers RR.count)))))) sz) (ht_Qi D K (wHT K jX jN kX_kept jT kX_trials kX_pairings jA jJ jR kX_deed kX_sheets kX_shelvedPerson kX_shelvedRow RX.anythingKept ++ (wTe K jJ jA jT o.2.1 o.2.2.1 o.2.2.2.1 o.2.2.2.2.1 ++ (wTa K jA aA RA.bytes o.2.2.2.2.2.1 ++ (wTw K jN aN o.2.2.2.2.2.2.1 o.2.2.2.2.2.2.2.1 o.2.2.2.2.2.2.2.2.1 o.2.2.2.2.2.2.2.2.2.1 o.2.2.2.2.2.2.2.2.2.2.1 o.2.2.2.2.2.2.2.2.2.2.2.1 o.2.2.2.2.2.2.2.2.2.2.2.2.1 o.2.2.2.2.2.2.2.2.2.2.2.2.2.1 o.2.2.2.2.2.2.2.2.2.2.2.2.2.2.1 o.2.2.2.2.2.2.2.2.2.2.2.2.2.2.2.1 o.2.2.2.2.2.2.2.2.2.2.2.2.2.2.2.2.1 o.2.2.2.2.2.2.2.2.2.2.2.2.2.2.2.2.2.1 ++ (wTw K jT aT o.2.2.2.2.2.2.2.2.2.2.2.2.2.2.2.2.2.2.1 o.2.2.2.2.2.2.2.2.2.2.2.2.2.2.2.2.2.2.2.1 o.2.2.2.2.2.2.2.2.2.2.2.2.2.2.2.2.2.2.2.2.1 o.2.2.2.2.2.2.2.2.2.2.2.2.2.2.2.2.2.2.2.2.2.1 o.2.2.2.2.2.2.2.2.2.2.2.2.2.2.2.2.2.2.2.2.2.2.1 o.2.2.2.2.2.2.2.2.2.2.2.2.2.2.2.2.2.2.2.2.2.2.2.1 o.2.2.2.2.2.2.2.2.2.2.2.2.2.2.2.2.2.2.2.2.2.2.2.2.1 o.2.2.2.2.2.2.2.2.2.2.2.2.2.2.2.2.2.2.2.2.2.2.2.2.2.1 o.2.2.2.2.2.2.2.2.2.2.2.2.2.2.2.2.2.2.2.2.2.2.2.2.2.2.1 o.2.2.2.2.2.2.2.2.2.2.2.2.2.2.2.2.2.2.2.2.2.2.2.2.2.2.2.1 o.2.2.2.2.2.2.2.2.2.2.2.2.2.2.2.2.2.2.2.2.2.2.2.2.2.2.2.2.1 o.2.2.2.2.2.2.2.2.2.2.2.2.2.2.2.2.2.2.2.2.2.2.2.2.2.2.2.2.2.1 ++ (wDr K jR aR kR_now kR_tried RR.numbers o.2.2.2.2.2.2.2.2.2.2.2.2.2.2.2.2.2.2.2.2.2.2.2.2.2.2.2.2.2.2)))))) o.1 (va_A (wHT K jX jN kX_kept jT kX_trials kX_pairings jA jJ jR kX_deed kX_sheets kX_shelvedPerson kX_shelvedRow RX.anythingKept ++ (wTe K jJ jA jT RJ.place RJ.sort RJ.value RJ.start ++ (wTa K jA aA RA.bytes RA.length ++ (wTw K jN aN RN.laws RN.kind RN.need RN.saved RN.voice RN.partner RN.speaks RN.count RN.day RN.heard RN.geese RN.z ++ (wTw K jT aT RT.laws RT.kind RT.need RT.saved RT.voice RT.partner RT.speaks RT.count RT.day RT.heard RT.geese RT.z ++ (wDr K jR aR kR_now kR_tried RR.numbers RR.count)))))) sz)) 0 0 (va_A (wHT K jX jN kX_kept jT kX_trials kX_pairings jA jJ jR kX_deed kX_sheets kX_shelvedPerson kX_shelvedRow RX.anythingKept ++ (wTe K jJ jA jT RJ.place RJ.sort RJ.value RJ.start ++ (wTa K jA aA RA.bytes RA.length ++ (wTw K jN aN RN.laws RN.kind RN.need RN.saved RN.voice RN.partner RN.speaks RN.count RN.day RN.heard RN.geese RN.z ++ (wTw K jT aT RT.laws RT.kind RT.need RT.saved RT.voice RT.partner RT.speaks RT.count RT.day RT.heard RT.geese RT.z ++ (wDr K jR aR kR_now kR_tried RR.numbers RR.count)))))) sz) := by
  refine ht_enterS (Qf := ht_Qi D K (wHT K jX jN kX_kept jT kX_trials kX_pairings jA jJ jR kX_deed kX_sheets kX_shelvedPerson kX_shelvedRow RX.anythingKept ++ (wTe K jJ jA jT o.2.1 o.2.2.1 o.2.2.2.1 o.2.2.2.2.1 ++ (wTa K jA aA RA.bytes o.2.2.2.2.2.1 ++ (wTw K jN aN o.2.2.2.2.2.2.1 o.2.2.2.2.2.2.2.1 o.2.2.2.2.2.2.2.2.1 o.2.2.2.2.2.2.2.2.2.1 o.2.2.2.2.2.2.2.2.2.2.1 o.2.2.2.2.2.2.2.2.2.2.2.1 o.2.2.2.2.2.2.2.2.2.2.2.2.1 o.2.2.2.2.2.2.2.2.2.2.2.2.2.1 o.2.2.2.2.2.2.2.2.2.2.2.2.2.2.1 o.2.2.2.2.2.2.2.2.2.2.2.2.2.2.2.1 o.2.2.2.2.2.2.2.2.2.2.2.2.2.2.2.2.1 o.2.2.2.2.2.2.2.2.2.2.2.2.2.2.2.2.2.1 ++ (wTw K jT aT o.2.2.2.2.2.2.2.2.2.2.2.2.2.2.2.2.2.2.1 o.2.2.2.2.2.2.2.2.2.2.2.2.2.2.2.2.2.2.2.1 o.2.2.2.2.2.2.2.2.2.2.2.2.2.2.2.2.2.2.2.2.1 o.2.2.2.2.2.2.2.2.2.2.2.2.2.2.2.2.2.2.2.2.2.1 o.2.2.2.2.2.2.2.2.2.2.2.2.2.2.2.2.2.2.2.2.2.2.1 o.2.2.2.2.2.2.2.2.2.2.2.2.2.2.2.2.2.2.2.2.2.2.2.1 o.2.2.2.2.2.2.2.2.2.2.2.2.2.2.2.2.2.2.2.2.2.2.2.2.1 o.2.2.2.2.2.2.2.2.2.2.2.2.2.2.2.2.2.2.2.2.2.2.2.2.2.1 o.2.2.2.2.2.2.2.2.2.2.2.2.2.2.2.2.2.2.2.2.2.2.2.2.2.2.1 o.2.2.2.2.2.2.2.2.2.2.2.2.2.2.2.2.2.2.2.2.2.2.2.2.2.2.2.1 o.2.2.2.2.2.2.2.2.2.2.2.2.2.2.2.2.2.2.2.2.2.2.2.2.2.2.2.2.1 o.2.2.2.2.2.2.2.2.2.2.2.2.2.2.2.2.2.2.2.2.2.2.2.2.2.2.2.2.2.1 ++ (wDr K jR aR kR_now kR_tried RR.numbers o.2.2.2.2.2.2.2.2.2.2.2.2.2.2.2.2.2.2.2.2.2.2.2.2.2.2.2.2.2.2)))))) o.1) (cc := cX8_town) (maxL := 2) (rt := (some .int)) (by decide) rfl (Nat.le_of_ble_eq_true rfl) ?_ sz
  intro p e s m below meth c A Q H locs ls hQ hx hb hr hlk hmn hml hown hts hA hK hE hP hD hS hl
  have hown : s.vm.findClass RX8 = some m.cls := hown
  have hF : CallFix p m c cX8_town 2 s ([.ref jX] : List Value).toArray wsX8_town RX8 := ⟨hx, hb, hml, hown, hts⟩
  have hl : lv_has ls 2 [(0, .ref jX)] := hl
  have iw8 : ∀ w ∈ u_ws RX8 TX8 13, w ∈ wsX8_town := by decide +kernel
  have kw1 := hts (.fieldLink RX8 19 "HeldTongues" "tried" "LHeldTongues$Town;") (by decide +kernel)
  have kw2 := hts (.fieldLink RX8 10 "HeldTongues" "now" "LHeldTongues$Town;") (by decide +kernel)
  have iw6 : ∀ w ∈ u_ws RX6 TX6 12, w ∈ wsX8_town := by decide +kernel
  have kw4 := hts (.fieldLink RX8 98 "HeldTongues$Town" "z" "I") (by decide +kernel)
  have kw5 := hts (.fieldLink RX8 52 "HeldTongues" "telling" "LHeldTongues$Telling;") (by decide +kernel)
  have kw6 := hts (.fieldLink RX8 43 "HeldTongues" "tape" "LHeldTongues$Tape;") (by decide +kernel)
  have iw4 : ∀ w ∈ u_ws RX4 TX4 2, w ∈ wsX8_town := by decide +kernel
  have kw8 := hts (.fieldLink RX8 87 "HeldTongues$Tape" "length" "I") (by decide +kernel)
  have kw9 := hts (.fieldLink RX8 59 "HeldTongues" "dayRows" "LHeldTongues$DayRows;") (by decide +kernel)
  have iw0 : ∀ w ∈ u_ws RX0 TX0 4, w ∈ wsX8_town := by decide +kernel
  have kw11 := hts (.fieldLink RX8 111 "HeldTongues$DayRows" "count" "I") (by decide +kernel)
  have kw12 := hts (.fieldLink RX8 114 "HeldTongues$Town" "count" "I") (by decide +kernel)
  have iw5 : ∀ w ∈ u_ws RX5 TX5 6, w ∈ wsX8_town := by decide +kernel
  have kw14 := hts (.fieldLink RX8 105 "HeldTongues$Telling" "start" "I") (by decide +kernel)
  delta fX8_town at hf
  refine lv_aload_n hx hb dX8_town_0 rfl (lv_at hl 0 rfl) ?_
  refine va_get (D := D) (ci := 8) (v := .ref jT) (C := RX8) (T := TX8) (N := 13) hx hb hts iw8 hown hK hP 0 rfl rfl 2 (by decide) kw1 (fun _ h9 => h9) rfl dX8_town_1 ?_
  obtain ⟨o_1, ho_1, hf⟩ := ht_bn_ob hf
  refine ht_callVv (rest := []) (As := []) (wc := (wTw K jT aT RT.laws RT.kind RT.need RT.saved RT.voice RT.partner RT.speaks RT.count RT.day RT.heard RT.geese RT.z)) (wr := (wHT K jX jN kX_kept jT kX_trials kX_pairings jA jJ jR kX_deed kX_sheets kX_shelvedPerson kX_shelvedRow RX.anythingKept ++ (wTe K jJ jA jT RJ.place RJ.sort RJ.value RJ.start ++ (wTa K jA aA RA.bytes RA.length ++ (wTw K jN aN RN.laws RN.kind RN.need RN.saved RN.voice RN.partner RN.speaks RN.count RN.day RN.heard RN.geese RN.z ++ (wDr K jR aR kR_now kR_tried RR.numbers RR.count)))))) (w1 := (wTw K jT aT o_1.1 RT.kind RT.need RT.saved RT.voice RT.partner RT.speaks o_1.2.1 o_1.2.2.1 o_1.2.2.2.1 o_1.2.2.2.2 RT.z)) (w2 := (wHT K jX jN kX_kept jT kX_trials kX_pairings jA jJ jR kX_deed kX_sheets kX_shelvedPerson kX_shelvedRow RX.anythingKept ++ (wTe K jJ jA jT RJ.place RJ.sort RJ.value RJ.start ++ (wTa K jA aA RA.bytes RA.length ++ (wTw K jN aN RN.laws RN.kind RN.need RN.saved RN.voice RN.partner RN.speaks RN.count RN.day RN.heard RN.geese RN.z ++ (wTw K jT aT o_1.1 RT.kind RT.need RT.saved RT.voice RT.partner RT.speaks o_1.2.1 o_1.2.2.1 o_1.2.2.2.1 o_1.2.2.2.2 RT.z ++ (wDr K jR aR kR_now kR_tried RR.numbers RR.count))))))) hF (ctX6_beginAnew l D K jT aT RT o_1 ho_1 H.size) (cwV 0 hts gX8_town_X6_beginAnew rfl rfl rfl hdX6_beginAnew ⟨Nat.le_of_ble_eq_true rfl, Nat.le_of_ble_eq_true rfl⟩) hK hP hD hS hA [12, 13, 14, 15, 16, 17, 18, 19] [0, 1, 2, 3, 4, 5, 6, 7, 8, 9, 10, 11, 20, 21] rfl rfl (by decide) (by decide) (by decide) [0, 1, 2, 3, 4, 5, 6, 7, 8, 9, 10, 11, 14, 15, 16, 17, 18, 19, 20, 21, 12, 13] rfl (by decide) (va_recv hK hP (ci := 6) (q0 := 12) rfl rfl) rfl hl.1 rfl (Nat.le_of_ble_eq_true rfl) dX8_town_4 ⟨Nat.zero_le _, Nat.zero_le _⟩ (fun H locs hP hD hS => ?_)
  refine lv_aload_n hx hb dX8_town_7 rfl (lv_at hl 0 rfl) ?_
  refine va_get (D := D) (ci := 8) (v := .ref jT) (C := RX8) (T := TX8) (N := 13) hx hb hts iw8 hown hK hP 0 rfl rfl 2 (by decide) kw1 (fun _ h9 => h9) rfl dX8_town_8 ?_
  refine lv_aload_n hx hb dX8_town_11 rfl (lv_at hl 0 rfl) ?_
  refine va_get (D := D) (ci := 8) (v := .ref jN) (C := RX8) (T := TX8) (N := 13) hx hb hts iw8 hown hK hP 0 rfl rfl 0 (by decide) kw2 (fun _ h9 => h9) rfl dX8_town_12 ?_
  refine va_get (D := D) (ci := 6) (v := .int RN.z) (C := RX6) (T := TX6) (N := 12) hx hb hts iw6 hown hK hP 4 rfl rfl 11 (by decide) kw4 (fun _ h9 => h9) rfl dX8_town_15 ?_
  obtain ⟨vT_z_2, evT_z_2, hf⟩ := ht_nm_ob hf
  rw [← evT_z_2]
  refine ht_put (ci := 6) (v := .int vT_z_2) (ty := .int) (C := RX6) (T := TX6) (N := 12) (w2 := (wHT K jX jN kX_kept jT kX_trials kX_pairings jA jJ jR kX_deed kX_sheets kX_shelvedPerson kX_shelvedRow RX.anythingKept ++ (wTe K jJ jA jT RJ.place RJ.sort RJ.value RJ.start ++ (wTa K jA aA RA.bytes RA.length ++ (wTw K jN aN RN.laws RN.kind RN.need RN.saved RN.voice RN.partner RN.speaks RN.count RN.day RN.heard RN.geese RN.z ++ (wTw K jT aT o_1.1 RT.kind RT.need RT.saved RT.voice RT.partner RT.speaks o_1.2.1 o_1.2.2.1 o_1.2.2.2.1 o_1.2.2.2.2 vT_z_2 ++ (wDr K jR aR kR_now kR_tried RR.numbers RR.count))))))) hx hb hts iw6 tyX6 tyX6_ok nmX6 hown hK hP hD hS 12 rfl rfl 11 (by decide) kw4 (fun _ h9 => h9) rfl (by decide +kernel) rfl rfl (Nat.le_of_ble_eq_true rfl) dX8_town_18 rfl (fun H locs hP hD hS => ?_)
  refine lv_aload_n hx hb dX8_town_21 rfl (lv_at hl 0 rfl) ?_
  refine va_get (D := D) (ci := 8) (v := .ref jJ) (C := RX8) (T := TX8) (N := 13) hx hb hts iw8 hown hK hP 0 rfl rfl 6 (by decide) kw5 (fun _ h9 => h9) rfl dX8_town_22 ?_
  obtain ⟨o_3, ho_3, hf⟩ := ht_bn_ob hf
  refine ht_gVi (r := o_3.1) (rest := []) (As := []) (wc := (wTe K jJ jA jT RJ.place RJ.sort RJ.value RJ.start ++ (wTa K jA aA RA.bytes RA.length ++ (wTw K jT aT o_1.1 RT.kind RT.need RT.saved RT.voice RT.partner RT.speaks o_1.2.1 o_1.2.2.1 o_1.2.2.2.1 o_1.2.2.2.2 vT_z_2)))) (wr := (wHT K jX jN kX_kept jT kX_trials kX_pairings jA jJ jR kX_deed kX_sheets kX_shelvedPerson kX_shelvedRow RX.anythingKept ++ (wTw K jN aN RN.laws RN.kind RN.need RN.saved RN.voice RN.partner RN.speaks RN.count RN.day RN.heard RN.geese RN.z ++ (wDr K jR aR kR_now kR_tried RR.numbers RR.count)))) (w1 := (wTe K jJ jA jT o_3.2.1 o_3.2.2.1 o_3.2.2.2.1 o_3.2.2.2.2.1 ++ (wTa K jA aA RA.bytes RA.length ++ (wTw K jT aT o_3.2.2.2.2.2.1 o_3.2.2.2.2.2.2.1 o_3.2.2.2.2.2.2.2.1 o_3.2.2.2.2.2.2.2.2.1 o_3.2.2.2.2.2.2.2.2.2.1 o_3.2.2.2.2.2.2.2.2.2.2.1 o_3.2.2.2.2.2.2.2.2.2.2.2.1 o_3.2.2.2.2.2.2.2.2.2.2.2.2 o_1.2.2.1 o_1.2.2.2.1 o_1.2.2.2.2 vT_z_2)))) (w2 := (wHT K jX jN kX_kept jT kX_trials kX_pairings jA jJ jR kX_deed kX_sheets kX_shelvedPerson kX_shelvedRow RX.anythingKept ++ (wTe K jJ jA jT o_3.2.1 o_3.2.2.1 o_3.2.2.2.1 o_3.2.2.2.2.1 ++ (wTa K jA aA RA.bytes RA.length ++ (wTw K jN aN RN.laws RN.kind RN.need RN.saved RN.voice RN.partner RN.speaks RN.count RN.day RN.heard RN.geese RN.z ++ (wTw K jT aT o_3.2.2.2.2.2.1 o_3.2.2.2.2.2.2.1 o_3.2.2.2.2.2.2.2.1 o_3.2.2.2.2.2.2.2.2.1 o_3.2.2.2.2.2.2.2.2.2.1 o_3.2.2.2.2.2.2.2.2.2.2.1 o_3.2.2.2.2.2.2.2.2.2.2.2.1 o_3.2.2.2.2.2.2.2.2.2.2.2.2 o_1.2.2.1 o_1.2.2.2.1 o_1.2.2.2.2 vT_z_2 ++ (wDr K jR aR kR_now kR_tried RR.numbers RR.count))))))) hF (ctX5_readTown l D K jJ jA aA jT aT aK aV RJ RA (o_1.1, RT.kind, RT.need, RT.saved, RT.voice, RT.partner, RT.speaks, o_1.2.1, o_1.2.2.1, o_1.2.2.2.1, o_1.2.2.2.2, vT_z_2) o_3 ho_3 H.size) (cwV 0 hts gX8_town_X5_readTown rfl rfl rfl hdX5_readTown ⟨Nat.le_of_ble_eq_true rfl, Nat.le_of_ble_eq_true rfl⟩) hP hD hS hA [1, 2, 3, 12, 13, 14, 15, 16, 17, 18, 19] [0, 4, 5, 6, 7, 8, 9, 10, 11, 20, 21] rfl rfl (by decide) (by decide) (by decide) [0, 11, 12, 13, 1, 2, 3, 4, 5, 6, 7, 8, 14, 15, 16, 17, 18, 19, 20, 21, 9, 10] rfl (by decide) (fun hf hP2 hD2 => ht_pvS hK hE hS hf (va_recv hK hP (ci := 5) (q0 := 1) rfl rfl) hP2 hD2) rfl hl.1 rfl (Nat.le_of_ble_eq_true rfl) dX8_town_25 ⟨Nat.zero_le _, Nat.zero_le _⟩ (fun H locs hP hD hS => ?_)
  obtain ⟨x1_4, ex1_4, hf⟩ := ht_nm_ob hf
  rw [← ex1_4]
  refine lv_istore_n (lv' := [(1, .int x1_4), (0, .ref jX)]) hx hb dX8_town_28 rfl hl (by decide) rfl (fun ls hl => ?_)
  refine lv_aload_n hx hb dX8_town_29 rfl (lv_at hl 1 rfl) ?_
  refine va_get (D := D) (ci := 8) (v := .ref jA) (C := RX8) (T := TX8) (N := 13) hx hb hts iw8 hown hK hP 0 rfl rfl 5 (by decide) kw6 (fun _ h9 => h9) rfl dX8_town_30 ?_
  refine lv_iconst (v := 0) hx hb dX8_town_33 (by decide) ?_
  refine ht_put (ci := 4) (v := .int (0 : Int32)) (ty := .int) (C := RX4) (T := TX4) (N := 2) (w2 := (wHT K jX jN kX_kept jT kX_trials kX_pairings jA jJ jR kX_deed kX_sheets kX_shelvedPerson kX_shelvedRow RX.anythingKept ++ (wTe K jJ jA jT o_3.2.1 o_3.2.2.1 o_3.2.2.2.1 o_3.2.2.2.2.1 ++ (wTa K jA aA RA.bytes (0 : Int32) ++ (wTw K jN aN RN.laws RN.kind RN.need RN.saved RN.voice RN.partner RN.speaks RN.count RN.day RN.heard RN.geese RN.z ++ (wTw K jT aT o_3.2.2.2.2.2.1 o_3.2.2.2.2.2.2.1 o_3.2.2.2.2.2.2.2.1 o_3.2.2.2.2.2.2.2.2.1 o_3.2.2.2.2.2.2.2.2.2.1 o_3.2.2.2.2.2.2.2.2.2.2.1 o_3.2.2.2.2.2.2.2.2.2.2.2.1 o_3.2.2.2.2.2.2.2.2.2.2.2.2 o_1.2.2.1 o_1.2.2.2.1 o_1.2.2.2.2 vT_z_2 ++ (wDr K jR aR kR_now kR_tried RR.numbers RR.count))))))) hx hb hts iw4 tyX4 tyX4_ok nmX4 hown hK hP hD hS 2 rfl rfl 1 (by decide) kw8 (fun _ h9 => h9) rfl (by decide +kernel) rfl rfl (Nat.le_of_ble_eq_true rfl) dX8_town_34 rfl (fun H locs hP hD hS => ?_)
  refine lv_iload_n hx hb dX8_town_37 rfl (lv_at hl 0 rfl) ?_
  refine lv_if_ne (tgt := 52) hx hb dX8_town_38 (by decide) (fun c_5 => ?_) (fun c_5 => ?_)
  · replace hf := ht_f c_5 hf
    refine lv_aload_n hx hb dX8_town_52 rfl (lv_at hl 1 rfl) ?_
    refine va_get (D := D) (ci := 8) (v := .ref jN) (C := RX8) (T := TX8) (N := 13) hx hb hts iw8 hown hK hP 0 rfl rfl 0 (by decide) kw2 (fun _ h9 => h9) rfl dX8_town_53 ?_
    refine lv_aload_n hx hb dX8_town_56 rfl (lv_at hl 1 rfl) ?_
    refine va_get (D := D) (ci := 8) (v := .ref jT) (C := RX8) (T := TX8) (N := 13) hx hb hts iw8 hown hK hP 0 rfl rfl 2 (by decide) kw1 (fun _ h9 => h9) rfl dX8_town_57 ?_
    obtain ⟨o_6, ho_6, hf⟩ := ht_bn_ob hf
    refine ht_callVv (rest := []) (As := [.ref jT]) (wc := (wTw K jN aN RN.laws RN.kind RN.need RN.saved RN.voice RN.partner RN.speaks RN.count RN.day RN.heard RN.geese RN.z ++ (wTw K jT aT o_3.2.2.2.2.2.1 o_3.2.2.2.2.2.2.1 o_3.2.2.2.2.2.2.2.1 o_3.2.2.2.2.2.2.2.2.1 o_3.2.2.2.2.2.2.2.2.2.1 o_3.2.2.2.2.2.2.2.2.2.2.1 o_3.2.2.2.2.2.2.2.2.2.2.2.1 o_3.2.2.2.2.2.2.2.2.2.2.2.2 o_1.2.2.1 o_1.2.2.2.1 o_1.2.2.2.2 vT_z_2))) (wr := (wHT K jX jN kX_kept jT kX_trials kX_pairings jA jJ jR kX_deed kX_sheets kX_shelvedPerson kX_shelvedRow RX.anythingKept ++ (wTe K jJ jA jT o_3.2.1 o_3.2.2.1 o_3.2.2.2.1 o_3.2.2.2.2.1 ++ (wTa K jA aA RA.bytes (0 : Int32) ++ (wDr K jR aR kR_now kR_tried RR.numbers RR.count))))) (w1 := (wTw K jN aN o_6.1 o_6.2.1 o_6.2.2.1 o_6.2.2.2.1 o_6.2.2.2.2.1 o_6.2.2.2.2.2.1 o_6.2.2.2.2.2.2.1 o_6.2.2.2.2.2.2.2.1 o_6.2.2.2.2.2.2.2.2.1 o_6.2.2.2.2.2.2.2.2.2.1 o_6.2.2.2.2.2.2.2.2.2.2.1 o_6.2.2.2.2.2.2.2.2.2.2.2 ++ (wTw K jT aT o_3.2.2.2.2.2.1 o_3.2.2.2.2.2.2.1 o_3.2.2.2.2.2.2.2.1 o_3.2.2.2.2.2.2.2.2.1 o_3.2.2.2.2.2.2.2.2.2.1 o_3.2.2.2.2.2.2.2.2.2.2.1 o_3.2.2.2.2.2.2.2.2.2.2.2.1 o_3.2.2.2.2.2.2.2.2.2.2.2.2 o_1.2.2.1 o_1.2.2.2.1 o_1.2.2.2.2 vT_z_2))) (w2 := (wHT K jX jN kX_kept jT kX_trials kX_pairings jA jJ jR kX_deed kX_sheets kX_shelvedPerson kX_shelvedRow RX.anythingKept ++ (wTe K jJ jA jT o_3.2.1 o_3.2.2.1 o_3.2.2.2.1 o_3.2.2.2.2.1 ++ (wTa K jA aA RA.bytes (0 : Int32) ++ (wTw K jN aN o_6.1 o_6.2.1 o_6.2.2.1 o_6.2.2.2.1 o_6.2.2.2.2.1 o_6.2.2.2.2.2.1 o_6.2.2.2.2.2.2.1 o_6.2.2.2.2.2.2.2.1 o_6.2.2.2.2.2.2.2.2.1 o_6.2.2.2.2.2.2.2.2.2.1 o_6.2.2.2.2.2.2.2.2.2.2.1 o_6.2.2.2.2.2.2.2.2.2.2.2 ++ (wTw K jT aT o_3.2.2.2.2.2.1 o_3.2.2.2.2.2.2.1 o_3.2.2.2.2.2.2.2.1 o_3.2.2.2.2.2.2.2.2.1 o_3.2.2.2.2.2.2.2.2.2.1 o_3.2.2.2.2.2.2.2.2.2.2.1 o_3.2.2.2.2.2.2.2.2.2.2.2.1 o_3.2.2.2.2.2.2.2.2.2.2.2.2 o_1.2.2.1 o_1.2.2.2.1 o_1.2.2.2.2 vT_z_2 ++ (wDr K jR aR kR_now kR_tried RR.numbers RR.count))))))) hF (ctX6_copyFrom l D K jN aN jT aT RN (o_3.2.2.2.2.2.1, o_3.2.2.2.2.2.2.1, o_3.2.2.2.2.2.2.2.1, o_3.2.2.2.2.2.2.2.2.1, o_3.2.2.2.2.2.2.2.2.2.1, o_3.2.2.2.2.2.2.2.2.2.2.1, o_3.2.2.2.2.2.2.2.2.2.2.2.1, o_3.2.2.2.2.2.2.2.2.2.2.2.2, o_1.2.2.1, o_1.2.2.2.1, o_1.2.2.2.2, vT_z_2) o_6 ho_6 H.size) (cwV 1 hts gX8_town_X6_copyFrom rfl rfl rfl hdX6_copyFrom ⟨Nat.le_of_ble_eq_true rfl, Nat.le_of_ble_eq_true rfl⟩) hK hP hD hS hA [4, 5, 6, 7, 8, 9, 10, 11, 12, 13, 14, 15, 16, 17, 18, 19] [0, 1, 2, 3, 20, 21] rfl rfl (by decide) (by decide) (by decide) [0, 1, 2, 3, 6, 7, 8, 9, 10, 11, 12, 13, 14, 15, 16, 17, 18, 19, 20, 21, 4, 5] rfl (by decide) (va_recv hK hP (ci := 6) (q0 := 4) rfl rfl) rfl hl.1 rfl (Nat.le_of_ble_eq_true rfl) dX8_town_60 ⟨Nat.zero_le _, Nat.zero_le _⟩ (fun H locs hP hD hS => ?_)
    refine lv_aload_n hx hb dX8_town_63 rfl (lv_at hl 1 rfl) ?_
    refine va_get (D := D) (ci := 8) (v := .ref jR) (C := RX8) (T := TX8) (N := 13) hx hb hts iw8 hown hK hP 0 rfl rfl 7 (by decide) kw9 (fun _ h9 => h9) rfl dX8_town_64 ?_
    refine lv_iconst (v := 0) hx hb dX8_town_67 (by decide) ?_
    refine ht_put (ci := 0) (v := .int (0 : Int32)) (ty := .int) (C := RX0) (T := TX0) (N := 4) (w2 := (wHT K jX jN kX_kept jT kX_trials kX_pairings jA jJ jR kX_deed kX_sheets kX_shelvedPerson kX_shelvedRow RX.anythingKept ++ (wTe K jJ jA jT o_3.2.1 o_3.2.2.1 o_3.2.2.2.1 o_3.2.2.2.2.1 ++ (wTa K jA aA RA.bytes (0 : Int32) ++ (wTw K jN aN o_6.1 o_6.2.1 o_6.2.2.1 o_6.2.2.2.1 o_6.2.2.2.2.1 o_6.2.2.2.2.2.1 o_6.2.2.2.2.2.2.1 o_6.2.2.2.2.2.2.2.1 o_6.2.2.2.2.2.2.2.2.1 o_6.2.2.2.2.2.2.2.2.2.1 o_6.2.2.2.2.2.2.2.2.2.2.1 o_6.2.2.2.2.2.2.2.2.2.2.2 ++ (wTw K jT aT o_3.2.2.2.2.2.1 o_3.2.2.2.2.2.2.1 o_3.2.2.2.2.2.2.2.1 o_3.2.2.2.2.2.2.2.2.1 o_3.2.2.2.2.2.2.2.2.2.1 o_3.2.2.2.2.2.2.2.2.2.2.1 o_3.2.2.2.2.2.2.2.2.2.2.2.1 o_3.2.2.2.2.2.2.2.2.2.2.2.2 o_1.2.2.1 o_1.2.2.2.1 o_1.2.2.2.2 vT_z_2 ++ (wDr K jR aR kR_now kR_tried RR.numbers (0 : Int32)))))))) hx hb hts iw0 tyX0 tyX0_ok nmX0 hown hK hP hD hS 20 rfl rfl 3 (by decide) kw11 (fun _ h9 => h9) rfl (by decide +kernel) rfl rfl (Nat.le_of_ble_eq_true rfl) dX8_town_68 rfl (fun H locs hP hD hS => ?_)
    refine lv_aload_n hx hb dX8_town_71 rfl (lv_at hl 1 rfl) ?_
    refine va_get (D := D) (ci := 8) (v := .ref jN) (C := RX8) (T := TX8) (N := 13) hx hb hts iw8 hown hK hP 0 rfl rfl 0 (by decide) kw2 (fun _ h9 => h9) rfl dX8_town_72 ?_
    refine va_get (D := D) (ci := 6) (v := .int o_6.2.2.2.2.2.2.2.1) (C := RX6) (T := TX6) (N := 12) hx hb hts iw6 hown hK hP 4 rfl rfl 7 (by decide) kw12 (fun _ h9 => h9) rfl dX8_town_75 ?_
    have ho := Option.some.inj hf
    subst ho; subst hQ
    exact ht_iret hx hb hr hlk rfl hK hP hD hS dX8_town_78
  · replace hf := ht_t c_5 hf
    refine lv_bipush (v := -100) hx hb dX8_town_41 (by decide) ?_
    refine lv_aload_n hx hb dX8_town_43 rfl (lv_at hl 1 rfl) ?_
    refine va_get (D := D) (ci := 8) (v := .ref jJ) (C := RX8) (T := TX8) (N := 13) hx hb hts iw8 hown hK hP 0 rfl rfl 6 (by decide) kw5 (fun _ h9 => h9) rfl dX8_town_44 ?_
    refine va_get (D := D) (ci := 5) (v := .int o_3.2.2.2.2.1) (C := RX5) (T := TX5) (N := 6) hx hb hts iw5 hown hK hP 1 rfl rfl 5 (by decide) kw14 (fun _ h9 => h9) rfl dX8_town_47 ?_
    refine lv_isub hx hb dX8_town_50 ?_
    have ho := Option.some.inj hf
    subst ho; subst hQ
    exact ht_iret hx hb hr hlk rfl hK hP hD hS dX8_town_51
