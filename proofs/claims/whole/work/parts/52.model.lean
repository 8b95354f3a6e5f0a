abbrev rmX9_isIn : Room := { frames := 0, cells := 0, slots := 0, locals := 0 }
theorem hdX9_isIn : yX9_isIn.cls ≠ "java/lang/invoke/MethodHandle" ∧ yX9_isIn.cls ≠ "java/lang/invoke/VarHandle" ∧ (parseMethodDescriptor yX9_isIn.desc).map (fun d => d.parameters.length) = some 3 := by decide +kernel
def fX9_isIn (p0 : Int64) (p1 : Int64) (p2 : Int64) : Option Int32 := if (lg_cmp p0 p1) < 0 then (some (0 : Int32)) else (if 0 < (lg_cmp p0 p2) then (some (0 : Int32)) else (some (1 : Int32)))
set_option maxHeartbeats 1000000 in
set_option maxRecDepth 100000 in
theorem ctX9_isIn (l : Launch) (D : va_G) (K : Nat → ClassId)  (p0 : Int64) (p1 : Int64) (p2 : Int64) (o : Int32) (hf : fX9_isIn p0 p1 p2 = some o) (sz : Nat) : Met l yX9_isIn wsX9_isIn rmX9_isIn (ht_Pre D K [.long p0, .long p1, .long p2] [] sz) (ht_Qi D K [] o (va_A [] sz)) 0 0 (va_A [] sz) := by
  refine ht_enter (Qf := ht_Qi D K [] o) (cc := cX9_isIn) (maxL := 6) (rt := (some .boolean)) (by decide) rfl (Nat.le_of_ble_eq_true rfl) ?_ sz
  intro p e s m below meth c A Q H locs ls hQ hx hb hr hlk hmn hml hown hts hA hK hP hD hS hl
  have hown : s.vm.findClass RX9 = some m.cls := hown
  have hF : CallFix p m c cX9_isIn 6 s ([.long p0, .long p1, .long p2] : List Value).toArray wsX9_isIn RX9 := ⟨hx, hb, hml, hown, hts⟩
  have hl : lv_has ls 6 [(0, .long p0), (2, .long p1), (4, .long p2)] := hl
  delta fX9_isIn at hf
  refine lv_lload_n hx hb dX9_isIn_0 rfl (lv_at hl 0 rfl) ?_
  refine lv_lload_n hx hb dX9_isIn_1 rfl (lv_at hl 1 rfl) ?_
  refine W.lcmp hx hb dX9_isIn_2 ?_
  refine lv_if_lt (tgt := 17) hx hb dX9_isIn_3 (by decide) (fun c_1 => ?_) (fun c_1 => ?_)
  · replace hf := ht_t c_1 hf
    refine lv_iconst (v := 0) hx hb dX9_isIn_17 (by decide) ?_
    have ho := Option.some.inj hf
    subst ho; subst hQ
    exact ht_iret hx hb hr hlk (show narrow .boolean (.int (0 : Int32)) = .int (0 : Int32) from rfl) hK hP hD hS dX9_isIn_18
  · replace hf := ht_f c_1 hf
    refine lv_lload_n hx hb dX9_isIn_6 rfl (lv_at hl 0 rfl) ?_
    refine lv_lload hx hb dX9_isIn_7 (lv_at hl 2 rfl) ?_
    refine W.lcmp hx hb dX9_isIn_9 ?_
    refine lv_if_gt (tgt := 17) hx hb dX9_isIn_10 (by decide) (fun c_2 => ?_) (fun c_2 => ?_)
    · replace hf := ht_t c_2 hf
      refine lv_iconst (v := 0) hx hb dX9_isIn_17 (by decide) ?_
      have ho := Option.some.inj hf
      subst ho; subst hQ
      exact ht_iret hx hb hr hlk (show narrow .boolean (.int (0 : Int32)) = .int (0 : Int32) from rfl) hK hP hD hS dX9_isIn_18
    · replace hf := ht_f c_2 hf
      refine lv_iconst (v := 1) hx hb dX9_isIn_13 (by decide) ?_
      refine lv_goto (tgt := 18) hx hb dX9_isIn_14 (by decide) ?_
      have ho := Option.some.inj hf
      subst ho; subst hQ
      exact ht_iret hx hb hr hlk (show narrow .boolean (.int (1 : Int32)) = .int (1 : Int32) from rfl) hK hP hD hS dX9_isIn_18
abbrev rmX9_least : Room := { frames := 0, cells := 0, slots := 0, locals := 0 }
theorem hdX9_least : yX9_least.cls ≠ "java/lang/invoke/MethodHandle" ∧ yX9_least.cls ≠ "java/lang/invoke/VarHandle" ∧ (parseMethodDescriptor yX9_least.desc).map (fun d => d.parameters.length) = some 2 := by decide +kernel
def fX9_least (p0 : Int32) (p1 : Int32) : Option Int32 := if p1 ≤ p0 then (some p1) else (some p0)
set_option maxHeartbeats 1000000 in
set_option maxRecDepth 100000 in
theorem ctX9_least (l : Launch) (D : va_G) (K : Nat → ClassId)  (p0 : Int32) (p1 : Int32) (o : Int32) (hf : fX9_least p0 p1 = some o) (sz : Nat) : Met l yX9_least wsX9_least rmX9_least (ht_Pre D K [.int p0, .int p1] [] sz) (ht_Qi D K [] o (va_A [] sz)) 0 0 (va_A [] sz) := by
  refine ht_enter (Qf := ht_Qi D K [] o) (cc := cX9_least) (maxL := 2) (rt := (some .int)) (by decide) rfl (Nat.le_of_ble_eq_true rfl) ?_ sz
  intro p e s m below meth c A Q H locs ls hQ hx hb hr hlk hmn hml hown hts hA hK hP hD hS hl
  have hown : s.vm.findClass RX9 = some m.cls := hown
  have hF : CallFix p m c cX9_least 2 s ([.int p0, .int p1] : List Value).toArray wsX9_least RX9 := ⟨hx, hb, hml, hown, hts⟩
  have hl : lv_has ls 2 [(0, .int p0), (1, .int p1)] := hl
  delta fX9_least at hf
  refine lv_iload_n hx hb dX9_least_0 rfl (lv_at hl 0 rfl) ?_
  refine lv_iload_n hx hb dX9_least_1 rfl (lv_at hl 1 rfl) ?_
  refine lv_icmp_ge (tgt := 9) hx hb dX9_least_2 (by decide) (fun c_1 => ?_) (fun c_1 => ?_)
  · replace hf := ht_t c_1 hf
    refine lv_iload_n hx hb dX9_least_9 rfl (lv_at hl 1 rfl) ?_
    have ho := Option.some.inj hf
    subst ho; subst hQ
    exact ht_iret hx hb hr hlk rfl hK hP hD hS dX9_least_10
  · replace hf := ht_f c_1 hf
    refine lv_iload_n hx hb dX9_least_5 rfl (lv_at hl 0 rfl) ?_
    refine lv_goto (tgt := 10) hx hb dX9_least_6 (by decide) ?_
    have ho := Option.some.inj hf
    subst ho; subst hQ
    exact ht_iret hx hb hr hlk rfl hK hP hD hS dX9_least_10
abbrev rmX9_greatest : Room := { frames := 0, cells := 0, slots := 0, locals := 0 }
theorem hdX9_greatest : yX9_greatest.cls ≠ "java/lang/invoke/MethodHandle" ∧ yX9_greatest.cls ≠ "java/lang/invoke/VarHandle" ∧ (parseMethodDescriptor yX9_greatest.desc).map (fun d => d.parameters.length) = some 2 := by decide +kernel
def fX9_greatest (p0 : Int32) (p1 : Int32) : Option Int32 := if p0 ≤ p1 then (some p1) else (some p0)
set_option maxHeartbeats 1000000 in
set_option maxRecDepth 100000 in
theorem ctX9_greatest (l : Launch) (D : va_G) (K : Nat → ClassId)  (p0 : Int32) (p1 : Int32) (o : Int32) (hf : fX9_greatest p0 p1 = some o) (sz : Nat) : Met l yX9_greatest wsX9_greatest rmX9_greatest (ht_Pre D K [.int p0, .int p1] [] sz) (ht_Qi D K [] o (va_A [] sz)) 0 0 (va_A [] sz) := by
  refine ht_enter (Qf := ht_Qi D K [] o) (cc := cX9_greatest) (maxL := 2) (rt := (some .int)) (by decide) rfl (Nat.le_of_ble_eq_true rfl) ?_ sz
  intro p e s m below meth c A Q H locs ls hQ hx hb hr hlk hmn hml hown hts hA hK hP hD hS hl
  have hown : s.vm.findClass RX9 = some m.cls := hown
  have hF : CallFix p m c cX9_greatest 2 s ([.int p0, .int p1] : List Value).toArray wsX9_greatest RX9 := ⟨hx, hb, hml, hown, hts⟩
  have hl : lv_has ls 2 [(0, .int p0), (1, .int p1)] := hl
  delta fX9_greatest at hf
  refine lv_iload_n hx hb dX9_greatest_0 rfl (lv_at hl 0 rfl) ?_
  refine lv_iload_n hx hb dX9_greatest_1 rfl (lv_at hl 1 rfl) ?_
  refine lv_icmp_le (tgt := 9) hx hb dX9_greatest_2 (by decide) (fun c_1 => ?_) (fun c_1 => ?_)
  · replace hf := ht_t c_1 hf
    refine lv_iload_n hx hb dX9_greatest_9 rfl (lv_at hl 1 rfl) ?_
    have ho := Option.some.inj hf
    subst ho; subst hQ
    exact ht_iret hx hb hr hlk rfl hK hP hD hS dX9_greatest_10
  · replace hf := ht_f c_1 hf
    refine lv_iload_n hx hb dX9_greatest_5 rfl (lv_at hl 0 rfl) ?_
    refine lv_goto (tgt := 10) hx hb dX9_greatest_6 (by decide) ?_
    have ho := Option.some.inj hf
    subst ho; subst hQ
    exact ht_iret hx hb hr hlk rfl hK hP hD hS dX9_greatest_10
abbrev rmX9_within : Room := { frames := 0, cells := 0, slots := 0, locals := 0 }
theorem hdX9_within : yX9_within.cls ≠ "java/lang/invoke/MethodHandle" ∧ yX9_within.cls ≠ "java/lang/invoke/VarHandle" ∧ (parseMethodDescriptor yX9_within.desc).map (fun d => d.parameters.length) = some 1 := by decide +kernel
def fX9_within (p0 : Int32) : Option Int32 := if 0 ≤ p0 then (if p0 ≤ (99 : Int32) then (some p0) else (some (99 : Int32))) else (some (0 : Int32))
set_option maxHeartbeats 1000000 in
set_option maxRecDepth 100000 in
theorem ctX9_within (l : Launch) (D : va_G) (K : Nat → ClassId)  (p0 : Int32) (o : Int32) (hf : fX9_within p0 = some o) (sz : Nat) : Met l yX9_within wsX9_within rmX9_within (ht_Pre D K [.int p0] [] sz) (ht_Qi D K [] o (va_A [] sz)) 0 0 (va_A [] sz) := by
  refine ht_enter (Qf := ht_Qi D K [] o) (cc := cX9_within) (maxL := 1) (rt := (some .int)) (by decide) rfl (Nat.le_of_ble_eq_true rfl) ?_ sz
  intro p e s m below meth c A Q H locs ls hQ hx hb hr hlk hmn hml hown hts hA hK hP hD hS hl
  have hown : s.vm.findClass RX9 = some m.cls := hown
  have hF : CallFix p m c cX9_within 1 s ([.int p0] : List Value).toArray wsX9_within RX9 := ⟨hx, hb, hml, hown, hts⟩
  have hl : lv_has ls 1 [(0, .int p0)] := hl
  delta fX9_within at hf
  refine lv_iload_n hx hb dX9_within_0 rfl (lv_at hl 0 rfl) ?_
  refine lv_if_ge (tgt := 8) hx hb dX9_within_1 (by decide) (fun c_1 => ?_) (fun c_1 => ?_)
  · replace hf := ht_t c_1 hf
    refine lv_iload_n hx hb dX9_within_8 rfl (lv_at hl 0 rfl) ?_
    refine lv_bipush (v := 99) hx hb dX9_within_9 (by decide) ?_
    refine lv_icmp_le (tgt := 19) hx hb dX9_within_11 (by decide) (fun c_2 => ?_) (fun c_2 => ?_)
    · replace hf := ht_t c_2 hf
      refine lv_iload_n hx hb dX9_within_19 rfl (lv_at hl 0 rfl) ?_
      have ho := Option.some.inj hf
      subst ho; subst hQ
      exact ht_iret hx hb hr hlk rfl hK hP hD hS dX9_within_20
    · replace hf := ht_f c_2 hf
      refine lv_bipush (v := 99) hx hb dX9_within_14 (by decide) ?_
      refine lv_goto (tgt := 20) hx hb dX9_within_16 (by decide) ?_
      have ho := Option.some.inj hf
      subst ho; subst hQ
      exact ht_iret hx hb hr hlk rfl hK hP hD hS dX9_within_20
  · replace hf := ht_f c_1 hf
    refine lv_iconst (v := 0) hx hb dX9_within_4 (by decide) ?_
    refine lv_goto (tgt := 20) hx hb dX9_within_5 (by decide) ?_
    have ho := Option.some.inj hf
    subst ho; subst hQ
    exact ht_iret hx hb hr hlk rfl hK hP hD hS dX9_within_20
abbrev rmX9_size : Room := { frames := 0, cells := 0, slots := 0, locals := 0 }
theorem hdX9_size : yX9_size.cls ≠ "java/lang/invoke/MethodHandle" ∧ yX9_size.cls ≠ "java/lang/invoke/VarHandle" ∧ (parseMethodDescriptor yX9_size.desc).map (fun d => d.parameters.length) = some 1 := by decide +kernel
def fX9_size_b4 (k4 : Int32 → Int32 → Option Int32) (x1 : Int32) (x2 : Int32) : Option Int32 := if x2 = 0 then (some x1) else (ht_nm (x1 + (1 : Int32)) (fun x1_2 => ht_nm (x2 &&& (x2 - (1 : Int32))) (fun x2_3 => k4 x1_2 x2_3)))
def fX9_size (p0 : Int32) : Option Int32 := ht_lp2 (fX9_size_b4) FU (0 : Int32) p0
set_option maxHeartbeats 1000000 in
set_option maxRecDepth 100000 in
theorem ctX9_size (l : Launch) (D : va_G) (K : Nat → ClassId)  (p0 : Int32) (o : Int32) (hf : fX9_size p0 = some o) (sz : Nat) : Met l yX9_size wsX9_size rmX9_size (ht_Pre D K [.int p0] [] sz) (ht_Qi D K [] o (va_A [] sz)) 0 0 (va_A [] sz) := by
  refine ht_enter (Qf := ht_Qi D K [] o) (cc := cX9_size) (maxL := 3) (rt := (some .int)) (by decide) rfl (Nat.le_of_ble_eq_true rfl) ?_ sz
  intro p e s m below meth c A Q H locs ls hQ hx hb hr hlk hmn hml hown hts hA hK hP hD hS hl
  have hown : s.vm.findClass RX9 = some m.cls := hown
  have hF : CallFix p m c cX9_size 3 s ([.int p0] : List Value).toArray wsX9_size RX9 := ⟨hx, hb, hml, hown, hts⟩
  have hl : lv_has ls 3 [(0, .int p0)] := hl
  have b4 : ∀ (n : Nat) (x1 : Int32) (x2 : Int32) (H : Heap) (locs : List Loc) (ls : Array Slot), ht_lp2 (fX9_size_b4) n x1 x2 = some o → va_P D vwCl [] H → va_D A [] → va_S A s.heap H locs → lv_has ls 3 [(1, .int x1), (2, .int x2)] → W p l e (headSpec wsX9_size rmX9_size).room s m ([.int p0] : List Value).toArray below meth c H locs 0 0 Q (F0 m 4 ls []) := by
    intro n
    induction n with
    | zero =>
      intro x1 x2 H locs ls hf hP hD hS hl
      cases (show (none : Option Int32) = some o from hf)
    | succ n hk4 =>
      intro x1 x2 H locs ls hf hP hD hS hl
      replace hf : fX9_size_b4 (ht_lp2 (fX9_size_b4) n) x1 x2 = some o := hf
      delta fX9_size_b4 at hf
      refine lv_iload_n hx hb dX9_size_4 rfl (lv_at hl 1 rfl) ?_
      refine lv_if_eq (tgt := 20) hx hb dX9_size_5 (by decide) (fun c_1 => ?_) (fun c_1 => ?_)
      · replace hf := ht_t c_1 hf
        refine lv_iload_n hx hb dX9_size_20 rfl (lv_at hl 0 rfl) ?_
        have ho := Option.some.inj hf
        subst ho; subst hQ
        exact ht_iret hx hb hr hlk rfl hK hP hD hS dX9_size_21
      · replace hf := ht_f c_1 hf
        obtain ⟨x1_2, ex1_2, hf⟩ := ht_nm_ob hf
        refine lv_iinc (v := x1_2) (lv' := [(1, .int x1_2), (2, .int x2)]) hx hb dX9_size_8 hl (k := 0) rfl (by rw [ex1_2]; rfl) (by decide) rfl (fun ls hl => ?_)
        refine lv_iload_n hx hb dX9_size_11 rfl (lv_at hl 1 rfl) ?_
        refine lv_iload_n hx hb dX9_size_12 rfl (lv_at hl 1 rfl) ?_
        refine lv_iconst (v := 1) hx hb dX9_size_13 (by decide) ?_
        refine lv_isub hx hb dX9_size_14 ?_
        refine lv_iand hx hb dX9_size_15 ?_
        obtain ⟨x2_3, ex2_3, hf⟩ := ht_nm_ob hf
        rw [← ex2_3]
        refine lv_istore_n (lv' := [(2, .int x2_3), (1, .int x1_2)]) hx hb dX9_size_16 rfl hl (by decide) rfl (fun ls hl => ?_)
        refine lv_goto (tgt := 4) hx hb dX9_size_17 (by decide) ?_
        exact hk4 x1_2 x2_3 _ _ _ hf hP hD hS (lv_sub hl [1, 0] rfl)
  delta fX9_size at hf
  refine lv_iconst (v := 0) hx hb dX9_size_0 (by decide) ?_
  refine lv_istore_n (lv' := [(1, .int (0 : Int32)), (0, .int p0)]) hx hb dX9_size_1 rfl hl (by decide) rfl (fun ls hl => ?_)
  refine lv_iload_n hx hb dX9_size_2 rfl (lv_at hl 1 rfl) ?_
  refine lv_istore_n (lv' := [(2, .int p0), (1, .int (0 : Int32)), (0, .int p0)]) hx hb dX9_size_3 rfl hl (by decide) rfl (fun ls hl => ?_)
  exact b4  FU (0 : Int32) p0 _ _ _ hf hP hD hS (lv_sub hl [1, 0] rfl)
abbrev rmX9_isUnder : Room := { frames := 0, cells := 0, slots := 0, locals := 0 }
theorem hdX9_isUnder : yX9_isUnder.cls ≠ "java/lang/invoke/MethodHandle" ∧ yX9_isUnder.cls ≠ "java/lang/invoke/VarHandle" ∧ (parseMethodDescriptor yX9_isUnder.desc).map (fun d => d.parameters.length) = some 2 := by decide +kernel
def fX9_isUnder_b29 : Option Int32 := some (1 : Int32)
def fX9_isUnder_b19 (x0 : Int32) (x1 : Int32) : Option Int32 := if x1 = (2 : Int32) then (if x0 = (4 : Int32) then (fX9_isUnder_b29 ) else (some (0 : Int32))) else (some (0 : Int32))
def fX9_isUnder (p0 : Int32) (p1 : Int32) : Option Int32 := if p1 = 0 then (fX9_isUnder_b29 ) else (if p0 = p1 then (fX9_isUnder_b29 ) else (if p1 = (1 : Int32) then (if p0 = (3 : Int32) then (fX9_isUnder_b29 ) else (fX9_isUnder_b19 p0 p1)) else (fX9_isUnder_b19 p0 p1)))
set_option maxHeartbeats 1000000 in
set_option maxRecDepth 100000 in
theorem ctX9_isUnder (l : Launch) (D : va_G) (K : Nat → ClassId)  (p0 : Int32) (p1 : Int32) (o : Int32) (hf : fX9_isUnder p0 p1 = some o) (sz : Nat) : Met l yX9_isUnder wsX9_isUnder rmX9_isUnder (ht_Pre D K [.int p0, .int p1] [] sz) (ht_Qi D K [] o (va_A [] sz)) 0 0 (va_A [] sz) := by
  refine ht_enter (Qf := ht_Qi D K [] o) (cc := cX9_isUnder) (maxL := 2) (rt := (some .boolean)) (by decide) rfl (Nat.le_of_ble_eq_true rfl) ?_ sz
  intro p e s m below meth c A Q H locs ls hQ hx hb hr hlk hmn hml hown hts hA hK hP hD hS hl
  have hown : s.vm.findClass RX9 = some m.cls := hown
  have hF : CallFix p m c cX9_isUnder 2 s ([.int p0, .int p1] : List Value).toArray wsX9_isUnder RX9 := ⟨hx, hb, hml, hown, hts⟩
  have hl : lv_has ls 2 [(0, .int p0), (1, .int p1)] := hl
  have b29 : ∀ (H : Heap) (locs : List Loc) (ls : Array Slot), fX9_isUnder_b29  = some o → va_P D vwCl [] H → va_D A [] → va_S A s.heap H locs → lv_has ls 2 [] → W p l e (headSpec wsX9_isUnder rmX9_isUnder).room s m ([.int p0, .int p1] : List Value).toArray below meth c H locs 0 0 Q (F0 m 29 ls []) := by
    intro  H locs ls hf hP hD hS hl
    delta fX9_isUnder_b29 at hf
    refine lv_iconst (v := 1) hx hb dX9_isUnder_29 (by decide) ?_
    refine lv_goto (tgt := 34) hx hb dX9_isUnder_30 (by decide) ?_
    have ho := Option.some.inj hf
    subst ho; subst hQ
    exact ht_iret hx hb hr hlk (show narrow .boolean (.int (1 : Int32)) = .int (1 : Int32) from rfl) hK hP hD hS dX9_isUnder_34
  have b19 : ∀ (x0 : Int32) (x1 : Int32) (H : Heap) (locs : List Loc) (ls : Array Slot), fX9_isUnder_b19 x0 x1 = some o → va_P D vwCl [] H → va_D A [] → va_S A s.heap H locs → lv_has ls 2 [(0, .int x0), (1, .int x1)] → W p l e (headSpec wsX9_isUnder rmX9_isUnder).room s m ([.int p0, .int p1] : List Value).toArray below meth c H locs 0 0 Q (F0 m 19 ls []) := by
    intro x0 x1 H locs ls hf hP hD hS hl
    delta fX9_isUnder_b19 at hf
    refine lv_iload_n hx hb dX9_isUnder_19 rfl (lv_at hl 1 rfl) ?_
    refine lv_iconst (v := 2) hx hb dX9_isUnder_20 (by decide) ?_
    refine lv_icmp_ne (tgt := 33) hx hb dX9_isUnder_21 (by decide) (fun c_1 => ?_) (fun c_1 => ?_)
    · replace hf := ht_f c_1 hf
      refine lv_iconst (v := 0) hx hb dX9_isUnder_33 (by decide) ?_
      have ho := Option.some.inj hf
      subst ho; subst hQ
      exact ht_iret hx hb hr hlk (show narrow .boolean (.int (0 : Int32)) = .int (0 : Int32) from rfl) hK hP hD hS dX9_isUnder_34
    · replace hf := ht_t c_1 hf
      refine lv_iload_n hx hb dX9_isUnder_24 rfl (lv_at hl 0 rfl) ?_
      refine lv_iconst (v := 4) hx hb dX9_isUnder_25 (by decide) ?_
      refine lv_icmp_ne (tgt := 33) hx hb dX9_isUnder_26 (by decide) (fun c_2 => ?_) (fun c_2 => ?_)
      · replace hf := ht_f c_2 hf
        refine lv_iconst (v := 0) hx hb dX9_isUnder_33 (by decide) ?_
        have ho := Option.some.inj hf
        subst ho; subst hQ
        exact ht_iret hx hb hr hlk (show narrow .boolean (.int (0 : Int32)) = .int (0 : Int32) from rfl) hK hP hD hS dX9_isUnder_34
      · replace hf := ht_t c_2 hf
        exact b29  _ _ _ hf hP hD hS (lv_sub hl [] rfl)
  delta fX9_isUnder at hf
  refine lv_iload_n hx hb dX9_isUnder_0 rfl (lv_at hl 1 rfl) ?_
  refine lv_if_eq (tgt := 29) hx hb dX9_isUnder_1 (by decide) (fun c_3 => ?_) (fun c_3 => ?_)
  · replace hf := ht_t c_3 hf
    exact b29  _ _ _ hf hP hD hS (lv_sub hl [] rfl)
  · replace hf := ht_f c_3 hf
    refine lv_iload_n hx hb dX9_isUnder_4 rfl (lv_at hl 0 rfl) ?_
    refine lv_iload_n hx hb dX9_isUnder_5 rfl (lv_at hl 1 rfl) ?_
    refine lv_icmp_eq (tgt := 29) hx hb dX9_isUnder_6 (by decide) (fun c_4 => ?_) (fun c_4 => ?_)
    · replace hf := ht_t c_4 hf
      exact b29  _ _ _ hf hP hD hS (lv_sub hl [] rfl)
    · replace hf := ht_f c_4 hf
      refine lv_iload_n hx hb dX9_isUnder_9 rfl (lv_at hl 1 rfl) ?_
      refine lv_iconst (v := 1) hx hb dX9_isUnder_10 (by decide) ?_
      refine lv_icmp_ne (tgt := 19) hx hb dX9_isUnder_11 (by decide) (fun c_5 => ?_) (fun c_5 => ?_)
      · replace hf := ht_f c_5 hf
        exact b19  p0 p1 _ _ _ hf hP hD hS hl
      · replace hf := ht_t c_5 hf
        refine lv_iload_n hx hb dX9_isUnder_14 rfl (lv_at hl 0 rfl) ?_
        refine lv_iconst (v := 3) hx hb dX9_isUnder_15 (by decide) ?_
        refine lv_icmp_eq (tgt := 29) hx hb dX9_isUnder_16 (by decide) (fun c_6 => ?_) (fun c_6 => ?_)
        · replace hf := ht_t c_6 hf
          exact b29  _ _ _ hf hP hD hS (lv_sub hl [] rfl)
        · replace hf := ht_f c_6 hf
          exact b19  p0 p1 _ _ _ hf hP hD hS hl
abbrev rmX9_isAlpha : Room := { frames := 0, cells := 0, slots := 0, locals := 0 }
theorem hdX9_isAlpha : yX9_isAlpha.cls ≠ "java/lang/invoke/MethodHandle" ∧ yX9_isAlpha.cls ≠ "java/lang/invoke/VarHandle" ∧ (parseMethodDescriptor yX9_isAlpha.desc).map (fun d => d.parameters.length) = some 1 := by decide +kernel
def fX9_isAlpha (p0 : Int32) : Option Int32 := if p0 < (97 : Int32) then (some (0 : Int32)) else (if (122 : Int32) < p0 then (some (0 : Int32)) else (some (1 : Int32)))
set_option maxHeartbeats 1000000 in
set_option maxRecDepth 100000 in
theorem ctX9_isAlpha (l : Launch) (D : va_G) (K : Nat → ClassId)  (p0 : Int32) (o : Int32) (hf : fX9_isAlpha p0 = some o) (sz : Nat) : Met l yX9_isAlpha wsX9_isAlpha rmX9_isAlpha (ht_Pre D K [.int p0] [] sz) (ht_Qi D K [] o (va_A [] sz)) 0 0 (va_A [] sz) := by
  refine ht_enter (Qf := ht_Qi D K [] o) (cc := cX9_isAlpha) (maxL := 1) (rt := (some .boolean)) (by decide) rfl (Nat.le_of_ble_eq_true rfl) ?_ sz
  intro p e s m below meth c A Q H locs ls hQ hx hb hr hlk hmn hml hown hts hA hK hP hD hS hl
  have hown : s.vm.findClass RX9 = some m.cls := hown
  have hF : CallFix p m c cX9_isAlpha 1 s ([.int p0] : List Value).toArray wsX9_isAlpha RX9 := ⟨hx, hb, hml, hown, hts⟩
  have hl : lv_has ls 1 [(0, .int p0)] := hl
  delta fX9_isAlpha at hf
  refine lv_iload_n hx hb dX9_isAlpha_0 rfl (lv_at hl 0 rfl) ?_
  refine lv_bipush (v := 97) hx hb dX9_isAlpha_1 (by decide) ?_
  refine lv_icmp_lt (tgt := 16) hx hb dX9_isAlpha_3 (by decide) (fun c_1 => ?_) (fun c_1 => ?_)
  · replace hf := ht_t c_1 hf
    refine lv_iconst (v := 0) hx hb dX9_isAlpha_16 (by decide) ?_
    have ho := Option.some.inj hf
    subst ho; subst hQ
    exact ht_iret hx hb hr hlk (show narrow .boolean (.int (0 : Int32)) = .int (0 : Int32) from rfl) hK hP hD hS dX9_isAlpha_17
  · replace hf := ht_f c_1 hf
    refine lv_iload_n hx hb dX9_isAlpha_6 rfl (lv_at hl 0 rfl) ?_
    refine lv_bipush (v := 122) hx hb dX9_isAlpha_7 (by decide) ?_
    refine lv_icmp_gt (tgt := 16) hx hb dX9_isAlpha_9 (by decide) (fun c_2 => ?_) (fun c_2 => ?_)
    · replace hf := ht_t c_2 hf
      refine lv_iconst (v := 0) hx hb dX9_isAlpha_16 (by decide) ?_
      have ho := Option.some.inj hf
      subst ho; subst hQ
      exact ht_iret hx hb hr hlk (show narrow .boolean (.int (0 : Int32)) = .int (0 : Int32) from rfl) hK hP hD hS dX9_isAlpha_17
    · replace hf := ht_f c_2 hf
      refine lv_iconst (v := 1) hx hb dX9_isAlpha_12 (by decide) ?_
      refine lv_goto (tgt := 17) hx hb dX9_isAlpha_13 (by decide) ?_
      have ho := Option.some.inj hf
      subst ho; subst hQ
      exact ht_iret hx hb hr hlk (show narrow .boolean (.int (1 : Int32)) = .int (1 : Int32) from rfl) hK hP hD hS dX9_isAlpha_17
abbrev rmX9_isDigit : Room := { frames := 0, cells := 0, slots := 0, locals := 0 }
theorem hdX9_isDigit : yX9_isDigit.cls ≠ "java/lang/invoke/MethodHandle" ∧ yX9_isDigit.cls ≠ "java/lang/invoke/VarHandle" ∧ (parseMethodDescriptor yX9_isDigit.desc).map (fun d => d.parameters.length) = some 1 := by decide +kernel
def fX9_isDigit (p0 : Int32) : Option Int32 := if p0 < (48 : Int32) then (some (0 : Int32)) else (if (57 : Int32) < p0 then (some (0 : Int32)) else (some (1 : Int32)))
set_option maxHeartbeats 1000000 in
set_option maxRecDepth 100000 in
theorem ctX9_isDigit (l : Launch) (D : va_G) (K : Nat → ClassId)  (p0 : Int32) (o : Int32) (hf : fX9_isDigit p0 = some o) (sz : Nat) : Met l yX9_isDigit wsX9_isDigit rmX9_isDigit (ht_Pre D K [.int p0] [] sz) (ht_Qi D K [] o (va_A [] sz)) 0 0 (va_A [] sz) := by
  refine ht_enter (Qf := ht_Qi D K [] o) (cc := cX9_isDigit) (maxL := 1) (rt := (some .boolean)) (by decide) rfl (Nat.le_of_ble_eq_true rfl) ?_ sz
  intro p e s m below meth c A Q H locs ls hQ hx hb hr hlk hmn hml hown hts hA hK hP hD hS hl
  have hown : s.vm.findClass RX9 = some m.cls := hown
  have hF : CallFix p m c cX9_isDigit 1 s ([.int p0] : List Value).toArray wsX9_isDigit RX9 := ⟨hx, hb, hml, hown, hts⟩
  have hl : lv_has ls 1 [(0, .int p0)] := hl
  delta fX9_isDigit at hf
  refine lv_iload_n hx hb dX9_isDigit_0 rfl (lv_at hl 0 rfl) ?_
  refine lv_bipush (v := 48) hx hb dX9_isDigit_1 (by decide) ?_
  refine lv_icmp_lt (tgt := 16) hx hb dX9_isDigit_3 (by decide) (fun c_1 => ?_) (fun c_1 => ?_)
  · replace hf := ht_t c_1 hf
    refine lv_iconst (v := 0) hx hb dX9_isDigit_16 (by decide) ?_
    have ho := Option.some.inj hf
    subst ho; subst hQ
    exact ht_iret hx hb hr hlk (show narrow .boolean (.int (0 : Int32)) = .int (0 : Int32) from rfl) hK hP hD hS dX9_isDigit_17
  · replace hf := ht_f c_1 hf
    refine lv_iload_n hx hb dX9_isDigit_6 rfl (lv_at hl 0 rfl) ?_
    refine lv_bipush (v := 57) hx hb dX9_isDigit_7 (by decide) ?_
    refine lv_icmp_gt (tgt := 16) hx hb dX9_isDigit_9 (by decide) (fun c_2 => ?_) (fun c_2 => ?_)
    · replace hf := ht_t c_2 hf
      refine lv_iconst (v := 0) hx hb dX9_isDigit_16 (by decide) ?_
      have ho := Option.some.inj hf
      subst ho; subst hQ
      exact ht_iret hx hb hr hlk (show narrow .boolean (.int (0 : Int32)) = .int (0 : Int32) from rfl) hK hP hD hS dX9_isDigit_17
    · replace hf := ht_f c_2 hf
      refine lv_iconst (v := 1) hx hb dX9_isDigit_12 (by decide) ?_
      refine lv_goto (tgt := 17) hx hb dX9_isDigit_13 (by decide) ?_
      have ho := Option.some.inj hf
      subst ho; subst hQ
      exact ht_iret hx hb hr hlk (show narrow .boolean (.int (1 : Int32)) = .int (1 : Int32) from rfl) hK hP hD hS dX9_isDigit_17
abbrev rmX9_copyRow : Room := { frames := 0, cells := 0, slots := 0, locals := 0 }
theorem hdX9_copyRow : yX9_copyRow.cls ≠ "java/lang/invoke/MethodHandle" ∧ yX9_copyRow.cls ≠ "java/lang/invoke/VarHandle" ∧ (parseMethodDescriptor yX9_copyRow.desc).map (fun d => d.parameters.length) = some 2 := by decide +kernel
def fX9_copyRow_b2 (RP : AI) (RQ : AI) (k2 : Int32 → AI → Option AI) (x2 : Int32) (vQ_v : AI) : Option AI := if (57 : Int32) ≤ x2 then (some vQ_v) else (ht_gd (ht_ix x2 57) (ht_gd (ht_ix x2 57) (ht_nm (upd vQ_v x2.toNatClampNeg (RP x2.toNatClampNeg)) (fun vQ_v_4 => ht_nm (x2 + (1 : Int32)) (fun x2_5 => k2 x2_5 vQ_v_4)))))
def fX9_copyRow (RP : AI) (RQ : AI) : Option AI := ht_lp2 (fX9_copyRow_b2 RP RQ) FU (0 : Int32) RQ
set_option maxHeartbeats 1000000 in
set_option maxRecDepth 100000 in
theorem ctX9_copyRow (l : Launch) (D : va_G) (K : Nat → ClassId) (jP : Nat) (jQ : Nat) (RP : AI) (RQ : AI) (o : AI) (hf : fX9_copyRow RP RQ = some o) (sz : Nat) : Met l yX9_copyRow wsX9_copyRow rmX9_copyRow (ht_Pre D K [.ref jP, .ref jQ] (wAr K 57 jP RP ++ (wAr K 57 jQ RQ)) sz) (ht_Qv D K (wAr K 57 jP RP ++ (wAr K 57 jQ o)) (va_A (wAr K 57 jP RP ++ (wAr K 57 jQ RQ)) sz)) 0 0 (va_A (wAr K 57 jP RP ++ (wAr K 57 jQ RQ)) sz) := by
  refine ht_enter (Qf := ht_Qv D K (wAr K 57 jP RP ++ (wAr K 57 jQ o))) (cc := cX9_copyRow) (maxL := 3) (rt := none) (by decide) rfl (Nat.le_of_ble_eq_true rfl) ?_ sz
  intro p e s m below meth c A Q H locs ls hQ hx hb hr hlk hmn hml hown hts hA hK hP hD hS hl
  have hown : s.vm.findClass RX9 = some m.cls := hown
  have hF : CallFix p m c cX9_copyRow 3 s ([.ref jP, .ref jQ] : List Value).toArray wsX9_copyRow RX9 := ⟨hx, hb, hml, hown, hts⟩
  have hl : lv_has ls 3 [(0, .ref jP), (1, .ref jQ)] := hl
  have b2 : ∀ (n : Nat) (x2 : Int32) (vQ_v : AI) (H : Heap) (locs : List Loc) (ls : Array Slot), ht_lp2 (fX9_copyRow_b2 RP RQ) n x2 vQ_v = some o → va_P D vwCl (wAr K 57 jP RP ++ (wAr K 57 jQ vQ_v)) H → va_D A (wAr K 57 jP RP ++ (wAr K 57 jQ vQ_v)) → va_S A s.heap H locs → lv_has ls 3 [(0, .ref jP), (1, .ref jQ), (2, .int x2)] → W p l e (headSpec wsX9_copyRow rmX9_copyRow).room s m ([.ref jP, .ref jQ] : List Value).toArray below meth c H locs 0 0 Q (F0 m 2 ls []) := by
    intro n
    induction n with
    | zero =>
      intro x2 vQ_v H locs ls hf hP hD hS hl
      cases (show (none : Option AI) = some o from hf)
    | succ n hk2 =>
      intro x2 vQ_v H locs ls hf hP hD hS hl
      replace hf : fX9_copyRow_b2 RP RQ (ht_lp2 (fX9_copyRow_b2 RP RQ) n) x2 vQ_v = some o := hf
      delta fX9_copyRow_b2 at hf
      refine lv_iload_n hx hb dX9_copyRow_2 rfl (lv_at hl 2 rfl) ?_
      refine lv_bipush (v := 57) hx hb dX9_copyRow_3 (by decide) ?_
      refine lv_icmp_ge (tgt := 20) hx hb dX9_copyRow_5 (by decide) (fun c_1 => ?_) (fun c_1 => ?_)
      · replace hf := ht_t c_1 hf
        have ho := Option.some.inj hf
        subst ho; subst hQ
        exact ht_vret hx hb hr hlk hK hP hD hS dX9_copyRow_20
      · replace hf := ht_f c_1 hf
        refine lv_aload_n hx hb dX9_copyRow_8 rfl (lv_at hl 1 rfl) ?_
        refine lv_iload_n hx hb dX9_copyRow_9 rfl (lv_at hl 2 rfl) ?_
        refine lv_aload_n hx hb dX9_copyRow_10 rfl (lv_at hl 0 rfl) ?_
        refine lv_iload_n hx hb dX9_copyRow_11 rfl (lv_at hl 2 rfl) ?_
        obtain ⟨g_2, hf⟩ := ht_gd_ob hf
        refine va_iald hx hb hK hP 0 1 rfl rfl (ht_ix_in g_2) dX9_copyRow_12 ?_
        obtain ⟨g_3, hf⟩ := ht_gd_ob hf
        obtain ⟨vQ_v_4, evQ_v_4, hf⟩ := ht_nm_ob hf
        refine ht_iast (w2 := (wAr K 57 jP RP ++ (wAr K 57 jQ vQ_v_4))) hx hb hK hP hD hS 1 1 rfl rfl g_3 dX9_copyRow_13 evQ_v_4 rfl (fun H locs hP hD hS => ?_)
        obtain ⟨x2_5, ex2_5, hf⟩ := ht_nm_ob hf
        refine lv_iinc (v := x2_5) (lv' := [(2, .int x2_5), (0, .ref jP), (1, .ref jQ)]) hx hb dX9_copyRow_14 hl (k := 2) rfl (by rw [ex2_5]; rfl) (by decide) rfl (fun ls hl => ?_)
        refine lv_goto (tgt := 2) hx hb dX9_copyRow_17 (by decide) ?_
        exact hk2 x2_5 vQ_v_4 _ _ _ hf hP hD hS (lv_sub hl [1, 2, 0] rfl)
  delta fX9_copyRow at hf
  refine lv_iconst (v := 0) hx hb dX9_copyRow_0 (by decide) ?_
  refine lv_istore_n (lv' := [(2, .int (0 : Int32)), (0, .ref jP), (1, .ref jQ)]) hx hb dX9_copyRow_1 rfl hl (by decide) rfl (fun ls hl => ?_)
  exact b2  FU (0 : Int32) RQ _ _ _ hf hP hD hS (lv_sub hl [1, 2, 0] rfl)
abbrev rmX9_isShort : Room := { frames := 1, cells := 0, slots := 0, locals := 25 }
theorem hdX9_isShort : yX9_isShort.cls ≠ "java/lang/invoke/MethodHandle" ∧ yX9_isShort.cls ≠ "java/lang/invoke/VarHandle" ∧ (parseMethodDescriptor yX9_isShort.desc).map (fun d => d.parameters.length) = some 1 := by decide +kernel
def fX9_isShort (p0 : Int32) : Option Int32 := ht_bn (fX9_isIn p0.toInt64 (1 : Int64) (20 : Int64)) (fun o_1 => ht_gd (ht_bz o_1) (some o_1))
set_option maxHeartbeats 1000000 in
set_option maxRecDepth 100000 in
theorem ctX9_isShort (l : Launch) (D : va_G) (K : Nat → ClassId)  (p0 : Int32) (o : Int32) (hf : fX9_isShort p0 = some o) (sz : Nat) : Met l yX9_isShort wsX9_isShort rmX9_isShort (ht_Pre D K [.int p0] [] sz) (ht_Qi D K [] o (va_A [] sz)) 0 0 (va_A [] sz) := by
  refine ht_enter (Qf := ht_Qi D K [] o) (cc := cX9_isShort) (maxL := 1) (rt := (some .boolean)) (by decide) rfl (Nat.le_of_ble_eq_true rfl) ?_ sz
  intro p e s m below meth c A Q H locs ls hQ hx hb hr hlk hmn hml hown hts hA hK hP hD hS hl
  have hown : s.vm.findClass RX9 = some m.cls := hown
  have hF : CallFix p m c cX9_isShort 1 s ([.int p0] : List Value).toArray wsX9_isShort RX9 := ⟨hx, hb, hml, hown, hts⟩
  have hl : lv_has ls 1 [(0, .int p0)] := hl
  have kw0 := hts (.constantLong RX9 231 (20)) (by decide +kernel)
  delta fX9_isShort at hf
  refine lv_iload_n hx hb dX9_isShort_0 rfl (lv_at hl 0 rfl) ?_
  refine lv_i2l hx hb dX9_isShort_1 rfl ?_
  refine lv_lconst (v := 1) hx hb dX9_isShort_2 (by decide) ?_
  refine lv_ldc2 hx hb hown kw0 dX9_isShort_3 ?_
  obtain ⟨o_1, ho_1, hf⟩ := ht_bn_ob hf
  refine ht_callSi (r := o_1) (rest := []) (As := [.long p0.toInt64, .long (1 : Int64), .long (20 : Int64)]) (wc := []) (wr := []) (w1 := []) (w2 := []) hF (ctX9_isIn l D K p0.toInt64 (1 : Int64) (20 : Int64) o_1 ho_1 H.size) (va_cwS 3 hts gX9_isShort_X9_isIn rfl rfl rfl hdX9_isIn ⟨Nat.le_of_ble_eq_true rfl, Nat.le_of_ble_eq_true rfl⟩) hK hP hD hS hA [] [] rfl rfl (by decide) (by decide) (by decide) [] rfl (by decide) rfl hl.1 rfl (Nat.le_of_ble_eq_true rfl) dX9_isShort_6 ⟨Nat.zero_le _, Nat.zero_le _⟩ (fun H locs hP hD hS => ?_)
  obtain ⟨g_2, hf⟩ := ht_gd_ob hf
  have ho := Option.some.inj hf
  subst ho; subst hQ
  exact ht_iret hx hb hr hlk (ht_bz_nar g_2) hK hP hD hS dX9_isShort_9
abbrev rmX9_isFew : Room := { frames := 1, cells := 0, slots := 0, locals := 25 }
theorem hdX9_isFew : yX9_isFew.cls ≠ "java/lang/invoke/MethodHandle" ∧ yX9_isFew.cls ≠ "java/lang/invoke/VarHandle" ∧ (parseMethodDescriptor yX9_isFew.desc).map (fun d => d.parameters.length) = some 1 := by decide +kernel
def fX9_isFew (p0 : Int32) : Option Int32 := ht_bn (fX9_isIn p0.toInt64 (1 : Int64) (5 : Int64)) (fun o_1 => ht_gd (ht_bz o_1) (some o_1))
set_option maxHeartbeats 1000000 in
set_option maxRecDepth 100000 in
theorem ctX9_isFew (l : Launch) (D : va_G) (K : Nat → ClassId)  (p0 : Int32) (o : Int32) (hf : fX9_isFew p0 = some o) (sz : Nat) : Met l yX9_isFew wsX9_isFew rmX9_isFew (ht_Pre D K [.int p0] [] sz) (ht_Qi D K [] o (va_A [] sz)) 0 0 (va_A [] sz) := by
  refine ht_enter (Qf := ht_Qi D K [] o) (cc := cX9_isFew) (maxL := 1) (rt := (some .boolean)) (by decide) rfl (Nat.le_of_ble_eq_true rfl) ?_ sz
  intro p e s m below meth c A Q H locs ls hQ hx hb hr hlk hmn hml hown hts hA hK hP hD hS hl
  have hown : s.vm.findClass RX9 = some m.cls := hown
  have hF : CallFix p m c cX9_isFew 1 s ([.int p0] : List Value).toArray wsX9_isFew RX9 := ⟨hx, hb, hml, hown, hts⟩
  have hl : lv_has ls 1 [(0, .int p0)] := hl
  have kw0 := hts (.constantLong RX9 170 (5)) (by decide +kernel)
  delta fX9_isFew at hf
  refine lv_iload_n hx hb dX9_isFew_0 rfl (lv_at hl 0 rfl) ?_
  refine lv_i2l hx hb dX9_isFew_1 rfl ?_
  refine lv_lconst (v := 1) hx hb dX9_isFew_2 (by decide) ?_
  refine lv_ldc2 hx hb hown kw0 dX9_isFew_3 ?_
  obtain ⟨o_1, ho_1, hf⟩ := ht_bn_ob hf
  refine ht_callSi (r := o_1) (rest := []) (As := [.long p0.toInt64, .long (1 : Int64), .long (5 : Int64)]) (wc := []) (wr := []) (w1 := []) (w2 := []) hF (ctX9_isIn l D K p0.toInt64 (1 : Int64) (5 : Int64) o_1 ho_1 H.size) (va_cwS 3 hts gX9_isFew_X9_isIn rfl rfl rfl hdX9_isIn ⟨Nat.le_of_ble_eq_true rfl, Nat.le_of_ble_eq_true rfl⟩) hK hP hD hS hA [] [] rfl rfl (by decide) (by decide) (by decide) [] rfl (by decide) rfl hl.1 rfl (Nat.le_of_ble_eq_true rfl) dX9_isFew_6 ⟨Nat.zero_le _, Nat.zero_le _⟩ (fun H locs hP hD hS => ?_)
  obtain ⟨g_2, hf⟩ := ht_gd_ob hf
  have ho := Option.some.inj hf
  subst ho; subst hQ
  exact ht_iret hx hb hr hlk (ht_bz_nar g_2) hK hP hD hS dX9_isFew_9
abbrev rmX9_product : Room := { frames := 0, cells := 0, slots := 0, locals := 0 }
theorem hdX9_product : yX9_product.cls ≠ "java/lang/invoke/MethodHandle" ∧ yX9_product.cls ≠ "java/lang/invoke/VarHandle" ∧ (parseMethodDescriptor yX9_product.desc).map (fun d => d.parameters.length) = some 1 := by decide +kernel
def fX9_product_b20 (x1 : Int64) : Option Int64 := some x1
def fX9_product_b4 (k4 : Int32 → Int64 → Int32 → Option Int64) (x0 : Int32) (x1 : Int64) (x3 : Int32) : Option Int64 := if x0 < x3 then (fX9_product_b20 x1) else (ht_nm (x1 * x3.toInt64) (fun x1_2 => ht_nm (x3 + (1 : Int32)) (fun x3_3 => k4 x0 x1_2 x3_3)))
def fX9_product (p0 : Int32) : Option Int64 := ht_lp3 (fX9_product_b4) FU p0 (1 : Int64) (2 : Int32)
set_option maxHeartbeats 1000000 in
set_option maxRecDepth 100000 in
theorem ctX9_product (l : Launch) (D : va_G) (K : Nat → ClassId)  (p0 : Int32) (o : Int64) (hf : fX9_product p0 = some o) (sz : Nat) : Met l yX9_product wsX9_product rmX9_product (ht_Pre D K [.int p0] [] sz) (ht_Ql D K [] o (va_A [] sz)) 0 0 (va_A [] sz) := by
  refine ht_enter (Qf := ht_Ql D K [] o) (cc := cX9_product) (maxL := 4) (rt := (some .long)) (by decide) rfl (Nat.le_of_ble_eq_true rfl) ?_ sz
  intro p e s m below meth c A Q H locs ls hQ hx hb hr hlk hmn hml hown hts hA hK hP hD hS hl
  have hown : s.vm.findClass RX9 = some m.cls := hown
  have hF : CallFix p m c cX9_product 4 s ([.int p0] : List Value).toArray wsX9_product RX9 := ⟨hx, hb, hml, hown, hts⟩
  have hl : lv_has ls 4 [(0, .int p0)] := hl
  have b20 : ∀ (x1 : Int64) (H : Heap) (locs : List Loc) (ls : Array Slot), fX9_product_b20 x1 = some o → va_P D vwCl [] H → va_D A [] → va_S A s.heap H locs → lv_has ls 4 [(1, .long x1)] → W p l e (headSpec wsX9_product rmX9_product).room s m ([.int p0] : List Value).toArray below meth c H locs 0 0 Q (F0 m 20 ls []) := by
    intro x1 H locs ls hf hP hD hS hl
    delta fX9_product_b20 at hf
    refine lv_lload_n hx hb dX9_product_20 rfl (lv_at hl 0 rfl) ?_
    have ho := Option.some.inj hf
    subst ho; subst hQ
    exact ht_lret hx hb hr hlk hK hP hD hS dX9_product_21
  have b4 : ∀ (n : Nat) (x0 : Int32) (x1 : Int64) (x3 : Int32) (H : Heap) (locs : List Loc) (ls : Array Slot), ht_lp3 (fX9_product_b4) n x0 x1 x3 = some o → va_P D vwCl [] H → va_D A [] → va_S A s.heap H locs → lv_has ls 4 [(0, .int x0), (1, .long x1), (3, .int x3)] → W p l e (headSpec wsX9_product rmX9_product).room s m ([.int p0] : List Value).toArray below meth c H locs 0 0 Q (F0 m 4 ls []) := by
    intro n
    induction n with
    | zero =>
      intro x0 x1 x3 H locs ls hf hP hD hS hl
      cases (show (none : Option Int64) = some o from hf)
    | succ n hk4 =>
      intro x0 x1 x3 H locs ls hf hP hD hS hl
      replace hf : fX9_product_b4 (ht_lp3 (fX9_product_b4) n) x0 x1 x3 = some o := hf
      delta fX9_product_b4 at hf
      refine lv_iload_n hx hb dX9_product_4 rfl (lv_at hl 2 rfl) ?_
      refine lv_iload_n hx hb dX9_product_5 rfl (lv_at hl 0 rfl) ?_
      refine lv_icmp_gt (tgt := 20) hx hb dX9_product_6 (by decide) (fun c_1 => ?_) (fun c_1 => ?_)
      · replace hf := ht_t c_1 hf
        exact b20  x1 _ _ _ hf hP hD hS (lv_sub hl [1] rfl)
      · replace hf := ht_f c_1 hf
        refine lv_lload_n hx hb dX9_product_9 rfl (lv_at hl 1 rfl) ?_
        refine lv_iload_n hx hb dX9_product_10 rfl (lv_at hl 2 rfl) ?_
        refine lv_i2l hx hb dX9_product_11 rfl ?_
        refine lv_lmul hx hb dX9_product_12 ?_
        obtain ⟨x1_2, ex1_2, hf⟩ := ht_nm_ob hf
        rw [← ex1_2]
        refine lv_lstore_n (lv' := [(1, .long x1_2), (0, .int x0), (3, .int x3)]) hx hb dX9_product_13 rfl hl (by decide) rfl (fun ls hl => ?_)
        obtain ⟨x3_3, ex3_3, hf⟩ := ht_nm_ob hf
        refine lv_iinc (v := x3_3) (lv' := [(3, .int x3_3), (1, .long x1_2), (0, .int x0)]) hx hb dX9_product_14 hl (k := 2) rfl (by rw [ex3_3]; rfl) (by decide) rfl (fun ls hl => ?_)
        refine lv_goto (tgt := 4) hx hb dX9_product_17 (by decide) ?_
        exact hk4 x0 x1_2 x3_3 _ _ _ hf hP hD hS (lv_sub hl [2, 1, 0] rfl)
  delta fX9_product at hf
  refine lv_lconst (v := 1) hx hb dX9_product_0 (by decide) ?_
  refine lv_lstore_n (lv' := [(1, .long (1 : Int64)), (0, .int p0)]) hx hb dX9_product_1 rfl hl (by decide) rfl (fun ls hl => ?_)
  refine lv_iconst (v := 2) hx hb dX9_product_2 (by decide) ?_
  refine lv_istore_n (lv' := [(3, .int (2 : Int32)), (1, .long (1 : Int64)), (0, .int p0)]) hx hb dX9_product_3 rfl hl (by decide) rfl (fun ls hl => ?_)
  exact b4  FU p0 (1 : Int64) (2 : Int32) _ _ _ hf hP hD hS (lv_sub hl [2, 1, 0] rfl)
abbrev rmX9_partOf : Room := { frames := 0, cells := 0, slots := 0, locals := 0 }
theorem hdX9_partOf : yX9_partOf.cls ≠ "java/lang/invoke/MethodHandle" ∧ yX9_partOf.cls ≠ "java/lang/invoke/VarHandle" ∧ (parseMethodDescriptor yX9_partOf.desc).map (fun d => d.parameters.length) = some 3 := by decide +kernel
def fX9_partOf_b47 (t0 : Int64) : Option Int64 := some t0
def fX9_partOf_b31 (x0 : Int64) (x2 : Int64) (x4 : Int32) (x5 : Int64) : Option Int64 := if x4 = 0 then (ht_gd (ht_nzL x5) (fX9_partOf_b47 (x0 / x5))) else (ht_gd (ht_nzL x5) (fX9_partOf_b47 (x2 / x5)))
def fX9_partOf_b6 (k6 : Int64 → Int64 → Int32 → Int64 → Int64 → Option Int64) (x0 : Int64) (x2 : Int64) (x4 : Int32) (x5 : Int64) (x7 : Int64) : Option Int64 := if (lg_cmp x7 (0 : Int64)) = 0 then (fX9_partOf_b31 x0 x2 x4 x5) else (ht_gd (ht_nzL x7) (ht_nm (x5 - x5 / x7 * x7) (fun x9_6 => k6 x0 x2 x4 x7 x9_6)))
def fX9_partOf (p0 : Int64) (p1 : Int64) (p2 : Int32) : Option Int64 := ht_lp5 (fX9_partOf_b6) FU p0 p1 p2 p1 p0
set_option maxHeartbeats 1000000 in
set_option maxRecDepth 100000 in
theorem ctX9_partOf (l : Launch) (D : va_G) (K : Nat → ClassId)  (p0 : Int64) (p1 : Int64) (p2 : Int32) (o : Int64) (hf : fX9_partOf p0 p1 p2 = some o) (sz : Nat) : Met l yX9_partOf wsX9_partOf rmX9_partOf (ht_Pre D K [.long p0, .long p1, .int p2] [] sz) (ht_Ql D K [] o (va_A [] sz)) 0 0 (va_A [] sz) := by
  refine ht_enter (Qf := ht_Ql D K [] o) (cc := cX9_partOf) (maxL := 11) (rt := (some .long)) (by decide) rfl (Nat.le_of_ble_eq_true rfl) ?_ sz
  intro p e s m below meth c A Q H locs ls hQ hx hb hr hlk hmn hml hown hts hA hK hP hD hS hl
  have hown : s.vm.findClass RX9 = some m.cls := hown
  have hF : CallFix p m c cX9_partOf 11 s ([.long p0, .long p1, .int p2] : List Value).toArray wsX9_partOf RX9 := ⟨hx, hb, hml, hown, hts⟩
  have hl : lv_has ls 11 [(0, .long p0), (2, .long p1), (4, .int p2)] := hl
  have b47 : ∀ (t0 : Int64) (H : Heap) (locs : List Loc) (ls : Array Slot), fX9_partOf_b47 t0 = some o → va_P D vwCl [] H → va_D A [] → va_S A s.heap H locs → lv_has ls 11 [] → W p l e (headSpec wsX9_partOf rmX9_partOf).room s m ([.long p0, .long p1, .int p2] : List Value).toArray below meth c H locs 0 0 Q (F0 m 47 ls [.long t0]) := by
    intro t0 H locs ls hf hP hD hS hl
    delta fX9_partOf_b47 at hf
    have ho := Option.some.inj hf
    subst ho; subst hQ
    exact ht_lret hx hb hr hlk hK hP hD hS dX9_partOf_47
  have b31 : ∀ (x0 : Int64) (x2 : Int64) (x4 : Int32) (x5 : Int64) (H : Heap) (locs : List Loc) (ls : Array Slot), fX9_partOf_b31 x0 x2 x4 x5 = some o → va_P D vwCl [] H → va_D A [] → va_S A s.heap H locs → lv_has ls 11 [(0, .long x0), (2, .long x2), (4, .int x4), (5, .long x5)] → W p l e (headSpec wsX9_partOf rmX9_partOf).room s m ([.long p0, .long p1, .int p2] : List Value).toArray below meth c H locs 0 0 Q (F0 m 31 ls []) := by
    intro x0 x2 x4 x5 H locs ls hf hP hD hS hl
    delta fX9_partOf_b31 at hf
    refine lv_iload hx hb dX9_partOf_31 (lv_at hl 2 rfl) ?_
    refine lv_if_ne (tgt := 43) hx hb dX9_partOf_33 (by decide) (fun c_1 => ?_) (fun c_1 => ?_)
    · replace hf := ht_f c_1 hf
      refine lv_lload_n hx hb dX9_partOf_43 rfl (lv_at hl 1 rfl) ?_
      refine lv_lload hx hb dX9_partOf_44 (lv_at hl 3 rfl) ?_
      obtain ⟨g_2, hf⟩ := ht_gd_ob hf
      refine lv_ldiv hx hb dX9_partOf_46 (ht_nzL_ne g_2) ?_
      exact b47  (x2 / x5) _ _ _ hf hP hD hS (lv_sub hl [] rfl)
    · replace hf := ht_t c_1 hf
      refine lv_lload_n hx hb dX9_partOf_36 rfl (lv_at hl 0 rfl) ?_
      refine lv_lload hx hb dX9_partOf_37 (lv_at hl 3 rfl) ?_
      obtain ⟨g_3, hf⟩ := ht_gd_ob hf
      refine lv_ldiv hx hb dX9_partOf_39 (ht_nzL_ne g_3) ?_
      refine lv_goto (tgt := 47) hx hb dX9_partOf_40 (by decide) ?_
      exact b47  (x0 / x5) _ _ _ hf hP hD hS (lv_sub hl [] rfl)
  have b6 : ∀ (n : Nat) (x0 : Int64) (x2 : Int64) (x4 : Int32) (x5 : Int64) (x7 : Int64) (H : Heap) (locs : List Loc) (ls : Array Slot), ht_lp5 (fX9_partOf_b6) n x0 x2 x4 x5 x7 = some o → va_P D vwCl [] H → va_D A [] → va_S A s.heap H locs → lv_has ls 11 [(0, .long x0), (2, .long x2), (4, .int x4), (5, .long x5), (7, .long x7)] → W p l e (headSpec wsX9_partOf rmX9_partOf).room s m ([.long p0, .long p1, .int p2] : List Value).toArray below meth c H locs 0 0 Q (F0 m 6 ls []) := by
    intro n
    induction n with
    | zero =>
      intro x0 x2 x4 x5 x7 H locs ls hf hP hD hS hl
      cases (show (none : Option Int64) = some o from hf)
    | succ n hk6 =>
      intro x0 x2 x4 x5 x7 H locs ls hf hP hD hS hl
      replace hf : fX9_partOf_b6 (ht_lp5 (fX9_partOf_b6) n) x0 x2 x4 x5 x7 = some o := hf
      delta fX9_partOf_b6 at hf
      refine lv_lload hx hb dX9_partOf_6 (lv_at hl 4 rfl) ?_
      refine lv_lconst (v := 0) hx hb dX9_partOf_8 (by decide) ?_
      refine W.lcmp hx hb dX9_partOf_9 ?_
      refine lv_if_eq (tgt := 31) hx hb dX9_partOf_10 (by decide) (fun c_4 => ?_) (fun c_4 => ?_)
      · replace hf := ht_t c_4 hf
        exact b31  x0 x2 x4 x5 _ _ _ hf hP hD hS (lv_sub hl [0, 1, 2, 3] rfl)
      · replace hf := ht_f c_4 hf
        refine lv_lload hx hb dX9_partOf_13 (lv_at hl 3 rfl) ?_
        refine lv_lload hx hb dX9_partOf_15 (lv_at hl 4 rfl) ?_
        obtain ⟨g_5, hf⟩ := ht_gd_ob hf
        refine lv_lrem hx hb dX9_partOf_17 (ht_nzL_ne g_5) ?_
        obtain ⟨x9_6, ex9_6, hf⟩ := ht_nm_ob hf
        rw [← ex9_6]
        refine lv_lstore (lv' := [(9, .long x9_6), (0, .long x0), (2, .long x2), (4, .int x4), (5, .long x5), (7, .long x7)]) hx hb dX9_partOf_18 hl (by decide) rfl (fun ls hl => ?_)
        refine lv_lload hx hb dX9_partOf_20 (lv_at hl 5 rfl) ?_
        refine lv_lstore (lv' := [(5, .long x7), (9, .long x9_6), (0, .long x0), (2, .long x2), (4, .int x4), (7, .long x7)]) hx hb dX9_partOf_22 hl (by decide) rfl (fun ls hl => ?_)
        refine lv_lload hx hb dX9_partOf_24 (lv_at hl 1 rfl) ?_
        refine lv_lstore (lv' := [(7, .long x9_6), (5, .long x7), (9, .long x9_6), (0, .long x0), (2, .long x2), (4, .int x4)]) hx hb dX9_partOf_26 hl (by decide) rfl (fun ls hl => ?_)
        refine lv_goto (tgt := 6) hx hb dX9_partOf_28 (by decide) ?_
        exact hk6 x0 x2 x4 x7 x9_6 _ _ _ hf hP hD hS (lv_sub hl [3, 4, 5, 1, 0] rfl)
  delta fX9_partOf at hf
  refine lv_lload_n hx hb dX9_partOf_0 rfl (lv_at hl 1 rfl) ?_
  refine lv_lstore (lv' := [(5, .long p1), (0, .long p0), (2, .long p1), (4, .int p2)]) hx hb dX9_partOf_1 hl (by decide) rfl (fun ls hl => ?_)
  refine lv_lload_n hx hb dX9_partOf_3 rfl (lv_at hl 1 rfl) ?_
  refine lv_lstore (lv' := [(7, .long p0), (5, .long p1), (0, .long p0), (2, .long p1), (4, .int p2)]) hx hb dX9_partOf_4 hl (by decide) rfl (fun ls hl => ?_)
  exact b6  FU p0 p1 p2 p1 p0 _ _ _ hf hP hD hS (lv_sub hl [2, 3, 4, 1, 0] rfl)
abbrev rmX9_isSheet : Room := { frames := 1, cells := 0, slots := 0, locals := 25 }
theorem hdX9_isSheet : yX9_isSheet.cls ≠ "java/lang/invoke/MethodHandle" ∧ yX9_isSheet.cls ≠ "java/lang/invoke/VarHandle" ∧ (parseMethodDescriptor yX9_isSheet.desc).map (fun d => d.parameters.length) = some 1 := by decide +kernel
def fX9_isSheet (p0 : Int32) : Option Int32 := ht_bn (fX9_isIn p0.toInt64 (0 : Int64) (3 : Int64)) (fun o_1 => ht_gd (ht_bz o_1) (some o_1))
set_option maxHeartbeats 1000000 in
set_option maxRecDepth 100000 in
theorem ctX9_isSheet (l : Launch) (D : va_G) (K : Nat → ClassId)  (p0 : Int32) (o : Int32) (hf : fX9_isSheet p0 = some o) (sz : Nat) : Met l yX9_isSheet wsX9_isSheet rmX9_isSheet (ht_Pre D K [.int p0] [] sz) (ht_Qi D K [] o (va_A [] sz)) 0 0 (va_A [] sz) := by
  refine ht_enter (Qf := ht_Qi D K [] o) (cc := cX9_isSheet) (maxL := 1) (rt := (some .boolean)) (by decide) rfl (Nat.le_of_ble_eq_true rfl) ?_ sz
  intro p e s m below meth c A Q H locs ls hQ hx hb hr hlk hmn hml hown hts hA hK hP hD hS hl
  have hown : s.vm.findClass RX9 = some m.cls := hown
  have hF : CallFix p m c cX9_isSheet 1 s ([.int p0] : List Value).toArray wsX9_isSheet RX9 := ⟨hx, hb, hml, hown, hts⟩
  have hl : lv_has ls 1 [(0, .int p0)] := hl
  have kw0 := hts (.constantLong RX9 160 (3)) (by decide +kernel)
  delta fX9_isSheet at hf
  refine lv_iload_n hx hb dX9_isSheet_0 rfl (lv_at hl 0 rfl) ?_
  refine lv_i2l hx hb dX9_isSheet_1 rfl ?_
  refine lv_lconst (v := 0) hx hb dX9_isSheet_2 (by decide) ?_
  refine lv_ldc2 hx hb hown kw0 dX9_isSheet_3 ?_
  obtain ⟨o_1, ho_1, hf⟩ := ht_bn_ob hf
  refine ht_callSi (r := o_1) (rest := []) (As := [.long p0.toInt64, .long (0 : Int64), .long (3 : Int64)]) (wc := []) (wr := []) (w1 := []) (w2 := []) hF (ctX9_isIn l D K p0.toInt64 (0 : Int64) (3 : Int64) o_1 ho_1 H.size) (va_cwS 3 hts gX9_isSheet_X9_isIn rfl rfl rfl hdX9_isIn ⟨Nat.le_of_ble_eq_true rfl, Nat.le_of_ble_eq_true rfl⟩) hK hP hD hS hA [] [] rfl rfl (by decide) (by decide) (by decide) [] rfl (by decide) rfl hl.1 rfl (Nat.le_of_ble_eq_true rfl) dX9_isSheet_6 ⟨Nat.zero_le _, Nat.zero_le _⟩ (fun H locs hP hD hS => ?_)
  obtain ⟨g_2, hf⟩ := ht_gd_ob hf
  have ho := Option.some.inj hf
  subst ho; subst hQ
  exact ht_iret hx hb hr hlk (ht_bz_nar g_2) hK hP hD hS dX9_isSheet_9
abbrev rmX9_isShelf : Room := { frames := 1, cells := 0, slots := 0, locals := 25 }
theorem hdX9_isShelf : yX9_isShelf.cls ≠ "java/lang/invoke/MethodHandle" ∧ yX9_isShelf.cls ≠ "java/lang/invoke/VarHandle" ∧ (parseMethodDescriptor yX9_isShelf.desc).map (fun d => d.parameters.length) = some 1 := by decide +kernel
def fX9_isShelf (p0 : Int32) : Option Int32 := ht_bn (fX9_isIn p0.toInt64 (0 : Int64) (3 : Int64)) (fun o_1 => ht_gd (ht_bz o_1) (some o_1))
set_option maxHeartbeats 1000000 in
set_option maxRecDepth 100000 in
theorem ctX9_isShelf (l : Launch) (D : va_G) (K : Nat → ClassId)  (p0 : Int32) (o : Int32) (hf : fX9_isShelf p0 = some o) (sz : Nat) : Met l yX9_isShelf wsX9_isShelf rmX9_isShelf (ht_Pre D K [.int p0] [] sz) (ht_Qi D K [] o (va_A [] sz)) 0 0 (va_A [] sz) := by
  refine ht_enter (Qf := ht_Qi D K [] o) (cc := cX9_isShelf) (maxL := 1) (rt := (some .boolean)) (by decide) rfl (Nat.le_of_ble_eq_true rfl) ?_ sz
  intro p e s m below meth c A Q H locs ls hQ hx hb hr hlk hmn hml hown hts hA hK hP hD hS hl
  have hown : s.vm.findClass RX9 = some m.cls := hown
  have hF : CallFix p m c cX9_isShelf 1 s ([.int p0] : List Value).toArray wsX9_isShelf RX9 := ⟨hx, hb, hml, hown, hts⟩
  have hl : lv_has ls 1 [(0, .int p0)] := hl
  have kw0 := hts (.constantLong RX9 160 (3)) (by decide +kernel)
  delta fX9_isShelf at hf
  refine lv_iload_n hx hb dX9_isShelf_0 rfl (lv_at hl 0 rfl) ?_
  refine lv_i2l hx hb dX9_isShelf_1 rfl ?_
  refine lv_lconst (v := 0) hx hb dX9_isShelf_2 (by decide) ?_
  refine lv_ldc2 hx hb hown kw0 dX9_isShelf_3 ?_
  obtain ⟨o_1, ho_1, hf⟩ := ht_bn_ob hf
  refine ht_callSi (r := o_1) (rest := []) (As := [.long p0.toInt64, .long (0 : Int64), .long (3 : Int64)]) (wc := []) (wr := []) (w1 := []) (w2 := []) hF (ctX9_isIn l D K p0.toInt64 (0 : Int64) (3 : Int64) o_1 ho_1 H.size) (va_cwS 3 hts gX9_isShelf_X9_isIn rfl rfl rfl hdX9_isIn ⟨Nat.le_of_ble_eq_true rfl, Nat.le_of_ble_eq_true rfl⟩) hK hP hD hS hA [] [] rfl rfl (by decide) (by decide) (by decide) [] rfl (by decide) rfl hl.1 rfl (Nat.le_of_ble_eq_true rfl) dX9_isShelf_6 ⟨Nat.zero_le _, Nat.zero_le _⟩ (fun H locs hP hD hS => ?_)
  obtain ⟨g_2, hf⟩ := ht_gd_ob hf
  have ho := Option.some.inj hf
  subst ho; subst hQ
  exact ht_iret hx hb hr hlk (ht_bz_nar g_2) hK hP hD hS dX9_isShelf_9
abbrev rmX9_begins : Room := { frames := 0, cells := 0, slots := 0, locals := 0 }
theorem hdX9_begins : yX9_begins.cls = RX9 ∧ yX9_begins.cls ≠ "java/lang/invoke/MethodHandle" ∧ yX9_begins.cls ≠ "java/lang/invoke/VarHandle" ∧ (parseMethodDescriptor yX9_begins.desc).map (fun d => d.parameters.length) = some 0 := by decide +kernel
def fX9_begins_b28 (RM : ModV) (x1 : Int32) (vM_s : AI) : Option AI := ht_gd (ht_ix (2 : Int32) 57) (ht_nm (upd vM_s (2 : Int32).toNatClampNeg x1) (fun vM_s_2 => ht_gd (ht_ix (5 : Int32) 57) (ht_nm (upd vM_s_2 (5 : Int32).toNatClampNeg (2 : Int32)) (fun vM_s_4 => ht_gd (ht_ix (6 : Int32) 57) (ht_nm (upd vM_s_4 (6 : Int32).toNatClampNeg (1 : Int32)) (fun vM_s_6 => ht_gd (ht_ix (7 : Int32) 57) (ht_nm (upd vM_s_6 (7 : Int32).toNatClampNeg (3 : Int32)) (fun vM_s_8 => ht_gd (ht_ix (8 : Int32) 57) (ht_nm (upd vM_s_8 (8 : Int32).toNatClampNeg (20 : Int32)) (fun vM_s_10 => some vM_s_10))))))))))
def fX9_begins_b9 (RM : ModV) (k9 : Int32 → Int32 → AI → Option AI) (x1 : Int32) (x2 : Int32) (vM_s : AI) : Option AI := if (57 : Int32) ≤ x2 then (fX9_begins_b28 RM x1 vM_s) else (ht_gd (ht_ix x2 57) (ht_nm (upd vM_s x2.toNatClampNeg (0 : Int32)) (fun vM_s_13 => ht_nm (x2 + (1 : Int32)) (fun x2_14 => k9 x1 x2_14 vM_s_13))))
def fX9_begins (RM : ModV) : Option AI := ht_gd (ht_ix (2 : Int32) 57) (ht_nm (RM.s (2 : Int32).toNatClampNeg) (fun x1_16 => ht_lp3 (fX9_begins_b9 RM) FU x1_16 (0 : Int32) RM.s))
set_option maxHeartbeats 1000000 in
set_option maxRecDepth 100000 in
theorem ctX9_begins (l : Launch) (D : va_G) (K : Nat → ClassId) (jM : Nat) (aM : Nat → Nat) (RM : ModV) (o : AI) (hf : fX9_begins RM = some o) (sz : Nat) : Met l yX9_begins wsX9_begins rmX9_begins (ht_Pre D K [.ref jM] (wMo K jM aM RM.s RM.held RM.aside RM.before RM.isHeld RM.tape RM.taped RM.token RM.frm RM.to RM.value RM.isWrong RM.unpaired RM.bestSound RM.bestWay RM.rows RM.rowN RM.sortOf RM.sizeOf RM.numbers RM.holdsWhat RM.holdsWhich RM.holdsMany RM.bodies RM.ran RM.actKind RM.actN RM.actA RM.isParted) sz) (ht_Qv D K (wMo K jM aM o RM.held RM.aside RM.before RM.isHeld RM.tape RM.taped RM.token RM.frm RM.to RM.value RM.isWrong RM.unpaired RM.bestSound RM.bestWay RM.rows RM.rowN RM.sortOf RM.sizeOf RM.numbers RM.holdsWhat RM.holdsWhich RM.holdsMany RM.bodies RM.ran RM.actKind RM.actN RM.actA RM.isParted) (va_A (wMo K jM aM RM.s RM.held RM.aside RM.before RM.isHeld RM.tape RM.taped RM.token RM.frm RM.to RM.value RM.isWrong RM.unpaired RM.bestSound RM.bestWay RM.rows RM.rowN RM.sortOf RM.sizeOf RM.numbers RM.holdsWhat RM.holdsWhich RM.holdsMany RM.bodies RM.ran RM.actKind RM.actN RM.actA RM.isParted) sz)) 0 0 (va_A (wMo K jM aM RM.s RM.held RM.aside RM.before RM.isHeld RM.tape RM.taped RM.token RM.frm RM.to RM.value RM.isWrong RM.unpaired RM.bestSound RM.bestWay RM.rows RM.rowN RM.sortOf RM.sizeOf RM.numbers RM.holdsWhat RM.holdsWhich RM.holdsMany RM.bodies RM.ran RM.actKind RM.actN RM.actA RM.isParted) sz) := by
  refine ht_enter (Qf := ht_Qv D K (wMo K jM aM o RM.held RM.aside RM.before RM.isHeld RM.tape RM.taped RM.token RM.frm RM.to RM.value RM.isWrong RM.unpaired RM.bestSound RM.bestWay RM.rows RM.rowN RM.sortOf RM.sizeOf RM.numbers RM.holdsWhat RM.holdsWhich RM.holdsMany RM.bodies RM.ran RM.actKind RM.actN RM.actA RM.isParted)) (cc := cX9_begins) (maxL := 3) (rt := none) (by decide) rfl (Nat.le_of_ble_eq_true rfl) ?_ sz
  intro p e s m below meth c A Q H locs ls hQ hx hb hr hlk hmn hml hown hts hA hK hP hD hS hl
  have hown : s.vm.findClass RX9 = some m.cls := hown
  have hF : CallFix p m c cX9_begins 3 s ([.ref jM] : List Value).toArray wsX9_begins RX9 := ⟨hx, hb, hml, hown, hts⟩
  have hl : lv_has ls 3 [(0, .ref jM)] := hl
  have iw9 : ∀ w ∈ u_ws RX9 TX9 29, w ∈ wsX9_begins := by decide +kernel
  have kw1 := hts (.fieldLink RX9 7 "HeldTonguesModel" "s" "[I") (by decide +kernel)
  have b28 : ∀ (x1 : Int32) (vM_s : AI) (H : Heap) (locs : List Loc) (ls : Array Slot), fX9_begins_b28 RM x1 vM_s = some o → va_P D vwCl (wMo K jM aM vM_s RM.held RM.aside RM.before RM.isHeld RM.tape RM.taped RM.token RM.frm RM.to RM.value RM.isWrong RM.unpaired RM.bestSound RM.bestWay RM.rows RM.rowN RM.sortOf RM.sizeOf RM.numbers RM.holdsWhat RM.holdsWhich RM.holdsMany RM.bodies RM.ran RM.actKind RM.actN RM.actA RM.isParted) H → va_D A (wMo K jM aM vM_s RM.held RM.aside RM.before RM.isHeld RM.tape RM.taped RM.token RM.frm RM.to RM.value RM.isWrong RM.unpaired RM.bestSound RM.bestWay RM.rows RM.rowN RM.sortOf RM.sizeOf RM.numbers RM.holdsWhat RM.holdsWhich RM.holdsMany RM.bodies RM.ran RM.actKind RM.actN RM.actA RM.isParted) → va_S A s.heap H locs → lv_has ls 3 [(0, .ref jM), (1, .int x1)] → W p l e (headSpec wsX9_begins rmX9_begins).room s m ([.ref jM] : List Value).toArray below meth c H locs 0 0 Q (F0 m 28 ls []) := by
    intro x1 vM_s H locs ls hf hP hD hS hl
    delta fX9_begins_b28 at hf
    refine lv_aload_n hx hb dX9_begins_28 rfl (lv_at hl 0 rfl) ?_
    refine va_get (D := D) (ci := 9) (v := .ref (aM 0)) (C := RX9) (T := TX9) (N := 29) hx hb hts iw9 hown hK hP 0 rfl rfl 0 (by decide) kw1 (fun _ h9 => h9) rfl dX9_begins_29 ?_
    refine lv_iconst (v := 2) hx hb dX9_begins_32 (by decide) ?_
    refine lv_iload_n hx hb dX9_begins_33 rfl (lv_at hl 1 rfl) ?_
    obtain ⟨g_1, hf⟩ := ht_gd_ob hf
    obtain ⟨vM_s_2, evM_s_2, hf⟩ := ht_nm_ob hf
    refine ht_iast (w2 := (wMo K jM aM vM_s_2 RM.held RM.aside RM.before RM.isHeld RM.tape RM.taped RM.token RM.frm RM.to RM.value RM.isWrong RM.unpaired RM.bestSound RM.bestWay RM.rows RM.rowN RM.sortOf RM.sizeOf RM.numbers RM.holdsWhat RM.holdsWhich RM.holdsMany RM.bodies RM.ran RM.actKind RM.actN RM.actA RM.isParted)) hx hb hK hP hD hS 1 1 rfl rfl g_1 dX9_begins_34 evM_s_2 rfl (fun H locs hP hD hS => ?_)
    refine lv_aload_n hx hb dX9_begins_35 rfl (lv_at hl 0 rfl) ?_
    refine va_get (D := D) (ci := 9) (v := .ref (aM 0)) (C := RX9) (T := TX9) (N := 29) hx hb hts iw9 hown hK hP 0 rfl rfl 0 (by decide) kw1 (fun _ h9 => h9) rfl dX9_begins_36 ?_
    refine lv_iconst (v := 5) hx hb dX9_begins_39 (by decide) ?_
    refine lv_iconst (v := 2) hx hb dX9_begins_40 (by decide) ?_
    obtain ⟨g_3, hf⟩ := ht_gd_ob hf
    obtain ⟨vM_s_4, evM_s_4, hf⟩ := ht_nm_ob hf
    refine ht_iast (w2 := (wMo K jM aM vM_s_4 RM.held RM.aside RM.before RM.isHeld RM.tape RM.taped RM.token RM.frm RM.to RM.value RM.isWrong RM.unpaired RM.bestSound RM.bestWay RM.rows RM.rowN RM.sortOf RM.sizeOf RM.numbers RM.holdsWhat RM.holdsWhich RM.holdsMany RM.bodies RM.ran RM.actKind RM.actN RM.actA RM.isParted)) hx hb hK hP hD hS 1 1 rfl rfl g_3 dX9_begins_41 evM_s_4 rfl (fun H locs hP hD hS => ?_)
    refine lv_aload_n hx hb dX9_begins_42 rfl (lv_at hl 0 rfl) ?_
    refine va_get (D := D) (ci := 9) (v := .ref (aM 0)) (C := RX9) (T := TX9) (N := 29) hx hb hts iw9 hown hK hP 0 rfl rfl 0 (by decide) kw1 (fun _ h9 => h9) rfl dX9_begins_43 ?_
    refine lv_bipush (v := 6) hx hb dX9_begins_46 (by decide) ?_
    refine lv_iconst (v := 1) hx hb dX9_begins_48 (by decide) ?_
    obtain ⟨g_5, hf⟩ := ht_gd_ob hf
    obtain ⟨vM_s_6, evM_s_6, hf⟩ := ht_nm_ob hf
    refine ht_iast (w2 := (wMo K jM aM vM_s_6 RM.held RM.aside RM.before RM.isHeld RM.tape RM.taped RM.token RM.frm RM.to RM.value RM.isWrong RM.unpaired RM.bestSound RM.bestWay RM.rows RM.rowN RM.sortOf RM.sizeOf RM.numbers RM.holdsWhat RM.holdsWhich RM.holdsMany RM.bodies RM.ran RM.actKind RM.actN RM.actA RM.isParted)) hx hb hK hP hD hS 1 1 rfl rfl g_5 dX9_begins_49 evM_s_6 rfl (fun H locs hP hD hS => ?_)
    refine lv_aload_n hx hb dX9_begins_50 rfl (lv_at hl 0 rfl) ?_
    refine va_get (D := D) (ci := 9) (v := .ref (aM 0)) (C := RX9) (T := TX9) (N := 29) hx hb hts iw9 hown hK hP 0 rfl rfl 0 (by decide) kw1 (fun _ h9 => h9) rfl dX9_begins_51 ?_
    refine lv_bipush (v := 7) hx hb dX9_begins_54 (by decide) ?_
    refine lv_iconst (v := 3) hx hb dX9_begins_56 (by decide) ?_
    obtain ⟨g_7, hf⟩ := ht_gd_ob hf
    obtain ⟨vM_s_8, evM_s_8, hf⟩ := ht_nm_ob hf
    refine ht_iast (w2 := (wMo K jM aM vM_s_8 RM.held RM.aside RM.before RM.isHeld RM.tape RM.taped RM.token RM.frm RM.to RM.value RM.isWrong RM.unpaired RM.bestSound RM.bestWay RM.rows RM.rowN RM.sortOf RM.sizeOf RM.numbers RM.holdsWhat RM.holdsWhich RM.holdsMany RM.bodies RM.ran RM.actKind RM.actN RM.actA RM.isParted)) hx hb hK hP hD hS 1 1 rfl rfl g_7 dX9_begins_57 evM_s_8 rfl (fun H locs hP hD hS => ?_)
    refine lv_aload_n hx hb dX9_begins_58 rfl (lv_at hl 0 rfl) ?_
    refine va_get (D := D) (ci := 9) (v := .ref (aM 0)) (C := RX9) (T := TX9) (N := 29) hx hb hts iw9 hown hK hP 0 rfl rfl 0 (by decide) kw1 (fun _ h9 => h9) rfl dX9_begins_59 ?_
    refine lv_bipush (v := 8) hx hb dX9_begins_62 (by decide) ?_
    refine lv_bipush (v := 20) hx hb dX9_begins_64 (by decide) ?_
    obtain ⟨g_9, hf⟩ := ht_gd_ob hf
    obtain ⟨vM_s_10, evM_s_10, hf⟩ := ht_nm_ob hf
    refine ht_iast (w2 := (wMo K jM aM vM_s_10 RM.held RM.aside RM.before RM.isHeld RM.tape RM.taped RM.token RM.frm RM.to RM.value RM.isWrong RM.unpaired RM.bestSound RM.bestWay RM.rows RM.rowN RM.sortOf RM.sizeOf RM.numbers RM.holdsWhat RM.holdsWhich RM.holdsMany RM.bodies RM.ran RM.actKind RM.actN RM.actA RM.isParted)) hx hb hK hP hD hS 1 1 rfl rfl g_9 dX9_begins_66 evM_s_10 rfl (fun H locs hP hD hS => ?_)
    have ho := Option.some.inj hf
    subst ho; subst hQ
    exact ht_vret hx hb hr hlk hK hP hD hS dX9_begins_67
  have b9 : ∀ (n : Nat) (x1 : Int32) (x2 : Int32) (vM_s : AI) (H : Heap) (locs : List Loc) (ls : Array Slot), ht_lp3 (fX9_begins_b9 RM) n x1 x2 vM_s = some o → va_P D vwCl (wMo K jM aM vM_s RM.held RM.aside RM.before RM.isHeld RM.tape RM.taped RM.token RM.frm RM.to RM.value RM.isWrong RM.unpaired RM.bestSound RM.bestWay RM.rows RM.rowN RM.sortOf RM.sizeOf RM.numbers RM.holdsWhat RM.holdsWhich RM.holdsMany RM.bodies RM.ran RM.actKind RM.actN RM.actA RM.isParted) H → va_D A (wMo K jM aM vM_s RM.held RM.aside RM.before RM.isHeld RM.tape RM.taped RM.token RM.frm RM.to RM.value RM.isWrong RM.unpaired RM.bestSound RM.bestWay RM.rows RM.rowN RM.sortOf RM.sizeOf RM.numbers RM.holdsWhat RM.holdsWhich RM.holdsMany RM.bodies RM.ran RM.actKind RM.actN RM.actA RM.isParted) → va_S A s.heap H locs → lv_has ls 3 [(0, .ref jM), (1, .int x1), (2, .int x2)] → W p l e (headSpec wsX9_begins rmX9_begins).room s m ([.ref jM] : List Value).toArray below meth c H locs 0 0 Q (F0 m 9 ls []) := by
    intro n
    induction n with
    | zero =>
      intro x1 x2 vM_s H locs ls hf hP hD hS hl
      cases (show (none : Option AI) = some o from hf)
    | succ n hk9 =>
      intro x1 x2 vM_s H locs ls hf hP hD hS hl
      replace hf : fX9_begins_b9 RM (ht_lp3 (fX9_begins_b9 RM) n) x1 x2 vM_s = some o := hf
      delta fX9_begins_b9 at hf
      refine lv_iload_n hx hb dX9_begins_9 rfl (lv_at hl 2 rfl) ?_
      refine lv_bipush (v := 57) hx hb dX9_begins_10 (by decide) ?_
      refine lv_icmp_ge (tgt := 28) hx hb dX9_begins_12 (by decide) (fun c_11 => ?_) (fun c_11 => ?_)
      · replace hf := ht_t c_11 hf
        exact b28  x1 vM_s _ _ _ hf hP hD hS (lv_sub hl [0, 1] rfl)
      · replace hf := ht_f c_11 hf
        refine lv_aload_n hx hb dX9_begins_15 rfl (lv_at hl 0 rfl) ?_
        refine va_get (D := D) (ci := 9) (v := .ref (aM 0)) (C := RX9) (T := TX9) (N := 29) hx hb hts iw9 hown hK hP 0 rfl rfl 0 (by decide) kw1 (fun _ h9 => h9) rfl dX9_begins_16 ?_
        refine lv_iload_n hx hb dX9_begins_19 rfl (lv_at hl 2 rfl) ?_
        refine lv_iconst (v := 0) hx hb dX9_begins_20 (by decide) ?_
        obtain ⟨g_12, hf⟩ := ht_gd_ob hf
        obtain ⟨vM_s_13, evM_s_13, hf⟩ := ht_nm_ob hf
        refine ht_iast (w2 := (wMo K jM aM vM_s_13 RM.held RM.aside RM.before RM.isHeld RM.tape RM.taped RM.token RM.frm RM.to RM.value RM.isWrong RM.unpaired RM.bestSound RM.bestWay RM.rows RM.rowN RM.sortOf RM.sizeOf RM.numbers RM.holdsWhat RM.holdsWhich RM.holdsMany RM.bodies RM.ran RM.actKind RM.actN RM.actA RM.isParted)) hx hb hK hP hD hS 1 1 rfl rfl g_12 dX9_begins_21 evM_s_13 rfl (fun H locs hP hD hS => ?_)
        obtain ⟨x2_14, ex2_14, hf⟩ := ht_nm_ob hf
        refine lv_iinc (v := x2_14) (lv' := [(2, .int x2_14), (0, .ref jM), (1, .int x1)]) hx hb dX9_begins_22 hl (k := 2) rfl (by rw [ex2_14]; rfl) (by decide) rfl (fun ls hl => ?_)
        refine lv_goto (tgt := 9) hx hb dX9_begins_25 (by decide) ?_
        exact hk9 x1 x2_14 vM_s_13 _ _ _ hf hP hD hS (lv_sub hl [1, 2, 0] rfl)
  delta fX9_begins at hf
  refine lv_aload_n hx hb dX9_begins_0 rfl (lv_at hl 0 rfl) ?_
  refine va_get (D := D) (ci := 9) (v := .ref (aM 0)) (C := RX9) (T := TX9) (N := 29) hx hb hts iw9 hown hK hP 0 rfl rfl 0 (by decide) kw1 (fun _ h9 => h9) rfl dX9_begins_1 ?_
  refine lv_iconst (v := 2) hx hb dX9_begins_4 (by decide) ?_
  obtain ⟨g_15, hf⟩ := ht_gd_ob hf
  refine va_iald hx hb hK hP 1 1 rfl rfl (ht_ix_in g_15) dX9_begins_5 ?_
  obtain ⟨x1_16, ex1_16, hf⟩ := ht_nm_ob hf
  rw [← ex1_16]
  refine lv_istore_n (lv' := [(1, .int x1_16), (0, .ref jM)]) hx hb dX9_begins_6 rfl hl (by decide) rfl (fun ls hl => ?_)
  refine lv_iconst (v := 0) hx hb dX9_begins_7 (by decide) ?_
  refine lv_istore_n (lv' := [(2, .int (0 : Int32)), (1, .int x1_16), (0, .ref jM)]) hx hb dX9_begins_8 rfl hl (by decide) rfl (fun ls hl => ?_)
  exact b9  FU x1_16 (0 : Int32) RM.s _ _ _ hf hP hD hS (lv_sub hl [2, 1, 0] rfl)
abbrev rmX9_isOne : Room := { frames := 0, cells := 0, slots := 0, locals := 0 }
theorem hdX9_isOne : yX9_isOne.cls = RX9 ∧ yX9_isOne.cls ≠ "java/lang/invoke/MethodHandle" ∧ yX9_isOne.cls ≠ "java/lang/invoke/VarHandle" ∧ (parseMethodDescriptor yX9_isOne.desc).map (fun d => d.parameters.length) = some 1 := by decide +kernel
def fX9_isOne (RM : ModV) (p0 : Int32) : Option Int32 := if p0 < 0 then (some (0 : Int32)) else (ht_gd (ht_ix (0 : Int32) 57) (if (RM.s (0 : Int32).toNatClampNeg) ≤ p0 then (some (0 : Int32)) else (some (1 : Int32))))
set_option maxHeartbeats 1000000 in
set_option maxRecDepth 100000 in
theorem ctX9_isOne (l : Launch) (D : va_G) (K : Nat → ClassId) (jM : Nat) (aM : Nat → Nat) (RM : ModV) (p0 : Int32) (o : Int32) (hf : fX9_isOne RM p0 = some o) (sz : Nat) : Met l yX9_isOne wsX9_isOne rmX9_isOne (ht_Pre D K [.ref jM, .int p0] (wMo K jM aM RM.s RM.held RM.aside RM.before RM.isHeld RM.tape RM.taped RM.token RM.frm RM.to RM.value RM.isWrong RM.unpaired RM.bestSound RM.bestWay RM.rows RM.rowN RM.sortOf RM.sizeOf RM.numbers RM.holdsWhat RM.holdsWhich RM.holdsMany RM.bodies RM.ran RM.actKind RM.actN RM.actA RM.isParted) sz) (ht_Qi D K (wMo K jM aM RM.s RM.held RM.aside RM.before RM.isHeld RM.tape RM.taped RM.token RM.frm RM.to RM.value RM.isWrong RM.unpaired RM.bestSound RM.bestWay RM.rows RM.rowN RM.sortOf RM.sizeOf RM.numbers RM.holdsWhat RM.holdsWhich RM.holdsMany RM.bodies RM.ran RM.actKind RM.actN RM.actA RM.isParted) o (va_A (wMo K jM aM RM.s RM.held RM.aside RM.before RM.isHeld RM.tape RM.taped RM.token RM.frm RM.to RM.value RM.isWrong RM.unpaired RM.bestSound RM.bestWay RM.rows RM.rowN RM.sortOf RM.sizeOf RM.numbers RM.holdsWhat RM.holdsWhich RM.holdsMany RM.bodies RM.ran RM.actKind RM.actN RM.actA RM.isParted) sz)) 0 0 (va_A (wMo K jM aM RM.s RM.held RM.aside RM.before RM.isHeld RM.tape RM.taped RM.token RM.frm RM.to RM.value RM.isWrong RM.unpaired RM.bestSound RM.bestWay RM.rows RM.rowN RM.sortOf RM.sizeOf RM.numbers RM.holdsWhat RM.holdsWhich RM.holdsMany RM.bodies RM.ran RM.actKind RM.actN RM.actA RM.isParted) sz) := by
  refine ht_enter (Qf := ht_Qi D K (wMo K jM aM RM.s RM.held RM.aside RM.before RM.isHeld RM.tape RM.taped RM.token RM.frm RM.to RM.value RM.isWrong RM.unpaired RM.bestSound RM.bestWay RM.rows RM.rowN RM.sortOf RM.sizeOf RM.numbers RM.holdsWhat RM.holdsWhich RM.holdsMany RM.bodies RM.ran RM.actKind RM.actN RM.actA RM.isParted) o) (cc := cX9_isOne) (maxL := 2) (rt := (some .boolean)) (by decide) rfl (Nat.le_of_ble_eq_true rfl) ?_ sz
  intro p e s m below meth c A Q H locs ls hQ hx hb hr hlk hmn hml hown hts hA hK hP hD hS hl
  have hown : s.vm.findClass RX9 = some m.cls := hown
  have hF : CallFix p m c cX9_isOne 2 s ([.ref jM, .int p0] : List Value).toArray wsX9_isOne RX9 := ⟨hx, hb, hml, hown, hts⟩
  have hl : lv_has ls 2 [(0, .ref jM), (1, .int p0)] := hl
  have iw9 : ∀ w ∈ u_ws RX9 TX9 29, w ∈ wsX9_isOne := by decide +kernel
  have kw1 := hts (.fieldLink RX9 7 "HeldTonguesModel" "s" "[I") (by decide +kernel)
  delta fX9_isOne at hf
  refine lv_iload_n hx hb dX9_isOne_0 rfl (lv_at hl 1 rfl) ?_
  refine lv_if_lt (tgt := 18) hx hb dX9_isOne_1 (by decide) (fun c_1 => ?_) (fun c_1 => ?_)
  · replace hf := ht_t c_1 hf
    refine lv_iconst (v := 0) hx hb dX9_isOne_18 (by decide) ?_
    have ho := Option.some.inj hf
    subst ho; subst hQ
    exact ht_iret hx hb hr hlk (show narrow .boolean (.int (0 : Int32)) = .int (0 : Int32) from rfl) hK hP hD hS dX9_isOne_19
  · replace hf := ht_f c_1 hf
    refine lv_iload_n hx hb dX9_isOne_4 rfl (lv_at hl 1 rfl) ?_
    refine lv_aload_n hx hb dX9_isOne_5 rfl (lv_at hl 0 rfl) ?_
    refine va_get (D := D) (ci := 9) (v := .ref (aM 0)) (C := RX9) (T := TX9) (N := 29) hx hb hts iw9 hown hK hP 0 rfl rfl 0 (by decide) kw1 (fun _ h9 => h9) rfl dX9_isOne_6 ?_
    refine lv_iconst (v := 0) hx hb dX9_isOne_9 (by decide) ?_
    obtain ⟨g_2, hf⟩ := ht_gd_ob hf
    refine va_iald hx hb hK hP 1 1 rfl rfl (ht_ix_in g_2) dX9_isOne_10 ?_
    refine lv_icmp_ge (tgt := 18) hx hb dX9_isOne_11 (by decide) (fun c_3 => ?_) (fun c_3 => ?_)
    · replace hf := ht_t c_3 hf
      refine lv_iconst (v := 0) hx hb dX9_isOne_18 (by decide) ?_
      have ho := Option.some.inj hf
      subst ho; subst hQ
      exact ht_iret hx hb hr hlk (show narrow .boolean (.int (0 : Int32)) = .int (0 : Int32) from rfl) hK hP hD hS dX9_isOne_19
    · replace hf := ht_f c_3 hf
      refine lv_iconst (v := 1) hx hb dX9_isOne_14 (by decide) ?_
      refine lv_goto (tgt := 19) hx hb dX9_isOne_15 (by decide) ?_
      have ho := Option.some.inj hf
      subst ho; subst hQ
      exact ht_iret hx hb hr hlk (show narrow .boolean (.int (1 : Int32)) = .int (1 : Int32) from rfl) hK hP hD hS dX9_isOne_19
abbrev rmX9_its : Room := { frames := 0, cells := 0, slots := 0, locals := 0 }
theorem hdX9_its : yX9_its.cls = RX9 ∧ yX9_its.cls ≠ "java/lang/invoke/MethodHandle" ∧ yX9_its.cls ≠ "java/lang/invoke/VarHandle" ∧ (parseMethodDescriptor yX9_its.desc).map (fun d => d.parameters.length) = some 2 := by decide +kernel
def fX9_its (RM : ModV) (p0 : Int32) (p1 : Int32) : Option Int32 := ht_gd (ht_ix (((9 : Int32) + ((6 : Int32) * p0)) + p1) 57) (some (RM.s (((9 : Int32) + ((6 : Int32) * p0)) + p1).toNatClampNeg))
set_option maxHeartbeats 1000000 in
set_option maxRecDepth 100000 in
theorem ctX9_its (l : Launch) (D : va_G) (K : Nat → ClassId) (jM : Nat) (aM : Nat → Nat) (RM : ModV) (p0 : Int32) (p1 : Int32) (o : Int32) (hf : fX9_its RM p0 p1 = some o) (sz : Nat) : Met l yX9_its wsX9_its rmX9_its (ht_Pre D K [.ref jM, .int p0, .int p1] (wMo K jM aM RM.s RM.held RM.aside RM.before RM.isHeld RM.tape RM.taped RM.token RM.frm RM.to RM.value RM.isWrong RM.unpaired RM.bestSound RM.bestWay RM.rows RM.rowN RM.sortOf RM.sizeOf RM.numbers RM.holdsWhat RM.holdsWhich RM.holdsMany RM.bodies RM.ran RM.actKind RM.actN RM.actA RM.isParted) sz) (ht_Qi D K (wMo K jM aM RM.s RM.held RM.aside RM.before RM.isHeld RM.tape RM.taped RM.token RM.frm RM.to RM.value RM.isWrong RM.unpaired RM.bestSound RM.bestWay RM.rows RM.rowN RM.sortOf RM.sizeOf RM.numbers RM.holdsWhat RM.holdsWhich RM.holdsMany RM.bodies RM.ran RM.actKind RM.actN RM.actA RM.isParted) o (va_A (wMo K jM aM RM.s RM.held RM.aside RM.before RM.isHeld RM.tape RM.taped RM.token RM.frm RM.to RM.value RM.isWrong RM.unpaired RM.bestSound RM.bestWay RM.rows RM.rowN RM.sortOf RM.sizeOf RM.numbers RM.holdsWhat RM.holdsWhich RM.holdsMany RM.bodies RM.ran RM.actKind RM.actN RM.actA RM.isParted) sz)) 0 0 (va_A (wMo K jM aM RM.s RM.held RM.aside RM.before RM.isHeld RM.tape RM.taped RM.token RM.frm RM.to RM.value RM.isWrong RM.unpaired RM.bestSound RM.bestWay RM.rows RM.rowN RM.sortOf RM.sizeOf RM.numbers RM.holdsWhat RM.holdsWhich RM.holdsMany RM.bodies RM.ran RM.actKind RM.actN RM.actA RM.isParted) sz) := by
  refine ht_enter (Qf := ht_Qi D K (wMo K jM aM RM.s RM.held RM.aside RM.before RM.isHeld RM.tape RM.taped RM.token RM.frm RM.to RM.value RM.isWrong RM.unpaired RM.bestSound RM.bestWay RM.rows RM.rowN RM.sortOf RM.sizeOf RM.numbers RM.holdsWhat RM.holdsWhich RM.holdsMany RM.bodies RM.ran RM.actKind RM.actN RM.actA RM.isParted) o) (cc := cX9_its) (maxL := 3) (rt := (some .int)) (by decide) rfl (Nat.le_of_ble_eq_true rfl) ?_ sz
  intro p e s m below meth c A Q H locs ls hQ hx hb hr hlk hmn hml hown hts hA hK hP hD hS hl
  have hown : s.vm.findClass RX9 = some m.cls := hown
  have hF : CallFix p m c cX9_its 3 s ([.ref jM, .int p0, .int p1] : List Value).toArray wsX9_its RX9 := ⟨hx, hb, hml, hown, hts⟩
  have hl : lv_has ls 3 [(0, .ref jM), (1, .int p0), (2, .int p1)] := hl
  have iw9 : ∀ w ∈ u_ws RX9 TX9 29, w ∈ wsX9_its := by decide +kernel
  have kw1 := hts (.fieldLink RX9 7 "HeldTonguesModel" "s" "[I") (by decide +kernel)
  delta fX9_its at hf
  refine lv_aload_n hx hb dX9_its_0 rfl (lv_at hl 0 rfl) ?_
  refine va_get (D := D) (ci := 9) (v := .ref (aM 0)) (C := RX9) (T := TX9) (N := 29) hx hb hts iw9 hown hK hP 0 rfl rfl 0 (by decide) kw1 (fun _ h9 => h9) rfl dX9_its_1 ?_
  refine lv_bipush (v := 9) hx hb dX9_its_4 (by decide) ?_
  refine lv_bipush (v := 6) hx hb dX9_its_6 (by decide) ?_
  refine lv_iload_n hx hb dX9_its_8 rfl (lv_at hl 1 rfl) ?_
  refine lv_imul hx hb dX9_its_9 ?_
  refine lv_iadd hx hb dX9_its_10 ?_
  refine lv_iload_n hx hb dX9_its_11 rfl (lv_at hl 2 rfl) ?_
  refine lv_iadd hx hb dX9_its_12 ?_
  obtain ⟨g_1, hf⟩ := ht_gd_ob hf
  refine va_iald hx hb hK hP 1 1 rfl rfl (ht_ix_in g_1) dX9_its_13 ?_
  have ho := Option.some.inj hf
  subst ho; subst hQ
  exact ht_iret hx hb hr hlk rfl hK hP hD hS dX9_its_14
abbrev rmX9_becomes : Room := { frames := 0, cells := 0, slots := 0, locals := 0 }
theorem hdX9_becomes : yX9_becomes.cls = RX9 ∧ yX9_becomes.cls ≠ "java/lang/invoke/MethodHandle" ∧ yX9_becomes.cls ≠ "java/lang/invoke/VarHandle" ∧ (parseMethodDescriptor yX9_becomes.desc).map (fun d => d.parameters.length) = some 2 := by decide +kernel
def fX9_becomes (RM : ModV) (p0 : Int32) (p1 : Int32) : Option (Int32 × AI) := ht_gd (ht_ix p0 57) (ht_nm (RM.s p0.toNatClampNeg) (fun x3_2 => ht_gd (ht_ix p0 57) (ht_nm (upd RM.s p0.toNatClampNeg p1) (fun vM_s_4 => some (x3_2, vM_s_4)))))
set_option maxHeartbeats 1000000 in
set_option maxRecDepth 100000 in
theorem ctX9_becomes (l : Launch) (D : va_G) (K : Nat → ClassId) (jM : Nat) (aM : Nat → Nat) (RM : ModV) (p0 : Int32) (p1 : Int32) (o : (Int32 × AI)) (hf : fX9_becomes RM p0 p1 = some o) (sz : Nat) : Met l yX9_becomes wsX9_becomes rmX9_becomes (ht_Pre D K [.ref jM, .int p0, .int p1] (wMo K jM aM RM.s RM.held RM.aside RM.before RM.isHeld RM.tape RM.taped RM.token RM.frm RM.to RM.value RM.isWrong RM.unpaired RM.bestSound RM.bestWay RM.rows RM.rowN RM.sortOf RM.sizeOf RM.numbers RM.holdsWhat RM.holdsWhich RM.holdsMany RM.bodies RM.ran RM.actKind RM.actN RM.actA RM.isParted) sz) (ht_Qi D K (wMo K jM aM o.2 RM.held RM.aside RM.before RM.isHeld RM.tape RM.taped RM.token RM.frm RM.to RM.value RM.isWrong RM.unpaired RM.bestSound RM.bestWay RM.rows RM.rowN RM.sortOf RM.sizeOf RM.numbers RM.holdsWhat RM.holdsWhich RM.holdsMany RM.bodies RM.ran RM.actKind RM.actN RM.actA RM.isParted) o.1 (va_A (wMo K jM aM RM.s RM.held RM.aside RM.before RM.isHeld RM.tape RM.taped RM.token RM.frm RM.to RM.value RM.isWrong RM.unpaired RM.bestSound RM.bestWay RM.rows RM.rowN RM.sortOf RM.sizeOf RM.numbers RM.holdsWhat RM.holdsWhich RM.holdsMany RM.bodies RM.ran RM.actKind RM.actN RM.actA RM.isParted) sz)) 0 0 (va_A (wMo K jM aM RM.s RM.held RM.aside RM.before RM.isHeld RM.tape RM.taped RM.token RM.frm RM.to RM.value RM.isWrong RM.unpaired RM.bestSound RM.bestWay RM.rows RM.rowN RM.sortOf RM.sizeOf RM.numbers RM.holdsWhat RM.holdsWhich RM.holdsMany RM.bodies RM.ran RM.actKind RM.actN RM.actA RM.isParted) sz) := by
  refine ht_enter (Qf := ht_Qi D K (wMo K jM aM o.2 RM.held RM.aside RM.before RM.isHeld RM.tape RM.taped RM.token RM.frm RM.to RM.value RM.isWrong RM.unpaired RM.bestSound RM.bestWay RM.rows RM.rowN RM.sortOf RM.sizeOf RM.numbers RM.holdsWhat RM.holdsWhich RM.holdsMany RM.bodies RM.ran RM.actKind RM.actN RM.actA RM.isParted) o.1) (cc := cX9_becomes) (maxL := 4) (rt := (some .int)) (by decide) rfl (Nat.le_of_ble_eq_true rfl) ?_ sz
  intro p e s m below meth c A Q H locs ls hQ hx hb hr hlk hmn hml hown hts hA hK hP hD hS hl
  have hown : s.vm.findClass RX9 = some m.cls := hown
  have hF : CallFix p m c cX9_becomes 4 s ([.ref jM, .int p0, .int p1] : List Value).toArray wsX9_becomes RX9 := ⟨hx, hb, hml, hown, hts⟩
  have hl : lv_has ls 4 [(0, .ref jM), (1, .int p0), (2, .int p1)] := hl
  have iw9 : ∀ w ∈ u_ws RX9 TX9 29, w ∈ wsX9_becomes := by decide +kernel
  have kw1 := hts (.fieldLink RX9 7 "HeldTonguesModel" "s" "[I") (by decide +kernel)
  delta fX9_becomes at hf
  refine lv_aload_n hx hb dX9_becomes_0 rfl (lv_at hl 0 rfl) ?_
  refine va_get (D := D) (ci := 9) (v := .ref (aM 0)) (C := RX9) (T := TX9) (N := 29) hx hb hts iw9 hown hK hP 0 rfl rfl 0 (by decide) kw1 (fun _ h9 => h9) rfl dX9_becomes_1 ?_
  refine lv_iload_n hx hb dX9_becomes_4 rfl (lv_at hl 1 rfl) ?_
  obtain ⟨g_1, hf⟩ := ht_gd_ob hf
  refine va_iald hx hb hK hP 1 1 rfl rfl (ht_ix_in g_1) dX9_becomes_5 ?_
  obtain ⟨x3_2, ex3_2, hf⟩ := ht_nm_ob hf
  rw [← ex3_2]
  refine lv_istore_n (lv' := [(3, .int x3_2), (0, .ref jM), (1, .int p0), (2, .int p1)]) hx hb dX9_becomes_6 rfl hl (by decide) rfl (fun ls hl => ?_)
  refine lv_aload_n hx hb dX9_becomes_7 rfl (lv_at hl 1 rfl) ?_
  refine va_get (D := D) (ci := 9) (v := .ref (aM 0)) (C := RX9) (T := TX9) (N := 29) hx hb hts iw9 hown hK hP 0 rfl rfl 0 (by decide) kw1 (fun _ h9 => h9) rfl dX9_becomes_8 ?_
  refine lv_iload_n hx hb dX9_becomes_11 rfl (lv_at hl 2 rfl) ?_
  refine lv_iload_n hx hb dX9_becomes_12 rfl (lv_at hl 3 rfl) ?_
  obtain ⟨g_3, hf⟩ := ht_gd_ob hf
  obtain ⟨vM_s_4, evM_s_4, hf⟩ := ht_nm_ob hf
  refine ht_iast (w2 := (wMo K jM aM vM_s_4 RM.held RM.aside RM.before RM.isHeld RM.tape RM.taped RM.token RM.frm RM.to RM.value RM.isWrong RM.unpaired RM.bestSound RM.bestWay RM.rows RM.rowN RM.sortOf RM.sizeOf RM.numbers RM.holdsWhat RM.holdsWhich RM.holdsMany RM.bodies RM.ran RM.actKind RM.actN RM.actA RM.isParted)) hx hb hK hP hD hS 1 1 rfl rfl g_3 dX9_becomes_13 evM_s_4 rfl (fun H locs hP hD hS => ?_)
  refine lv_iload_n hx hb dX9_becomes_14 rfl (lv_at hl 0 rfl) ?_
  have ho := Option.some.inj hf
  subst ho; subst hQ
  exact ht_iret hx hb hr hlk rfl hK hP hD hS dX9_becomes_15
abbrev rmX9_feed : Room := { frames := 1, cells := 0, slots := 0, locals := 25 }
theorem hdX9_feed : yX9_feed.cls = RX9 ∧ yX9_feed.cls ≠ "java/lang/invoke/MethodHandle" ∧ yX9_feed.cls ≠ "java/lang/invoke/VarHandle" ∧ (parseMethodDescriptor yX9_feed.desc).map (fun d => d.parameters.length) = some 2 := by decide +kernel
def fX9_feed_b75 (RM : ModV) (vM_tape : AI) (vM_taped : Int32) : Option (Int32 × AI × Int32) := some (vM_taped, vM_tape, vM_taped)
def fX9_feed_b32 (RM : ModV) (k32 : Int64 → Int32 → Int32 → AI → Int32 → Option (Int32 × AI × Int32)) (x1 : Int64) (x3 : Int32) (x4 : Int32) (vM_tape : AI) (vM_taped : Int32) : Option (Int32 × AI × Int32) := if x3 ≤ x4 then (fX9_feed_b75 RM vM_tape vM_taped) else (ht_gd (ht_ix vM_taped 200) (ht_nm (upd vM_tape vM_taped.toNatClampNeg (((x1 >>> (((8 : Int32) * x4).toInt64 &&& 63)) &&& (255 : Int64)).toInt32)) (fun vM_tape_3 => ht_nm (vM_taped + (1 : Int32)) (fun vM_taped_4 => ht_nm (x4 + (1 : Int32)) (fun x4_5 => k32 x1 x3 x4_5 vM_tape_3 vM_taped_4)))))
def fX9_feed (RM : ModV) (p0 : Int64) (p1 : Int32) : Option (Int32 × AI × Int32) := ht_bn (fX9_isIn p1.toInt64 (1 : Int64) (8 : Int64)) (fun o_6 => if o_6 = 0 then (some ((-1 : Int32), RM.tape, RM.taped)) else (if (RM.taped + p1) ≤ (200 : Int32) then (ht_lp5 (fX9_feed_b32 RM) FU p0 p1 (0 : Int32) RM.tape RM.taped) else (some ((-2 : Int32), RM.tape, RM.taped))))
set_option maxHeartbeats 1000000 in
set_option maxRecDepth 100000 in
theorem ctX9_feed (l : Launch) (D : va_G) (K : Nat → ClassId) (jM : Nat) (aM : Nat → Nat) (RM : ModV) (p0 : Int64) (p1 : Int32) (o : (Int32 × AI × Int32)) (hf : fX9_feed RM p0 p1 = some o) (sz : Nat) : Met l yX9_feed wsX9_feed rmX9_feed (ht_Pre D K [.ref jM, .long p0, .int p1] (wMo K jM aM RM.s RM.held RM.aside RM.before RM.isHeld RM.tape RM.taped RM.token RM.frm RM.to RM.value RM.isWrong RM.unpaired RM.bestSound RM.bestWay RM.rows RM.rowN RM.sortOf RM.sizeOf RM.numbers RM.holdsWhat RM.holdsWhich RM.holdsMany RM.bodies RM.ran RM.actKind RM.actN RM.actA RM.isParted) sz) (ht_Qi D K (wMo K jM aM RM.s RM.held RM.aside RM.before RM.isHeld o.2.1 o.2.2 RM.token RM.frm RM.to RM.value RM.isWrong RM.unpaired RM.bestSound RM.bestWay RM.rows RM.rowN RM.sortOf RM.sizeOf RM.numbers RM.holdsWhat RM.holdsWhich RM.holdsMany RM.bodies RM.ran RM.actKind RM.actN RM.actA RM.isParted) o.1 (va_A (wMo K jM aM RM.s RM.held RM.aside RM.before RM.isHeld RM.tape RM.taped RM.token RM.frm RM.to RM.value RM.isWrong RM.unpaired RM.bestSound RM.bestWay RM.rows RM.rowN RM.sortOf RM.sizeOf RM.numbers RM.holdsWhat RM.holdsWhich RM.holdsMany RM.bodies RM.ran RM.actKind RM.actN RM.actA RM.isParted) sz)) 0 0 (va_A (wMo K jM aM RM.s RM.held RM.aside RM.before RM.isHeld RM.tape RM.taped RM.token RM.frm RM.to RM.value RM.isWrong RM.unpaired RM.bestSound RM.bestWay RM.rows RM.rowN RM.sortOf RM.sizeOf RM.numbers RM.holdsWhat RM.holdsWhich RM.holdsMany RM.bodies RM.ran RM.actKind RM.actN RM.actA RM.isParted) sz) := by
  refine ht_enter (Qf := ht_Qi D K (wMo K jM aM RM.s RM.held RM.aside RM.before RM.isHeld o.2.1 o.2.2 RM.token RM.frm RM.to RM.value RM.isWrong RM.unpaired RM.bestSound RM.bestWay RM.rows RM.rowN RM.sortOf RM.sizeOf RM.numbers RM.holdsWhat RM.holdsWhich RM.holdsMany RM.bodies RM.ran RM.actKind RM.actN RM.actA RM.isParted) o.1) (cc := cX9_feed) (maxL := 5) (rt := (some .int)) (by decide) rfl (Nat.le_of_ble_eq_true rfl) ?_ sz
  intro p e s m below meth c A Q H locs ls hQ hx hb hr hlk hmn hml hown hts hA hK hP hD hS hl
  have hown : s.vm.findClass RX9 = some m.cls := hown
  have hF : CallFix p m c cX9_feed 5 s ([.ref jM, .long p0, .int p1] : List Value).toArray wsX9_feed RX9 := ⟨hx, hb, hml, hown, hts⟩
  have hl : lv_has ls 5 [(0, .ref jM), (1, .long p0), (3, .int p1)] := hl
  have iw9 : ∀ w ∈ u_ws RX9 TX9 29, w ∈ wsX9_feed := by decide +kernel
  have kw1 := hts (.fieldLink RX9 64 "HeldTonguesModel" "taped" "I") (by decide +kernel)
  have kw2 := hts (.fieldLink RX9 22 "HeldTonguesModel" "tape" "[I") (by decide +kernel)
  have kw3 := hts (.constantLong RX9 68 (255)) (by decide +kernel)
  have kw4 := hts (.constantLong RX9 58 (8)) (by decide +kernel)
  have b75 : ∀ (vM_tape : AI) (vM_taped : Int32) (H : Heap) (locs : List Loc) (ls : Array Slot), fX9_feed_b75 RM vM_tape vM_taped = some o → va_P D vwCl (wMo K jM aM RM.s RM.held RM.aside RM.before RM.isHeld vM_tape vM_taped RM.token RM.frm RM.to RM.value RM.isWrong RM.unpaired RM.bestSound RM.bestWay RM.rows RM.rowN RM.sortOf RM.sizeOf RM.numbers RM.holdsWhat RM.holdsWhich RM.holdsMany RM.bodies RM.ran RM.actKind RM.actN RM.actA RM.isParted) H → va_D A (wMo K jM aM RM.s RM.held RM.aside RM.before RM.isHeld vM_tape vM_taped RM.token RM.frm RM.to RM.value RM.isWrong RM.unpaired RM.bestSound RM.bestWay RM.rows RM.rowN RM.sortOf RM.sizeOf RM.numbers RM.holdsWhat RM.holdsWhich RM.holdsMany RM.bodies RM.ran RM.actKind RM.actN RM.actA RM.isParted) → va_S A s.heap H locs → lv_has ls 5 [(0, .ref jM)] → W p l e (headSpec wsX9_feed rmX9_feed).room s m ([.ref jM, .long p0, .int p1] : List Value).toArray below meth c H locs 0 0 Q (F0 m 75 ls []) := by
    intro vM_tape vM_taped H locs ls hf hP hD hS hl
    delta fX9_feed_b75 at hf
    refine lv_aload_n hx hb dX9_feed_75 rfl (lv_at hl 0 rfl) ?_
    refine va_get (D := D) (ci := 9) (v := .int vM_taped) (C := RX9) (T := TX9) (N := 29) hx hb hts iw9 hown hK hP 0 rfl rfl 6 (by decide) kw1 (fun _ h9 => h9) rfl dX9_feed_76 ?_
    have ho := Option.some.inj hf
    subst ho; subst hQ
    exact ht_iret hx hb hr hlk rfl hK hP hD hS dX9_feed_79
  have b32 : ∀ (n : Nat) (x1 : Int64) (x3 : Int32) (x4 : Int32) (vM_tape : AI) (vM_taped : Int32) (H : Heap) (locs : List Loc) (ls : Array Slot), ht_lp5 (fX9_feed_b32 RM) n x1 x3 x4 vM_tape vM_taped = some o → va_P D vwCl (wMo K jM aM RM.s RM.held RM.aside RM.before RM.isHeld vM_tape vM_taped RM.token RM.frm RM.to RM.value RM.isWrong RM.unpaired RM.bestSound RM.bestWay RM.rows RM.rowN RM.sortOf RM.sizeOf RM.numbers RM.holdsWhat RM.holdsWhich RM.holdsMany RM.bodies RM.ran RM.actKind RM.actN RM.actA RM.isParted) H → va_D A (wMo K jM aM RM.s RM.held RM.aside RM.before RM.isHeld vM_tape vM_taped RM.token RM.frm RM.to RM.value RM.isWrong RM.unpaired RM.bestSound RM.bestWay RM.rows RM.rowN RM.sortOf RM.sizeOf RM.numbers RM.holdsWhat RM.holdsWhich RM.holdsMany RM.bodies RM.ran RM.actKind RM.actN RM.actA RM.isParted) → va_S A s.heap H locs → lv_has ls 5 [(0, .ref jM), (1, .long x1), (3, .int x3), (4, .int x4)] → W p l e (headSpec wsX9_feed rmX9_feed).room s m ([.ref jM, .long p0, .int p1] : List Value).toArray below meth c H locs 0 0 Q (F0 m 32 ls []) := by
    intro n
    induction n with
    | zero =>
      intro x1 x3 x4 vM_tape vM_taped H locs ls hf hP hD hS hl
      cases (show (none : Option (Int32 × AI × Int32)) = some o from hf)
    | succ n hk32 =>
      intro x1 x3 x4 vM_tape vM_taped H locs ls hf hP hD hS hl
      replace hf : fX9_feed_b32 RM (ht_lp5 (fX9_feed_b32 RM) n) x1 x3 x4 vM_tape vM_taped = some o := hf
      delta fX9_feed_b32 at hf
      refine lv_iload hx hb dX9_feed_32 (lv_at hl 3 rfl) ?_
      refine lv_iload_n hx hb dX9_feed_34 rfl (lv_at hl 2 rfl) ?_
      refine lv_icmp_ge (tgt := 75) hx hb dX9_feed_35 (by decide) (fun c_1 => ?_) (fun c_1 => ?_)
      · replace hf := ht_t c_1 hf
        exact b75  vM_tape vM_taped _ _ _ hf hP hD hS (lv_sub hl [0] rfl)
      · replace hf := ht_f c_1 hf
        refine lv_aload_n hx hb dX9_feed_38 rfl (lv_at hl 0 rfl) ?_
        refine va_get (D := D) (ci := 9) (v := .ref (aM 4)) (C := RX9) (T := TX9) (N := 29) hx hb hts iw9 hown hK hP 0 rfl rfl 5 (by decide) kw2 (fun _ h9 => h9) rfl dX9_feed_39 ?_
        refine lv_aload_n hx hb dX9_feed_42 rfl (lv_at hl 0 rfl) ?_
        refine va_get (D := D) (ci := 9) (v := .int vM_taped) (C := RX9) (T := TX9) (N := 29) hx hb hts iw9 hown hK hP 0 rfl rfl 6 (by decide) kw1 (fun _ h9 => h9) rfl dX9_feed_43 ?_
        refine lv_lload_n hx hb dX9_feed_46 rfl (lv_at hl 1 rfl) ?_
        refine lv_bipush (v := 8) hx hb dX9_feed_47 (by decide) ?_
        refine lv_iload hx hb dX9_feed_49 (lv_at hl 3 rfl) ?_
        refine lv_imul hx hb dX9_feed_51 ?_
        refine lv_lshr hx hb dX9_feed_52 rfl ?_
        refine lv_ldc2 hx hb hown kw3 dX9_feed_53 ?_
        refine lv_land hx hb dX9_feed_56 ?_
        refine lv_l2i hx hb dX9_feed_57 rfl ?_
        obtain ⟨g_2, hf⟩ := ht_gd_ob hf
        obtain ⟨vM_tape_3, evM_tape_3, hf⟩ := ht_nm_ob hf
        refine ht_iast (w2 := (wMo K jM aM RM.s RM.held RM.aside RM.before RM.isHeld vM_tape_3 vM_taped RM.token RM.frm RM.to RM.value RM.isWrong RM.unpaired RM.bestSound RM.bestWay RM.rows RM.rowN RM.sortOf RM.sizeOf RM.numbers RM.holdsWhat RM.holdsWhich RM.holdsMany RM.bodies RM.ran RM.actKind RM.actN RM.actA RM.isParted)) hx hb hK hP hD hS 5 1 rfl rfl g_2 dX9_feed_58 evM_tape_3 rfl (fun H locs hP hD hS => ?_)
        refine lv_aload_n hx hb dX9_feed_59 rfl (lv_at hl 0 rfl) ?_
        refine lv_dup hx hb dX9_feed_60 rfl ?_
        refine va_get (D := D) (ci := 9) (v := .int vM_taped) (C := RX9) (T := TX9) (N := 29) hx hb hts iw9 hown hK hP 0 rfl rfl 6 (by decide) kw1 (fun _ h9 => h9) rfl dX9_feed_61 ?_
        refine lv_iconst (v := 1) hx hb dX9_feed_64 (by decide) ?_
        refine lv_iadd hx hb dX9_feed_65 ?_
        obtain ⟨vM_taped_4, evM_taped_4, hf⟩ := ht_nm_ob hf
        rw [← evM_taped_4]
        refine ht_put (ci := 9) (v := .int vM_taped_4) (ty := .int) (C := RX9) (T := TX9) (N := 29) (w2 := (wMo K jM aM RM.s RM.held RM.aside RM.before RM.isHeld vM_tape_3 vM_taped_4 RM.token RM.frm RM.to RM.value RM.isWrong RM.unpaired RM.bestSound RM.bestWay RM.rows RM.rowN RM.sortOf RM.sizeOf RM.numbers RM.holdsWhat RM.holdsWhich RM.holdsMany RM.bodies RM.ran RM.actKind RM.actN RM.actA RM.isParted)) hx hb hts iw9 tyX9 tyX9_ok nmX9 hown hK hP hD hS 0 rfl rfl 6 (by decide) kw1 (fun _ h9 => h9) rfl (by decide +kernel) rfl rfl (Nat.le_of_ble_eq_true rfl) dX9_feed_66 rfl (fun H locs hP hD hS => ?_)
        obtain ⟨x4_5, ex4_5, hf⟩ := ht_nm_ob hf
        refine lv_iinc (v := x4_5) (lv' := [(4, .int x4_5), (0, .ref jM), (1, .long x1), (3, .int x3)]) hx hb dX9_feed_69 hl (k := 3) rfl (by rw [ex4_5]; rfl) (by decide) rfl (fun ls hl => ?_)
        refine lv_goto (tgt := 32) hx hb dX9_feed_72 (by decide) ?_
        exact hk32 x1 x3 x4_5 vM_tape_3 vM_taped_4 _ _ _ hf hP hD hS (lv_sub hl [1, 2, 3, 0] rfl)
  delta fX9_feed at hf
  refine lv_iload_n hx hb dX9_feed_0 rfl (lv_at hl 2 rfl) ?_
  refine lv_i2l hx hb dX9_feed_1 rfl ?_
  refine lv_lconst (v := 1) hx hb dX9_feed_2 (by decide) ?_
  refine lv_ldc2 hx hb hown kw4 dX9_feed_3 ?_
  obtain ⟨o_6, ho_6, hf⟩ := ht_bn_ob hf
  refine ht_callSi (r := o_6) (rest := []) (As := [.long p1.toInt64, .long (1 : Int64), .long (8 : Int64)]) (wc := []) (wr := (wMo K jM aM RM.s RM.held RM.aside RM.before RM.isHeld RM.tape RM.taped RM.token RM.frm RM.to RM.value RM.isWrong RM.unpaired RM.bestSound RM.bestWay RM.rows RM.rowN RM.sortOf RM.sizeOf RM.numbers RM.holdsWhat RM.holdsWhich RM.holdsMany RM.bodies RM.ran RM.actKind RM.actN RM.actA RM.isParted)) (w1 := []) (w2 := (wMo K jM aM RM.s RM.held RM.aside RM.before RM.isHeld RM.tape RM.taped RM.token RM.frm RM.to RM.value RM.isWrong RM.unpaired RM.bestSound RM.bestWay RM.rows RM.rowN RM.sortOf RM.sizeOf RM.numbers RM.holdsWhat RM.holdsWhich RM.holdsMany RM.bodies RM.ran RM.actKind RM.actN RM.actA RM.isParted)) hF (ctX9_isIn l D K p1.toInt64 (1 : Int64) (8 : Int64) o_6 ho_6 H.size) (va_cwS 3 hts gX9_feed_X9_isIn rfl rfl rfl hdX9_isIn ⟨Nat.le_of_ble_eq_true rfl, Nat.le_of_ble_eq_true rfl⟩) hK hP hD hS hA [] [0, 1, 2, 3, 4, 5, 6, 7, 8, 9, 10, 11, 12, 13, 14, 15] rfl rfl (by decide) (by decide) (by decide) [0, 1, 2, 3, 4, 5, 6, 7, 8, 9, 10, 11, 12, 13, 14, 15] rfl (by decide) rfl hl.1 rfl (Nat.le_of_ble_eq_true rfl) dX9_feed_6 ⟨Nat.zero_le _, Nat.zero_le _⟩ (fun H locs hP hD hS => ?_)
  refine lv_if_ne (tgt := 14) hx hb dX9_feed_9 (by decide) (fun c_7 => ?_) (fun c_7 => ?_)
  · replace hf := ht_f c_7 hf
    refine lv_aload_n hx hb dX9_feed_14 rfl (lv_at hl 0 rfl) ?_
    refine va_get (D := D) (ci := 9) (v := .int RM.taped) (C := RX9) (T := TX9) (N := 29) hx hb hts iw9 hown hK hP 0 rfl rfl 6 (by decide) kw1 (fun _ h9 => h9) rfl dX9_feed_15 ?_
    refine lv_iload_n hx hb dX9_feed_18 rfl (lv_at hl 2 rfl) ?_
    refine lv_iadd hx hb dX9_feed_19 ?_
    refine lv_sipush (v := 200) hx hb dX9_feed_20 (by decide) ?_
    refine lv_icmp_le (tgt := 29) hx hb dX9_feed_23 (by decide) (fun c_8 => ?_) (fun c_8 => ?_)
    · replace hf := ht_t c_8 hf
      refine lv_iconst (v := 0) hx hb dX9_feed_29 (by decide) ?_
      refine lv_istore (lv' := [(4, .int (0 : Int32)), (0, .ref jM), (1, .long p0), (3, .int p1)]) hx hb dX9_feed_30 hl (by decide) rfl (fun ls hl => ?_)
      exact b32  FU p0 p1 (0 : Int32) RM.tape RM.taped _ _ _ hf hP hD hS (lv_sub hl [1, 2, 3, 0] rfl)
    · replace hf := ht_f c_8 hf
      refine lv_bipush (v := -2) hx hb dX9_feed_26 (by decide) ?_
      have ho := Option.some.inj hf
      subst ho; subst hQ
      exact ht_iret hx hb hr hlk rfl hK hP hD hS dX9_feed_28
  · replace hf := ht_t c_7 hf
    refine lv_iconst (v := -1) hx hb dX9_feed_12 (by decide) ?_
    have ho := Option.some.inj hf
    subst ho; subst hQ
    exact ht_iret hx hb hr hlk rfl hK hP hD hS dX9_feed_13
abbrev rmX9_byteAt : Room := { frames := 0, cells := 0, slots := 0, locals := 0 }
theorem hdX9_byteAt : yX9_byteAt.cls = RX9 ∧ yX9_byteAt.cls ≠ "java/lang/invoke/MethodHandle" ∧ yX9_byteAt.cls ≠ "java/lang/invoke/VarHandle" ∧ (parseMethodDescriptor yX9_byteAt.desc).map (fun d => d.parameters.length) = some 1 := by decide +kernel
def fX9_byteAt (RM : ModV) (p0 : Int32) : Option Int32 := if RM.taped ≤ p0 then (some (-1 : Int32)) else (ht_gd (ht_ix p0 200) (some (RM.tape p0.toNatClampNeg)))
set_option maxHeartbeats 1000000 in
set_option maxRecDepth 100000 in
theorem ctX9_byteAt (l : Launch) (D : va_G) (K : Nat → ClassId) (jM : Nat) (aM : Nat → Nat) (RM : ModV) (p0 : Int32) (o : Int32) (hf : fX9_byteAt RM p0 = some o) (sz : Nat) : Met l yX9_byteAt wsX9_byteAt rmX9_byteAt (ht_Pre D K [.ref jM, .int p0] (wMo K jM aM RM.s RM.held RM.aside RM.before RM.isHeld RM.tape RM.taped RM.token RM.frm RM.to RM.value RM.isWrong RM.unpaired RM.bestSound RM.bestWay RM.rows RM.rowN RM.sortOf RM.sizeOf RM.numbers RM.holdsWhat RM.holdsWhich RM.holdsMany RM.bodies RM.ran RM.actKind RM.actN RM.actA RM.isParted) sz) (ht_Qi D K (wMo K jM aM RM.s RM.held RM.aside RM.before RM.isHeld RM.tape RM.taped RM.token RM.frm RM.to RM.value RM.isWrong RM.unpaired RM.bestSound RM.bestWay RM.rows RM.rowN RM.sortOf RM.sizeOf RM.numbers RM.holdsWhat RM.holdsWhich RM.holdsMany RM.bodies RM.ran RM.actKind RM.actN RM.actA RM.isParted) o (va_A (wMo K jM aM RM.s RM.held RM.aside RM.before RM.isHeld RM.tape RM.taped RM.token RM.frm RM.to RM.value RM.isWrong RM.unpaired RM.bestSound RM.bestWay RM.rows RM.rowN RM.sortOf RM.sizeOf RM.numbers RM.holdsWhat RM.holdsWhich RM.holdsMany RM.bodies RM.ran RM.actKind RM.actN RM.actA RM.isParted) sz)) 0 0 (va_A (wMo K jM aM RM.s RM.held RM.aside RM.before RM.isHeld RM.tape RM.taped RM.token RM.frm RM.to RM.value RM.isWrong RM.unpaired RM.bestSound RM.bestWay RM.rows RM.rowN RM.sortOf RM.sizeOf RM.numbers RM.holdsWhat RM.holdsWhich RM.holdsMany RM.bodies RM.ran RM.actKind RM.actN RM.actA RM.isParted) sz) := by
  refine ht_enter (Qf := ht_Qi D K (wMo K jM aM RM.s RM.held RM.aside RM.before RM.isHeld RM.tape RM.taped RM.token RM.frm RM.to RM.value RM.isWrong RM.unpaired RM.bestSound RM.bestWay RM.rows RM.rowN RM.sortOf RM.sizeOf RM.numbers RM.holdsWhat RM.holdsWhich RM.holdsMany RM.bodies RM.ran RM.actKind RM.actN RM.actA RM.isParted) o) (cc := cX9_byteAt) (maxL := 2) (rt := (some .int)) (by decide) rfl (Nat.le_of_ble_eq_true rfl) ?_ sz
  intro p e s m below meth c A Q H locs ls hQ hx hb hr hlk hmn hml hown hts hA hK hP hD hS hl
  have hown : s.vm.findClass RX9 = some m.cls := hown
  have hF : CallFix p m c cX9_byteAt 2 s ([.ref jM, .int p0] : List Value).toArray wsX9_byteAt RX9 := ⟨hx, hb, hml, hown, hts⟩
  have hl : lv_has ls 2 [(0, .ref jM), (1, .int p0)] := hl
  have iw9 : ∀ w ∈ u_ws RX9 TX9 29, w ∈ wsX9_byteAt := by decide +kernel
  have kw1 := hts (.fieldLink RX9 64 "HeldTonguesModel" "taped" "I") (by decide +kernel)
  have kw2 := hts (.fieldLink RX9 22 "HeldTonguesModel" "tape" "[I") (by decide +kernel)
  delta fX9_byteAt at hf
  refine lv_iload_n hx hb dX9_byteAt_0 rfl (lv_at hl 1 rfl) ?_
  refine lv_aload_n hx hb dX9_byteAt_1 rfl (lv_at hl 0 rfl) ?_
  refine va_get (D := D) (ci := 9) (v := .int RM.taped) (C := RX9) (T := TX9) (N := 29) hx hb hts iw9 hown hK hP 0 rfl rfl 6 (by decide) kw1 (fun _ h9 => h9) rfl dX9_byteAt_2 ?_
  refine lv_icmp_ge (tgt := 17) hx hb dX9_byteAt_5 (by decide) (fun c_1 => ?_) (fun c_1 => ?_)
  · replace hf := ht_t c_1 hf
    refine lv_iconst (v := -1) hx hb dX9_byteAt_17 (by decide) ?_
    have ho := Option.some.inj hf
    subst ho; subst hQ
    exact ht_iret hx hb hr hlk rfl hK hP hD hS dX9_byteAt_18
  · replace hf := ht_f c_1 hf
    refine lv_aload_n hx hb dX9_byteAt_8 rfl (lv_at hl 0 rfl) ?_
    refine va_get (D := D) (ci := 9) (v := .ref (aM 4)) (C := RX9) (T := TX9) (N := 29) hx hb hts iw9 hown hK hP 0 rfl rfl 5 (by decide) kw2 (fun _ h9 => h9) rfl dX9_byteAt_9 ?_
    refine lv_iload_n hx hb dX9_byteAt_12 rfl (lv_at hl 1 rfl) ?_
    obtain ⟨g_2, hf⟩ := ht_gd_ob hf
    refine va_iald hx hb hK hP 5 1 rfl rfl (ht_ix_in g_2) dX9_byteAt_13 ?_
    refine lv_goto (tgt := 18) hx hb dX9_byteAt_14 (by decide) ?_
    have ho := Option.some.inj hf
    subst ho; subst hQ
    exact ht_iret hx hb hr hlk rfl hK hP hD hS dX9_byteAt_18
abbrev rmX9_nextToken : Room := { frames := 1, cells := 0, slots := 0, locals := 21 }
theorem hdX9_nextToken : yX9_nextToken.cls = RX9 ∧ yX9_nextToken.cls ≠ "java/lang/invoke/MethodHandle" ∧ yX9_nextToken.cls ≠ "java/lang/invoke/VarHandle" ∧ (parseMethodDescriptor yX9_nextToken.desc).map (fun d => d.parameters.length) = some 0 := by decide +kernel
def fX9_nextToken_b219 (RM : ModV) (t1 : Int32) (t2 : Int32) (vM_token : Int32) (vM_from : Int32) (vM_to : Int32) (vM_value : Int32) : Option (Int32 × Int32 × Int32 × Int32) := ht_nm (t1 + t2) (fun vM_to_1 => some (vM_token, vM_from, vM_to_1, vM_value))
def fX9_nextToken_b201 (RM : ModV) (vM_token : Int32) (vM_from : Int32) (vM_to : Int32) (vM_value : Int32) : Option (Int32 × Int32 × Int32 × Int32) := if vM_token ≤ (2 : Int32) then (fX9_nextToken_b219 RM vM_to (0 : Int32) vM_token vM_from vM_to vM_value) else (fX9_nextToken_b219 RM vM_to (1 : Int32) vM_token vM_from vM_to vM_value)
def fX9_nextToken_b185 (RM : ModV) (k126 : Int32 → Int32 → Int32 → Int32 → Option (Int32 × Int32 × Int32 × Int32)) (t1 : Int32) (vM_token : Int32) (vM_from : Int32) (vM_to : Int32) (vM_value : Int32) : Option (Int32 × Int32 × Int32 × Int32) := ht_nm (vM_to + (1 : Int32)) (fun vM_to_3 => k126 vM_token vM_from vM_to_3 t1)
def fX9_nextToken_b126 (RM : ModV) (k126 : Int32 → Int32 → Int32 → Int32 → Option (Int32 × Int32 × Int32 × Int32)) (vM_token : Int32) (vM_from : Int32) (vM_to : Int32) (vM_value : Int32) : Option (Int32 × Int32 × Int32 × Int32) := if vM_token = (2 : Int32) then (ht_bn (fX9_byteAt (RM.s, RM.held, RM.aside, RM.before, RM.isHeld, RM.tape, RM.taped, vM_token, vM_from, vM_to, vM_value, RM.isWrong, RM.unpaired, RM.bestSound, RM.bestWay, RM.rows, RM.rowN, RM.sortOf, RM.sizeOf, RM.numbers, RM.holdsWhat, RM.holdsWhich, RM.holdsMany, RM.bodies, RM.ran, RM.actKind, RM.actN, RM.actA, RM.isParted) vM_to) (fun o_5 => ht_bn (fX9_isDigit o_5) (fun o_6 => if o_6 = 0 then (fX9_nextToken_b201 RM vM_token vM_from vM_to vM_value) else (if vM_value ≤ (999 : Int32) then (ht_bn (fX9_byteAt (RM.s, RM.held, RM.aside, RM.before, RM.isHeld, RM.tape, RM.taped, vM_token, vM_from, vM_to, vM_value, RM.isWrong, RM.unpaired, RM.bestSound, RM.bestWay, RM.rows, RM.rowN, RM.sortOf, RM.sizeOf, RM.numbers, RM.holdsWhat, RM.holdsWhich, RM.holdsMany, RM.bodies, RM.ran, RM.actKind, RM.actN, RM.actA, RM.isParted) vM_to) (fun o_9 => fX9_nextToken_b185 RM k126 ((((10 : Int32) * vM_value) + o_9) - (48 : Int32)) vM_token vM_from vM_to vM_value)) else (fX9_nextToken_b185 RM k126 vM_value vM_token vM_from vM_to vM_value))))) else (fX9_nextToken_b201 RM vM_token vM_from vM_to vM_value)
def fX9_nextToken_b91 (RM : ModV) (k91 : Int32 → Int32 → Int32 → Int32 → Option (Int32 × Int32 × Int32 × Int32)) (vM_token : Int32) (vM_from : Int32) (vM_to : Int32) (vM_value : Int32) : Option (Int32 × Int32 × Int32 × Int32) := if vM_token = (1 : Int32) then (ht_bn (fX9_byteAt (RM.s, RM.held, RM.aside, RM.before, RM.isHeld, RM.tape, RM.taped, vM_token, vM_from, vM_to, vM_value, RM.isWrong, RM.unpaired, RM.bestSound, RM.bestWay, RM.rows, RM.rowN, RM.sortOf, RM.sizeOf, RM.numbers, RM.holdsWhat, RM.holdsWhich, RM.holdsMany, RM.bodies, RM.ran, RM.actKind, RM.actN, RM.actA, RM.isParted) vM_to) (fun o_11 => ht_bn (fX9_isAlpha o_11) (fun o_12 => if o_12 = 0 then (ht_lp4 (fX9_nextToken_b126 RM) FU vM_token vM_from vM_to vM_value) else (ht_nm (vM_to + (1 : Int32)) (fun vM_to_14 => k91 vM_token vM_from vM_to_14 vM_value))))) else (ht_lp4 (fX9_nextToken_b126 RM) FU vM_token vM_from vM_to vM_value)
def fX9_nextToken_b83 (RM : ModV) (t1 : Int32) (vM_token : Int32) (vM_from : Int32) (vM_to : Int32) (vM_value : Int32) : Option (Int32 × Int32 × Int32 × Int32) := ht_lp4 (fX9_nextToken_b91 RM) FU t1 vM_from vM_to (0 : Int32)
def fX9_nextToken_b34 (RM : ModV) (vM_token : Int32) (vM_from : Int32) (vM_to : Int32) (vM_value : Int32) : Option (Int32 × Int32 × Int32 × Int32) := ht_bn (fX9_byteAt (RM.s, RM.held, RM.aside, RM.before, RM.isHeld, RM.tape, RM.taped, vM_token, vM_from, vM_from, vM_value, RM.isWrong, RM.unpaired, RM.bestSound, RM.bestWay, RM.rows, RM.rowN, RM.sortOf, RM.sizeOf, RM.numbers, RM.holdsWhat, RM.holdsWhich, RM.holdsMany, RM.bodies, RM.ran, RM.actKind, RM.actN, RM.actA, RM.isParted) vM_from) (fun o_15 => if 0 ≤ o_15 then (ht_bn (fX9_isAlpha o_15) (fun o_17 => if o_17 = 0 then (ht_bn (fX9_isDigit o_15) (fun o_19 => if o_19 = 0 then (fX9_nextToken_b83 RM (3 : Int32) vM_token vM_from vM_from vM_value) else (fX9_nextToken_b83 RM (2 : Int32) vM_token vM_from vM_from vM_value))) else (fX9_nextToken_b83 RM (1 : Int32) vM_token vM_from vM_from vM_value))) else (fX9_nextToken_b83 RM (0 : Int32) vM_token vM_from vM_from vM_value))
def fX9_nextToken_b8 (RM : ModV) (k8 : Int32 → Int32 → Int32 → Int32 → Option (Int32 × Int32 × Int32 × Int32)) (vM_token : Int32) (vM_from : Int32) (vM_to : Int32) (vM_value : Int32) : Option (Int32 × Int32 × Int32 × Int32) := ht_bn (fX9_byteAt (RM.s, RM.held, RM.aside, RM.before, RM.isHeld, RM.tape, RM.taped, vM_token, vM_from, vM_to, vM_value, RM.isWrong, RM.unpaired, RM.bestSound, RM.bestWay, RM.rows, RM.rowN, RM.sortOf, RM.sizeOf, RM.numbers, RM.holdsWhat, RM.holdsWhich, RM.holdsMany, RM.bodies, RM.ran, RM.actKind, RM.actN, RM.actA, RM.isParted) vM_from) (fun o_21 => if o_21 = (32 : Int32) then (ht_nm (vM_from + (1 : Int32)) (fun vM_from_23 => k8 vM_token vM_from_23 vM_to vM_value)) else (fX9_nextToken_b34 RM vM_token vM_from vM_to vM_value))
def fX9_nextToken (RM : ModV) : Option (Int32 × Int32 × Int32 × Int32) := ht_nm RM.to (fun vM_from_24 => ht_lp4 (fX9_nextToken_b8 RM) FU RM.token vM_from_24 RM.to RM.value)
set_option maxHeartbeats 1000000 in
set_option maxRecDepth 100000 in
theorem ctX9_nextToken (l : Launch) (D : va_G) (K : Nat → ClassId) (jM : Nat) (aM : Nat → Nat) (RM : ModV) (o : (Int32 × Int32 × Int32 × Int32)) (hf : fX9_nextToken RM = some o) (sz : Nat) : Met l yX9_nextToken wsX9_nextToken rmX9_nextToken (ht_Pre D K [.ref jM] (wMo K jM aM RM.s RM.held RM.aside RM.before RM.isHeld RM.tape RM.taped RM.token RM.frm RM.to RM.value RM.isWrong RM.unpaired RM.bestSound RM.bestWay RM.rows RM.rowN RM.sortOf RM.sizeOf RM.numbers RM.holdsWhat RM.holdsWhich RM.holdsMany RM.bodies RM.ran RM.actKind RM.actN RM.actA RM.isParted) sz) (ht_Qv D K (wMo K jM aM RM.s RM.held RM.aside RM.before RM.isHeld RM.tape RM.taped o.1 o.2.1 o.2.2.1 o.2.2.2 RM.isWrong RM.unpaired RM.bestSound RM.bestWay RM.rows RM.rowN RM.sortOf RM.sizeOf RM.numbers RM.holdsWhat RM.holdsWhich RM.holdsMany RM.bodies RM.ran RM.actKind RM.actN RM.actA RM.isParted) (va_A (wMo K jM aM RM.s RM.held RM.aside RM.before RM.isHeld RM.tape RM.taped RM.token RM.frm RM.to RM.value RM.isWrong RM.unpaired RM.bestSound RM.bestWay RM.rows RM.rowN RM.sortOf RM.sizeOf RM.numbers RM.holdsWhat RM.holdsWhich RM.holdsMany RM.bodies RM.ran RM.actKind RM.actN RM.actA RM.isParted) sz)) 0 0 (va_A (wMo K jM aM RM.s RM.held RM.aside RM.before RM.isHeld RM.tape RM.taped RM.token RM.frm RM.to RM.value RM.isWrong RM.unpaired RM.bestSound RM.bestWay RM.rows RM.rowN RM.sortOf RM.sizeOf RM.numbers RM.holdsWhat RM.holdsWhich RM.holdsMany RM.bodies RM.ran RM.actKind RM.actN RM.actA RM.isParted) sz) := by
  refine ht_enter (Qf := ht_Qv D K (wMo K jM aM RM.s RM.held RM.aside RM.before RM.isHeld RM.tape RM.taped o.1 o.2.1 o.2.2.1 o.2.2.2 RM.isWrong RM.unpaired RM.bestSound RM.bestWay RM.rows RM.rowN RM.sortOf RM.sizeOf RM.numbers RM.holdsWhat RM.holdsWhich RM.holdsMany RM.bodies RM.ran RM.actKind RM.actN RM.actA RM.isParted)) (cc := cX9_nextToken) (maxL := 2) (rt := none) (by decide) rfl (Nat.le_of_ble_eq_true rfl) ?_ sz
  intro p e s m below meth c A Q H locs ls hQ hx hb hr hlk hmn hml hown hts hA hK hP hD hS hl
  have hown : s.vm.findClass RX9 = some m.cls := hown
  have hF : CallFix p m c cX9_nextToken 2 s ([.ref jM] : List Value).toArray wsX9_nextToken RX9 := ⟨hx, hb, hml, hown, hts⟩
  have hl : lv_has ls 2 [(0, .ref jM)] := hl
  have iw9 : ∀ w ∈ u_ws RX9 TX9 29, w ∈ wsX9_nextToken := by decide +kernel
  have kw1 := hts (.fieldLink RX9 70 "HeldTonguesModel" "to" "I") (by decide +kernel)
  have kw2 := hts (.fieldLink RX9 87 "HeldTonguesModel" "token" "I") (by decide +kernel)
  have kw3 := hts (.fieldLink RX9 90 "HeldTonguesModel" "value" "I") (by decide +kernel)
  have kw4 := hts (.fieldLink RX9 73 "HeldTonguesModel" "from" "I") (by decide +kernel)
  have b219 : ∀ (t1 : Int32) (t2 : Int32) (vM_token : Int32) (vM_from : Int32) (vM_to : Int32) (vM_value : Int32) (H : Heap) (locs : List Loc) (ls : Array Slot), fX9_nextToken_b219 RM t1 t2 vM_token vM_from vM_to vM_value = some o → va_P D vwCl (wMo K jM aM RM.s RM.held RM.aside RM.before RM.isHeld RM.tape RM.taped vM_token vM_from vM_to vM_value RM.isWrong RM.unpaired RM.bestSound RM.bestWay RM.rows RM.rowN RM.sortOf RM.sizeOf RM.numbers RM.holdsWhat RM.holdsWhich RM.holdsMany RM.bodies RM.ran RM.actKind RM.actN RM.actA RM.isParted) H → va_D A (wMo K jM aM RM.s RM.held RM.aside RM.before RM.isHeld RM.tape RM.taped vM_token vM_from vM_to vM_value RM.isWrong RM.unpaired RM.bestSound RM.bestWay RM.rows RM.rowN RM.sortOf RM.sizeOf RM.numbers RM.holdsWhat RM.holdsWhich RM.holdsMany RM.bodies RM.ran RM.actKind RM.actN RM.actA RM.isParted) → va_S A s.heap H locs → lv_has ls 2 [] → W p l e (headSpec wsX9_nextToken rmX9_nextToken).room s m ([.ref jM] : List Value).toArray below meth c H locs 0 0 Q (F0 m 219 ls [.int t2, .int t1, .ref jM]) := by
    intro t1 t2 vM_token vM_from vM_to vM_value H locs ls hf hP hD hS hl
    delta fX9_nextToken_b219 at hf
    refine lv_iadd hx hb dX9_nextToken_219 ?_
    obtain ⟨vM_to_1, evM_to_1, hf⟩ := ht_nm_ob hf
    rw [← evM_to_1]
    refine ht_put (ci := 9) (v := .int vM_to_1) (ty := .int) (C := RX9) (T := TX9) (N := 29) (w2 := (wMo K jM aM RM.s RM.held RM.aside RM.before RM.isHeld RM.tape RM.taped vM_token vM_from vM_to_1 vM_value RM.isWrong RM.unpaired RM.bestSound RM.bestWay RM.rows RM.rowN RM.sortOf RM.sizeOf RM.numbers RM.holdsWhat RM.holdsWhich RM.holdsMany RM.bodies RM.ran RM.actKind RM.actN RM.actA RM.isParted)) hx hb hts iw9 tyX9 tyX9_ok nmX9 hown hK hP hD hS 0 rfl rfl 9 (by decide) kw1 (fun _ h9 => h9) rfl (by decide +kernel) rfl rfl (Nat.le_of_ble_eq_true rfl) dX9_nextToken_220 rfl (fun H locs hP hD hS => ?_)
    have ho := Option.some.inj hf
    subst ho; subst hQ
    exact ht_vret hx hb hr hlk hK hP hD hS dX9_nextToken_223
  have b201 : ∀ (vM_token : Int32) (vM_from : Int32) (vM_to : Int32) (vM_value : Int32) (H : Heap) (locs : List Loc) (ls : Array Slot), fX9_nextToken_b201 RM vM_token vM_from vM_to vM_value = some o → va_P D vwCl (wMo K jM aM RM.s RM.held RM.aside RM.before RM.isHeld RM.tape RM.taped vM_token vM_from vM_to vM_value RM.isWrong RM.unpaired RM.bestSound RM.bestWay RM.rows RM.rowN RM.sortOf RM.sizeOf RM.numbers RM.holdsWhat RM.holdsWhich RM.holdsMany RM.bodies RM.ran RM.actKind RM.actN RM.actA RM.isParted) H → va_D A (wMo K jM aM RM.s RM.held RM.aside RM.before RM.isHeld RM.tape RM.taped vM_token vM_from vM_to vM_value RM.isWrong RM.unpaired RM.bestSound RM.bestWay RM.rows RM.rowN RM.sortOf RM.sizeOf RM.numbers RM.holdsWhat RM.holdsWhich RM.holdsMany RM.bodies RM.ran RM.actKind RM.actN RM.actA RM.isParted) → va_S A s.heap H locs → lv_has ls 2 [(0, .ref jM)] → W p l e (headSpec wsX9_nextToken rmX9_nextToken).room s m ([.ref jM] : List Value).toArray below meth c H locs 0 0 Q (F0 m 201 ls []) := by
    intro vM_token vM_from vM_to vM_value H locs ls hf hP hD hS hl
    delta fX9_nextToken_b201 at hf
    refine lv_aload_n hx hb dX9_nextToken_201 rfl (lv_at hl 0 rfl) ?_
    refine lv_dup hx hb dX9_nextToken_202 rfl ?_
    refine va_get (D := D) (ci := 9) (v := .int vM_to) (C := RX9) (T := TX9) (N := 29) hx hb hts iw9 hown hK hP 0 rfl rfl 9 (by decide) kw1 (fun _ h9 => h9) rfl dX9_nextToken_203 ?_
    refine lv_aload_n hx hb dX9_nextToken_206 rfl (lv_at hl 0 rfl) ?_
    refine va_get (D := D) (ci := 9) (v := .int vM_token) (C := RX9) (T := TX9) (N := 29) hx hb hts iw9 hown hK hP 0 rfl rfl 7 (by decide) kw2 (fun _ h9 => h9) rfl dX9_nextToken_207 ?_
    refine lv_iconst (v := 2) hx hb dX9_nextToken_210 (by decide) ?_
    refine lv_icmp_le (tgt := 218) hx hb dX9_nextToken_211 (by decide) (fun c_2 => ?_) (fun c_2 => ?_)
    · replace hf := ht_t c_2 hf
      refine lv_iconst (v := 0) hx hb dX9_nextToken_218 (by decide) ?_
      exact b219  vM_to (0 : Int32) vM_token vM_from vM_to vM_value _ _ _ hf hP hD hS (lv_sub hl [] rfl)
    · replace hf := ht_f c_2 hf
      refine lv_iconst (v := 1) hx hb dX9_nextToken_214 (by decide) ?_
      refine lv_goto (tgt := 219) hx hb dX9_nextToken_215 (by decide) ?_
      exact b219  vM_to (1 : Int32) vM_token vM_from vM_to vM_value _ _ _ hf hP hD hS (lv_sub hl [] rfl)
  have b185 : ∀ (k126 : Int32 → Int32 → Int32 → Int32 → Option (Int32 × Int32 × Int32 × Int32)) (hk126 : ∀ (vM_token : Int32) (vM_from : Int32) (vM_to : Int32) (vM_value : Int32) (H : Heap) (locs : List Loc) (ls : Array Slot), k126 vM_token vM_from vM_to vM_value = some o → va_P D vwCl (wMo K jM aM RM.s RM.held RM.aside RM.before RM.isHeld RM.tape RM.taped vM_token vM_from vM_to vM_value RM.isWrong RM.unpaired RM.bestSound RM.bestWay RM.rows RM.rowN RM.sortOf RM.sizeOf RM.numbers RM.holdsWhat RM.holdsWhich RM.holdsMany RM.bodies RM.ran RM.actKind RM.actN RM.actA RM.isParted) H → va_D A (wMo K jM aM RM.s RM.held RM.aside RM.before RM.isHeld RM.tape RM.taped vM_token vM_from vM_to vM_value RM.isWrong RM.unpaired RM.bestSound RM.bestWay RM.rows RM.rowN RM.sortOf RM.sizeOf RM.numbers RM.holdsWhat RM.holdsWhich RM.holdsMany RM.bodies RM.ran RM.actKind RM.actN RM.actA RM.isParted) → va_S A s.heap H locs → lv_has ls 2 [(0, .ref jM)] → W p l e (headSpec wsX9_nextToken rmX9_nextToken).room s m ([.ref jM] : List Value).toArray below meth c H locs 0 0 Q (F0 m 126 ls [])) (t1 : Int32) (vM_token : Int32) (vM_from : Int32) (vM_to : Int32) (vM_value : Int32) (H : Heap) (locs : List Loc) (ls : Array Slot), fX9_nextToken_b185 RM k126 t1 vM_token vM_from vM_to vM_value = some o → va_P D vwCl (wMo K jM aM RM.s RM.held RM.aside RM.before RM.isHeld RM.tape RM.taped vM_token vM_from vM_to vM_value RM.isWrong RM.unpaired RM.bestSound RM.bestWay RM.rows RM.rowN RM.sortOf RM.sizeOf RM.numbers RM.holdsWhat RM.holdsWhich RM.holdsMany RM.bodies RM.ran RM.actKind RM.actN RM.actA RM.isParted) H → va_D A (wMo K jM aM RM.s RM.held RM.aside RM.before RM.isHeld RM.tape RM.taped vM_token vM_from vM_to vM_value RM.isWrong RM.unpaired RM.bestSound RM.bestWay RM.rows RM.rowN RM.sortOf RM.sizeOf RM.numbers RM.holdsWhat RM.holdsWhich RM.holdsMany RM.bodies RM.ran RM.actKind RM.actN RM.actA RM.isParted) → va_S A s.heap H locs → lv_has ls 2 [(0, .ref jM)] → W p l e (headSpec wsX9_nextToken rmX9_nextToken).room s m ([.ref jM] : List Value).toArray below meth c H locs 0 0 Q (F0 m 185 ls [.int t1, .ref jM]) := by
    intro k126 hk126 t1 vM_token vM_from vM_to vM_value H locs ls hf hP hD hS hl
    delta fX9_nextToken_b185 at hf
    refine ht_put (ci := 9) (v := .int t1) (ty := .int) (C := RX9) (T := TX9) (N := 29) (w2 := (wMo K jM aM RM.s RM.held RM.aside RM.before RM.isHeld RM.tape RM.taped vM_token vM_from vM_to t1 RM.isWrong RM.unpaired RM.bestSound RM.bestWay RM.rows RM.rowN RM.sortOf RM.sizeOf RM.numbers RM.holdsWhat RM.holdsWhich RM.holdsMany RM.bodies RM.ran RM.actKind RM.actN RM.actA RM.isParted)) hx hb hts iw9 tyX9 tyX9_ok nmX9 hown hK hP hD hS 0 rfl rfl 10 (by decide) kw3 (fun _ h9 => h9) rfl (by decide +kernel) rfl rfl (Nat.le_of_ble_eq_true rfl) dX9_nextToken_185 rfl (fun H locs hP hD hS => ?_)
    refine lv_aload_n hx hb dX9_nextToken_188 rfl (lv_at hl 0 rfl) ?_
    refine lv_dup hx hb dX9_nextToken_189 rfl ?_
    refine va_get (D := D) (ci := 9) (v := .int vM_to) (C := RX9) (T := TX9) (N := 29) hx hb hts iw9 hown hK hP 0 rfl rfl 9 (by decide) kw1 (fun _ h9 => h9) rfl dX9_nextToken_190 ?_
    refine lv_iconst (v := 1) hx hb dX9_nextToken_193 (by decide) ?_
    refine lv_iadd hx hb dX9_nextToken_194 ?_
    obtain ⟨vM_to_3, evM_to_3, hf⟩ := ht_nm_ob hf
    rw [← evM_to_3]
    refine ht_put (ci := 9) (v := .int vM_to_3) (ty := .int) (C := RX9) (T := TX9) (N := 29) (w2 := (wMo K jM aM RM.s RM.held RM.aside RM.before RM.isHeld RM.tape RM.taped vM_token vM_from vM_to_3 t1 RM.isWrong RM.unpaired RM.bestSound RM.bestWay RM.rows RM.rowN RM.sortOf RM.sizeOf RM.numbers RM.holdsWhat RM.holdsWhich RM.holdsMany RM.bodies RM.ran RM.actKind RM.actN RM.actA RM.isParted)) hx hb hts iw9 tyX9 tyX9_ok nmX9 hown hK hP hD hS 0 rfl rfl 9 (by decide) kw1 (fun _ h9 => h9) rfl (by decide +kernel) rfl rfl (Nat.le_of_ble_eq_true rfl) dX9_nextToken_195 rfl (fun H locs hP hD hS => ?_)
    refine lv_goto (tgt := 126) hx hb dX9_nextToken_198 (by decide) ?_
    exact hk126 vM_token vM_from vM_to_3 t1 _ _ _ hf hP hD hS hl
  have b126 : ∀ (n : Nat) (vM_token : Int32) (vM_from : Int32) (vM_to : Int32) (vM_value : Int32) (H : Heap) (locs : List Loc) (ls : Array Slot), ht_lp4 (fX9_nextToken_b126 RM) n vM_token vM_from vM_to vM_value = some o → va_P D vwCl (wMo K jM aM RM.s RM.held RM.aside RM.before RM.isHeld RM.tape RM.taped vM_token vM_from vM_to vM_value RM.isWrong RM.unpaired RM.bestSound RM.bestWay RM.rows RM.rowN RM.sortOf RM.sizeOf RM.numbers RM.holdsWhat RM.holdsWhich RM.holdsMany RM.bodies RM.ran RM.actKind RM.actN RM.actA RM.isParted) H → va_D A (wMo K jM aM RM.s RM.held RM.aside RM.before RM.isHeld RM.tape RM.taped vM_token vM_from vM_to vM_value RM.isWrong RM.unpaired RM.bestSound RM.bestWay RM.rows RM.rowN RM.sortOf RM.sizeOf RM.numbers RM.holdsWhat RM.holdsWhich RM.holdsMany RM.bodies RM.ran RM.actKind RM.actN RM.actA RM.isParted) → va_S A s.heap H locs → lv_has ls 2 [(0, .ref jM)] → W p l e (headSpec wsX9_nextToken rmX9_nextToken).room s m ([.ref jM] : List Value).toArray below meth c H locs 0 0 Q (F0 m 126 ls []) := by
    intro n
    induction n with
    | zero =>
      intro vM_token vM_from vM_to vM_value H locs ls hf hP hD hS hl
      cases (show (none : Option (Int32 × Int32 × Int32 × Int32)) = some o from hf)
    | succ n hk126 =>
      intro vM_token vM_from vM_to vM_value H locs ls hf hP hD hS hl
      replace hf : fX9_nextToken_b126 RM (ht_lp4 (fX9_nextToken_b126 RM) n) vM_token vM_from vM_to vM_value = some o := hf
      delta fX9_nextToken_b126 at hf
      refine lv_aload_n hx hb dX9_nextToken_126 rfl (lv_at hl 0 rfl) ?_
      refine va_get (D := D) (ci := 9) (v := .int vM_token) (C := RX9) (T := TX9) (N := 29) hx hb hts iw9 hown hK hP 0 rfl rfl 7 (by decide) kw2 (fun _ h9 => h9) rfl dX9_nextToken_127 ?_
      refine lv_iconst (v := 2) hx hb dX9_nextToken_130 (by decide) ?_
      refine lv_icmp_ne (tgt := 201) hx hb dX9_nextToken_131 (by decide) (fun c_4 => ?_) (fun c_4 => ?_)
      · replace hf := ht_f c_4 hf
        exact b201  vM_token vM_from vM_to vM_value _ _ _ hf hP hD hS hl
      · replace hf := ht_t c_4 hf
        refine lv_aload_n hx hb dX9_nextToken_134 rfl (lv_at hl 0 rfl) ?_
        refine lv_aload_n hx hb dX9_nextToken_135 rfl (lv_at hl 0 rfl) ?_
        refine va_get (D := D) (ci := 9) (v := .int vM_to) (C := RX9) (T := TX9) (N := 29) hx hb hts iw9 hown hK hP 0 rfl rfl 9 (by decide) kw1 (fun _ h9 => h9) rfl dX9_nextToken_136 ?_
        obtain ⟨o_5, ho_5, hf⟩ := ht_bn_ob hf
        refine ht_callVi (r := o_5) (rest := []) (As := [.int vM_to]) (wc := (wMo K jM aM RM.s RM.held RM.aside RM.before RM.isHeld RM.tape RM.taped vM_token vM_from vM_to vM_value RM.isWrong RM.unpaired RM.bestSound RM.bestWay RM.rows RM.rowN RM.sortOf RM.sizeOf RM.numbers RM.holdsWhat RM.holdsWhich RM.holdsMany RM.bodies RM.ran RM.actKind RM.actN RM.actA RM.isParted)) (wr := []) (w1 := (wMo K jM aM RM.s RM.held RM.aside RM.before RM.isHeld RM.tape RM.taped vM_token vM_from vM_to vM_value RM.isWrong RM.unpaired RM.bestSound RM.bestWay RM.rows RM.rowN RM.sortOf RM.sizeOf RM.numbers RM.holdsWhat RM.holdsWhich RM.holdsMany RM.bodies RM.ran RM.actKind RM.actN RM.actA RM.isParted)) (w2 := (wMo K jM aM RM.s RM.held RM.aside RM.before RM.isHeld RM.tape RM.taped vM_token vM_from vM_to vM_value RM.isWrong RM.unpaired RM.bestSound RM.bestWay RM.rows RM.rowN RM.sortOf RM.sizeOf RM.numbers RM.holdsWhat RM.holdsWhich RM.holdsMany RM.bodies RM.ran RM.actKind RM.actN RM.actA RM.isParted)) hF (ctX9_byteAt l D K jM aM (RM.s, RM.held, RM.aside, RM.before, RM.isHeld, RM.tape, RM.taped, vM_token, vM_from, vM_to, vM_value, RM.isWrong, RM.unpaired, RM.bestSound, RM.bestWay, RM.rows, RM.rowN, RM.sortOf, RM.sizeOf, RM.numbers, RM.holdsWhat, RM.holdsWhich, RM.holdsMany, RM.bodies, RM.ran, RM.actKind, RM.actN, RM.actA, RM.isParted) vM_to o_5 ho_5 H.size) (cwV 1 hts gX9_nextToken_X9_byteAt rfl rfl rfl hdX9_byteAt ⟨Nat.le_of_ble_eq_true rfl, Nat.le_of_ble_eq_true rfl⟩) hK hP hD hS hA [0, 1, 2, 3, 4, 5, 6, 7, 8, 9, 10, 11, 12, 13, 14, 15] [] rfl rfl (by decide) (by decide) (by decide) [0, 1, 2, 3, 4, 5, 6, 7, 8, 9, 10, 11, 12, 13, 14, 15] rfl (by decide) (va_recv hK hP (ci := 9) (q0 := 0) rfl rfl) rfl hl.1 rfl (Nat.le_of_ble_eq_true rfl) dX9_nextToken_139 ⟨Nat.zero_le _, Nat.zero_le _⟩ (fun H locs hP hD hS => ?_)
        obtain ⟨o_6, ho_6, hf⟩ := ht_bn_ob hf
        refine ht_callSi (r := o_6) (rest := []) (As := [.int o_5]) (wc := []) (wr := (wMo K jM aM RM.s RM.held RM.aside RM.before RM.isHeld RM.tape RM.taped vM_token vM_from vM_to vM_value RM.isWrong RM.unpaired RM.bestSound RM.bestWay RM.rows RM.rowN RM.sortOf RM.sizeOf RM.numbers RM.holdsWhat RM.holdsWhich RM.holdsMany RM.bodies RM.ran RM.actKind RM.actN RM.actA RM.isParted)) (w1 := []) (w2 := (wMo K jM aM RM.s RM.held RM.aside RM.before RM.isHeld RM.tape RM.taped vM_token vM_from vM_to vM_value RM.isWrong RM.unpaired RM.bestSound RM.bestWay RM.rows RM.rowN RM.sortOf RM.sizeOf RM.numbers RM.holdsWhat RM.holdsWhich RM.holdsMany RM.bodies RM.ran RM.actKind RM.actN RM.actA RM.isParted)) hF (ctX9_isDigit l D K o_5 o_6 ho_6 H.size) (va_cwS 1 hts gX9_nextToken_X9_isDigit rfl rfl rfl hdX9_isDigit ⟨Nat.le_of_ble_eq_true rfl, Nat.le_of_ble_eq_true rfl⟩) hK hP hD hS hA [] [0, 1, 2, 3, 4, 5, 6, 7, 8, 9, 10, 11, 12, 13, 14, 15] rfl rfl (by decide) (by decide) (by decide) [0, 1, 2, 3, 4, 5, 6, 7, 8, 9, 10, 11, 12, 13, 14, 15] rfl (by decide) rfl hl.1 rfl (Nat.le_of_ble_eq_true rfl) dX9_nextToken_142 ⟨Nat.zero_le _, Nat.zero_le _⟩ (fun H locs hP hD hS => ?_)
        refine lv_if_eq (tgt := 201) hx hb dX9_nextToken_145 (by decide) (fun c_7 => ?_) (fun c_7 => ?_)
        · replace hf := ht_t c_7 hf
          exact b201  vM_token vM_from vM_to vM_value _ _ _ hf hP hD hS hl
        · replace hf := ht_f c_7 hf
          refine lv_aload_n hx hb dX9_nextToken_148 rfl (lv_at hl 0 rfl) ?_
          refine lv_aload_n hx hb dX9_nextToken_149 rfl (lv_at hl 0 rfl) ?_
          refine va_get (D := D) (ci := 9) (v := .int vM_value) (C := RX9) (T := TX9) (N := 29) hx hb hts iw9 hown hK hP 0 rfl rfl 10 (by decide) kw3 (fun _ h9 => h9) rfl dX9_nextToken_150 ?_
          refine lv_sipush (v := 999) hx hb dX9_nextToken_153 (by decide) ?_
          refine lv_icmp_le (tgt := 166) hx hb dX9_nextToken_156 (by decide) (fun c_8 => ?_) (fun c_8 => ?_)
          · replace hf := ht_t c_8 hf
            refine lv_bipush (v := 10) hx hb dX9_nextToken_166 (by decide) ?_
            refine lv_aload_n hx hb dX9_nextToken_168 rfl (lv_at hl 0 rfl) ?_
            refine va_get (D := D) (ci := 9) (v := .int vM_value) (C := RX9) (T := TX9) (N := 29) hx hb hts iw9 hown hK hP 0 rfl rfl 10 (by decide) kw3 (fun _ h9 => h9) rfl dX9_nextToken_169 ?_
            refine lv_imul hx hb dX9_nextToken_172 ?_
            refine lv_aload_n hx hb dX9_nextToken_173 rfl (lv_at hl 0 rfl) ?_
            refine lv_aload_n hx hb dX9_nextToken_174 rfl (lv_at hl 0 rfl) ?_
            refine va_get (D := D) (ci := 9) (v := .int vM_to) (C := RX9) (T := TX9) (N := 29) hx hb hts iw9 hown hK hP 0 rfl rfl 9 (by decide) kw1 (fun _ h9 => h9) rfl dX9_nextToken_175 ?_
            obtain ⟨o_9, ho_9, hf⟩ := ht_bn_ob hf
            refine ht_callVi (r := o_9) (rest := [.int ((10 : Int32) * vM_value), .ref jM]) (As := [.int vM_to]) (wc := (wMo K jM aM RM.s RM.held RM.aside RM.before RM.isHeld RM.tape RM.taped vM_token vM_from vM_to vM_value RM.isWrong RM.unpaired RM.bestSound RM.bestWay RM.rows RM.rowN RM.sortOf RM.sizeOf RM.numbers RM.holdsWhat RM.holdsWhich RM.holdsMany RM.bodies RM.ran RM.actKind RM.actN RM.actA RM.isParted)) (wr := []) (w1 := (wMo K jM aM RM.s RM.held RM.aside RM.before RM.isHeld RM.tape RM.taped vM_token vM_from vM_to vM_value RM.isWrong RM.unpaired RM.bestSound RM.bestWay RM.rows RM.rowN RM.sortOf RM.sizeOf RM.numbers RM.holdsWhat RM.holdsWhich RM.holdsMany RM.bodies RM.ran RM.actKind RM.actN RM.actA RM.isParted)) (w2 := (wMo K jM aM RM.s RM.held RM.aside RM.before RM.isHeld RM.tape RM.taped vM_token vM_from vM_to vM_value RM.isWrong RM.unpaired RM.bestSound RM.bestWay RM.rows RM.rowN RM.sortOf RM.sizeOf RM.numbers RM.holdsWhat RM.holdsWhich RM.holdsMany RM.bodies RM.ran RM.actKind RM.actN RM.actA RM.isParted)) hF (ctX9_byteAt l D K jM aM (RM.s, RM.held, RM.aside, RM.before, RM.isHeld, RM.tape, RM.taped, vM_token, vM_from, vM_to, vM_value, RM.isWrong, RM.unpaired, RM.bestSound, RM.bestWay, RM.rows, RM.rowN, RM.sortOf, RM.sizeOf, RM.numbers, RM.holdsWhat, RM.holdsWhich, RM.holdsMany, RM.bodies, RM.ran, RM.actKind, RM.actN, RM.actA, RM.isParted) vM_to o_9 ho_9 H.size) (cwV 1 hts gX9_nextToken_X9_byteAt rfl rfl rfl hdX9_byteAt ⟨Nat.le_of_ble_eq_true rfl, Nat.le_of_ble_eq_true rfl⟩) hK hP hD hS hA [0, 1, 2, 3, 4, 5, 6, 7, 8, 9, 10, 11, 12, 13, 14, 15] [] rfl rfl (by decide) (by decide) (by decide) [0, 1, 2, 3, 4, 5, 6, 7, 8, 9, 10, 11, 12, 13, 14, 15] rfl (by decide) (va_recv hK hP (ci := 9) (q0 := 0) rfl rfl) rfl hl.1 rfl (Nat.le_of_ble_eq_true rfl) dX9_nextToken_178 ⟨Nat.zero_le _, Nat.zero_le _⟩ (fun H locs hP hD hS => ?_)
            refine lv_iadd hx hb dX9_nextToken_181 ?_
            refine lv_bipush (v := 48) hx hb dX9_nextToken_182 (by decide) ?_
            refine lv_isub hx hb dX9_nextToken_184 ?_
            exact b185 _ hk126 ((((10 : Int32) * vM_value) + o_9) - (48 : Int32)) vM_token vM_from vM_to vM_value _ _ _ hf hP hD hS hl
          · replace hf := ht_f c_8 hf
            refine lv_aload_n hx hb dX9_nextToken_159 rfl (lv_at hl 0 rfl) ?_
            refine va_get (D := D) (ci := 9) (v := .int vM_value) (C := RX9) (T := TX9) (N := 29) hx hb hts iw9 hown hK hP 0 rfl rfl 10 (by decide) kw3 (fun _ h9 => h9) rfl dX9_nextToken_160 ?_
            refine lv_goto (tgt := 185) hx hb dX9_nextToken_163 (by decide) ?_
            exact b185 _ hk126 vM_value vM_token vM_from vM_to vM_value _ _ _ hf hP hD hS hl
  have b91 : ∀ (n : Nat) (vM_token : Int32) (vM_from : Int32) (vM_to : Int32) (vM_value : Int32) (H : Heap) (locs : List Loc) (ls : Array Slot), ht_lp4 (fX9_nextToken_b91 RM) n vM_token vM_from vM_to vM_value = some o → va_P D vwCl (wMo K jM aM RM.s RM.held RM.aside RM.before RM.isHeld RM.tape RM.taped vM_token vM_from vM_to vM_value RM.isWrong RM.unpaired RM.bestSound RM.bestWay RM.rows RM.rowN RM.sortOf RM.sizeOf RM.numbers RM.holdsWhat RM.holdsWhich RM.holdsMany RM.bodies RM.ran RM.actKind RM.actN RM.actA RM.isParted) H → va_D A (wMo K jM aM RM.s RM.held RM.aside RM.before RM.isHeld RM.tape RM.taped vM_token vM_from vM_to vM_value RM.isWrong RM.unpaired RM.bestSound RM.bestWay RM.rows RM.rowN RM.sortOf RM.sizeOf RM.numbers RM.holdsWhat RM.holdsWhich RM.holdsMany RM.bodies RM.ran RM.actKind RM.actN RM.actA RM.isParted) → va_S A s.heap H locs → lv_has ls 2 [(0, .ref jM)] → W p l e (headSpec wsX9_nextToken rmX9_nextToken).room s m ([.ref jM] : List Value).toArray below meth c H locs 0 0 Q (F0 m 91 ls []) := by
    intro n
    induction n with
    | zero =>
      intro vM_token vM_from vM_to vM_value H locs ls hf hP hD hS hl
      cases (show (none : Option (Int32 × Int32 × Int32 × Int32)) = some o from hf)
    | succ n hk91 =>
      intro vM_token vM_from vM_to vM_value H locs ls hf hP hD hS hl
      replace hf : fX9_nextToken_b91 RM (ht_lp4 (fX9_nextToken_b91 RM) n) vM_token vM_from vM_to vM_value = some o := hf
      delta fX9_nextToken_b91 at hf
      refine lv_aload_n hx hb dX9_nextToken_91 rfl (lv_at hl 0 rfl) ?_
      refine va_get (D := D) (ci := 9) (v := .int vM_token) (C := RX9) (T := TX9) (N := 29) hx hb hts iw9 hown hK hP 0 rfl rfl 7 (by decide) kw2 (fun _ h9 => h9) rfl dX9_nextToken_92 ?_
      refine lv_iconst (v := 1) hx hb dX9_nextToken_95 (by decide) ?_
      refine lv_icmp_ne (tgt := 126) hx hb dX9_nextToken_96 (by decide) (fun c_10 => ?_) (fun c_10 => ?_)
      · replace hf := ht_f c_10 hf
        exact b126  FU vM_token vM_from vM_to vM_value _ _ _ hf hP hD hS hl
      · replace hf := ht_t c_10 hf
        refine lv_aload_n hx hb dX9_nextToken_99 rfl (lv_at hl 0 rfl) ?_
        refine lv_aload_n hx hb dX9_nextToken_100 rfl (lv_at hl 0 rfl) ?_
        refine va_get (D := D) (ci := 9) (v := .int vM_to) (C := RX9) (T := TX9) (N := 29) hx hb hts iw9 hown hK hP 0 rfl rfl 9 (by decide) kw1 (fun _ h9 => h9) rfl dX9_nextToken_101 ?_
        obtain ⟨o_11, ho_11, hf⟩ := ht_bn_ob hf
        refine ht_callVi (r := o_11) (rest := []) (As := [.int vM_to]) (wc := (wMo K jM aM RM.s RM.held RM.aside RM.before RM.isHeld RM.tape RM.taped vM_token vM_from vM_to vM_value RM.isWrong RM.unpaired RM.bestSound RM.bestWay RM.rows RM.rowN RM.sortOf RM.sizeOf RM.numbers RM.holdsWhat RM.holdsWhich RM.holdsMany RM.bodies RM.ran RM.actKind RM.actN RM.actA RM.isParted)) (wr := []) (w1 := (wMo K jM aM RM.s RM.held RM.aside RM.before RM.isHeld RM.tape RM.taped vM_token vM_from vM_to vM_value RM.isWrong RM.unpaired RM.bestSound RM.bestWay RM.rows RM.rowN RM.sortOf RM.sizeOf RM.numbers RM.holdsWhat RM.holdsWhich RM.holdsMany RM.bodies RM.ran RM.actKind RM.actN RM.actA RM.isParted)) (w2 := (wMo K jM aM RM.s RM.held RM.aside RM.before RM.isHeld RM.tape RM.taped vM_token vM_from vM_to vM_value RM.isWrong RM.unpaired RM.bestSound RM.bestWay RM.rows RM.rowN RM.sortOf RM.sizeOf RM.numbers RM.holdsWhat RM.holdsWhich RM.holdsMany RM.bodies RM.ran RM.actKind RM.actN RM.actA RM.isParted)) hF (ctX9_byteAt l D K jM aM (RM.s, RM.held, RM.aside, RM.before, RM.isHeld, RM.tape, RM.taped, vM_token, vM_from, vM_to, vM_value, RM.isWrong, RM.unpaired, RM.bestSound, RM.bestWay, RM.rows, RM.rowN, RM.sortOf, RM.sizeOf, RM.numbers, RM.holdsWhat, RM.holdsWhich, RM.holdsMany, RM.bodies, RM.ran, RM.actKind, RM.actN, RM.actA, RM.isParted) vM_to o_11 ho_11 H.size) (cwV 1 hts gX9_nextToken_X9_byteAt rfl rfl rfl hdX9_byteAt ⟨Nat.le_of_ble_eq_true rfl, Nat.le_of_ble_eq_true rfl⟩) hK hP hD hS hA [0, 1, 2, 3, 4, 5, 6, 7, 8, 9, 10, 11, 12, 13, 14, 15] [] rfl rfl (by decide) (by decide) (by decide) [0, 1, 2, 3, 4, 5, 6, 7, 8, 9, 10, 11, 12, 13, 14, 15] rfl (by decide) (va_recv hK hP (ci := 9) (q0 := 0) rfl rfl) rfl hl.1 rfl (Nat.le_of_ble_eq_true rfl) dX9_nextToken_104 ⟨Nat.zero_le _, Nat.zero_le _⟩ (fun H locs hP hD hS => ?_)
        obtain ⟨o_12, ho_12, hf⟩ := ht_bn_ob hf
        refine ht_callSi (r := o_12) (rest := []) (As := [.int o_11]) (wc := []) (wr := (wMo K jM aM RM.s RM.held RM.aside RM.before RM.isHeld RM.tape RM.taped vM_token vM_from vM_to vM_value RM.isWrong RM.unpaired RM.bestSound RM.bestWay RM.rows RM.rowN RM.sortOf RM.sizeOf RM.numbers RM.holdsWhat RM.holdsWhich RM.holdsMany RM.bodies RM.ran RM.actKind RM.actN RM.actA RM.isParted)) (w1 := []) (w2 := (wMo K jM aM RM.s RM.held RM.aside RM.before RM.isHeld RM.tape RM.taped vM_token vM_from vM_to vM_value RM.isWrong RM.unpaired RM.bestSound RM.bestWay RM.rows RM.rowN RM.sortOf RM.sizeOf RM.numbers RM.holdsWhat RM.holdsWhich RM.holdsMany RM.bodies RM.ran RM.actKind RM.actN RM.actA RM.isParted)) hF (ctX9_isAlpha l D K o_11 o_12 ho_12 H.size) (va_cwS 1 hts gX9_nextToken_X9_isAlpha rfl rfl rfl hdX9_isAlpha ⟨Nat.le_of_ble_eq_true rfl, Nat.le_of_ble_eq_true rfl⟩) hK hP hD hS hA [] [0, 1, 2, 3, 4, 5, 6, 7, 8, 9, 10, 11, 12, 13, 14, 15] rfl rfl (by decide) (by decide) (by decide) [0, 1, 2, 3, 4, 5, 6, 7, 8, 9, 10, 11, 12, 13, 14, 15] rfl (by decide) rfl hl.1 rfl (Nat.le_of_ble_eq_true rfl) dX9_nextToken_107 ⟨Nat.zero_le _, Nat.zero_le _⟩ (fun H locs hP hD hS => ?_)
        refine lv_if_eq (tgt := 126) hx hb dX9_nextToken_110 (by decide) (fun c_13 => ?_) (fun c_13 => ?_)
        · replace hf := ht_t c_13 hf
          exact b126  FU vM_token vM_from vM_to vM_value _ _ _ hf hP hD hS hl
        · replace hf := ht_f c_13 hf
          refine lv_aload_n hx hb dX9_nextToken_113 rfl (lv_at hl 0 rfl) ?_
          refine lv_dup hx hb dX9_nextToken_114 rfl ?_
          refine va_get (D := D) (ci := 9) (v := .int vM_to) (C := RX9) (T := TX9) (N := 29) hx hb hts iw9 hown hK hP 0 rfl rfl 9 (by decide) kw1 (fun _ h9 => h9) rfl dX9_nextToken_115 ?_
          refine lv_iconst (v := 1) hx hb dX9_nextToken_118 (by decide) ?_
          refine lv_iadd hx hb dX9_nextToken_119 ?_
          obtain ⟨vM_to_14, evM_to_14, hf⟩ := ht_nm_ob hf
          rw [← evM_to_14]
          refine ht_put (ci := 9) (v := .int vM_to_14) (ty := .int) (C := RX9) (T := TX9) (N := 29) (w2 := (wMo K jM aM RM.s RM.held RM.aside RM.before RM.isHeld RM.tape RM.taped vM_token vM_from vM_to_14 vM_value RM.isWrong RM.unpaired RM.bestSound RM.bestWay RM.rows RM.rowN RM.sortOf RM.sizeOf RM.numbers RM.holdsWhat RM.holdsWhich RM.holdsMany RM.bodies RM.ran RM.actKind RM.actN RM.actA RM.isParted)) hx hb hts iw9 tyX9 tyX9_ok nmX9 hown hK hP hD hS 0 rfl rfl 9 (by decide) kw1 (fun _ h9 => h9) rfl (by decide +kernel) rfl rfl (Nat.le_of_ble_eq_true rfl) dX9_nextToken_120 rfl (fun H locs hP hD hS => ?_)
          refine lv_goto (tgt := 91) hx hb dX9_nextToken_123 (by decide) ?_
          exact hk91 vM_token vM_from vM_to_14 vM_value _ _ _ hf hP hD hS hl
  have b83 : ∀ (t1 : Int32) (vM_token : Int32) (vM_from : Int32) (vM_to : Int32) (vM_value : Int32) (H : Heap) (locs : List Loc) (ls : Array Slot), fX9_nextToken_b83 RM t1 vM_token vM_from vM_to vM_value = some o → va_P D vwCl (wMo K jM aM RM.s RM.held RM.aside RM.before RM.isHeld RM.tape RM.taped vM_token vM_from vM_to vM_value RM.isWrong RM.unpaired RM.bestSound RM.bestWay RM.rows RM.rowN RM.sortOf RM.sizeOf RM.numbers RM.holdsWhat RM.holdsWhich RM.holdsMany RM.bodies RM.ran RM.actKind RM.actN RM.actA RM.isParted) H → va_D A (wMo K jM aM RM.s RM.held RM.aside RM.before RM.isHeld RM.tape RM.taped vM_token vM_from vM_to vM_value RM.isWrong RM.unpaired RM.bestSound RM.bestWay RM.rows RM.rowN RM.sortOf RM.sizeOf RM.numbers RM.holdsWhat RM.holdsWhich RM.holdsMany RM.bodies RM.ran RM.actKind RM.actN RM.actA RM.isParted) → va_S A s.heap H locs → lv_has ls 2 [(0, .ref jM)] → W p l e (headSpec wsX9_nextToken rmX9_nextToken).room s m ([.ref jM] : List Value).toArray below meth c H locs 0 0 Q (F0 m 83 ls [.int t1, .ref jM]) := by
    intro t1 vM_token vM_from vM_to vM_value H locs ls hf hP hD hS hl
    delta fX9_nextToken_b83 at hf
    refine ht_put (ci := 9) (v := .int t1) (ty := .int) (C := RX9) (T := TX9) (N := 29) (w2 := (wMo K jM aM RM.s RM.held RM.aside RM.before RM.isHeld RM.tape RM.taped t1 vM_from vM_to vM_value RM.isWrong RM.unpaired RM.bestSound RM.bestWay RM.rows RM.rowN RM.sortOf RM.sizeOf RM.numbers RM.holdsWhat RM.holdsWhich RM.holdsMany RM.bodies RM.ran RM.actKind RM.actN RM.actA RM.isParted)) hx hb hts iw9 tyX9 tyX9_ok nmX9 hown hK hP hD hS 0 rfl rfl 7 (by decide) kw2 (fun _ h9 => h9) rfl (by decide +kernel) rfl rfl (Nat.le_of_ble_eq_true rfl) dX9_nextToken_83 rfl (fun H locs hP hD hS => ?_)
    refine lv_aload_n hx hb dX9_nextToken_86 rfl (lv_at hl 0 rfl) ?_
    refine lv_iconst (v := 0) hx hb dX9_nextToken_87 (by decide) ?_
    refine ht_put (ci := 9) (v := .int (0 : Int32)) (ty := .int) (C := RX9) (T := TX9) (N := 29) (w2 := (wMo K jM aM RM.s RM.held RM.aside RM.before RM.isHeld RM.tape RM.taped t1 vM_from vM_to (0 : Int32) RM.isWrong RM.unpaired RM.bestSound RM.bestWay RM.rows RM.rowN RM.sortOf RM.sizeOf RM.numbers RM.holdsWhat RM.holdsWhich RM.holdsMany RM.bodies RM.ran RM.actKind RM.actN RM.actA RM.isParted)) hx hb hts iw9 tyX9 tyX9_ok nmX9 hown hK hP hD hS 0 rfl rfl 10 (by decide) kw3 (fun _ h9 => h9) rfl (by decide +kernel) rfl rfl (Nat.le_of_ble_eq_true rfl) dX9_nextToken_88 rfl (fun H locs hP hD hS => ?_)
    exact b91  FU t1 vM_from vM_to (0 : Int32) _ _ _ hf hP hD hS hl
  have b34 : ∀ (vM_token : Int32) (vM_from : Int32) (vM_to : Int32) (vM_value : Int32) (H : Heap) (locs : List Loc) (ls : Array Slot), fX9_nextToken_b34 RM vM_token vM_from vM_to vM_value = some o → va_P D vwCl (wMo K jM aM RM.s RM.held RM.aside RM.before RM.isHeld RM.tape RM.taped vM_token vM_from vM_to vM_value RM.isWrong RM.unpaired RM.bestSound RM.bestWay RM.rows RM.rowN RM.sortOf RM.sizeOf RM.numbers RM.holdsWhat RM.holdsWhich RM.holdsMany RM.bodies RM.ran RM.actKind RM.actN RM.actA RM.isParted) H → va_D A (wMo K jM aM RM.s RM.held RM.aside RM.before RM.isHeld RM.tape RM.taped vM_token vM_from vM_to vM_value RM.isWrong RM.unpaired RM.bestSound RM.bestWay RM.rows RM.rowN RM.sortOf RM.sizeOf RM.numbers RM.holdsWhat RM.holdsWhich RM.holdsMany RM.bodies RM.ran RM.actKind RM.actN RM.actA RM.isParted) → va_S A s.heap H locs → lv_has ls 2 [(0, .ref jM)] → W p l e (headSpec wsX9_nextToken rmX9_nextToken).room s m ([.ref jM] : List Value).toArray below meth c H locs 0 0 Q (F0 m 34 ls []) := by
    intro vM_token vM_from vM_to vM_value H locs ls hf hP hD hS hl
    delta fX9_nextToken_b34 at hf
    refine lv_aload_n hx hb dX9_nextToken_34 rfl (lv_at hl 0 rfl) ?_
    refine lv_aload_n hx hb dX9_nextToken_35 rfl (lv_at hl 0 rfl) ?_
    refine va_get (D := D) (ci := 9) (v := .int vM_from) (C := RX9) (T := TX9) (N := 29) hx hb hts iw9 hown hK hP 0 rfl rfl 8 (by decide) kw4 (fun _ h9 => h9) rfl dX9_nextToken_36 ?_
    refine ht_put (ci := 9) (v := .int vM_from) (ty := .int) (C := RX9) (T := TX9) (N := 29) (w2 := (wMo K jM aM RM.s RM.held RM.aside RM.before RM.isHeld RM.tape RM.taped vM_token vM_from vM_from vM_value RM.isWrong RM.unpaired RM.bestSound RM.bestWay RM.rows RM.rowN RM.sortOf RM.sizeOf RM.numbers RM.holdsWhat RM.holdsWhich RM.holdsMany RM.bodies RM.ran RM.actKind RM.actN RM.actA RM.isParted)) hx hb hts iw9 tyX9 tyX9_ok nmX9 hown hK hP hD hS 0 rfl rfl 9 (by decide) kw1 (fun _ h9 => h9) rfl (by decide +kernel) rfl rfl (Nat.le_of_ble_eq_true rfl) dX9_nextToken_39 rfl (fun H locs hP hD hS => ?_)
    refine lv_aload_n hx hb dX9_nextToken_42 rfl (lv_at hl 0 rfl) ?_
    refine lv_aload_n hx hb dX9_nextToken_43 rfl (lv_at hl 0 rfl) ?_
    refine va_get (D := D) (ci := 9) (v := .int vM_from) (C := RX9) (T := TX9) (N := 29) hx hb hts iw9 hown hK hP 0 rfl rfl 8 (by decide) kw4 (fun _ h9 => h9) rfl dX9_nextToken_44 ?_
    obtain ⟨o_15, ho_15, hf⟩ := ht_bn_ob hf
    refine ht_callVi (r := o_15) (rest := []) (As := [.int vM_from]) (wc := (wMo K jM aM RM.s RM.held RM.aside RM.before RM.isHeld RM.tape RM.taped vM_token vM_from vM_from vM_value RM.isWrong RM.unpaired RM.bestSound RM.bestWay RM.rows RM.rowN RM.sortOf RM.sizeOf RM.numbers RM.holdsWhat RM.holdsWhich RM.holdsMany RM.bodies RM.ran RM.actKind RM.actN RM.actA RM.isParted)) (wr := []) (w1 := (wMo K jM aM RM.s RM.held RM.aside RM.before RM.isHeld RM.tape RM.taped vM_token vM_from vM_from vM_value RM.isWrong RM.unpaired RM.bestSound RM.bestWay RM.rows RM.rowN RM.sortOf RM.sizeOf RM.numbers RM.holdsWhat RM.holdsWhich RM.holdsMany RM.bodies RM.ran RM.actKind RM.actN RM.actA RM.isParted)) (w2 := (wMo K jM aM RM.s RM.held RM.aside RM.before RM.isHeld RM.tape RM.taped vM_token vM_from vM_from vM_value RM.isWrong RM.unpaired RM.bestSound RM.bestWay RM.rows RM.rowN RM.sortOf RM.sizeOf RM.numbers RM.holdsWhat RM.holdsWhich RM.holdsMany RM.bodies RM.ran RM.actKind RM.actN RM.actA RM.isParted)) hF (ctX9_byteAt l D K jM aM (RM.s, RM.held, RM.aside, RM.before, RM.isHeld, RM.tape, RM.taped, vM_token, vM_from, vM_from, vM_value, RM.isWrong, RM.unpaired, RM.bestSound, RM.bestWay, RM.rows, RM.rowN, RM.sortOf, RM.sizeOf, RM.numbers, RM.holdsWhat, RM.holdsWhich, RM.holdsMany, RM.bodies, RM.ran, RM.actKind, RM.actN, RM.actA, RM.isParted) vM_from o_15 ho_15 H.size) (cwV 1 hts gX9_nextToken_X9_byteAt rfl rfl rfl hdX9_byteAt ⟨Nat.le_of_ble_eq_true rfl, Nat.le_of_ble_eq_true rfl⟩) hK hP hD hS hA [0, 1, 2, 3, 4, 5, 6, 7, 8, 9, 10, 11, 12, 13, 14, 15] [] rfl rfl (by decide) (by decide) (by decide) [0, 1, 2, 3, 4, 5, 6, 7, 8, 9, 10, 11, 12, 13, 14, 15] rfl (by decide) (va_recv hK hP (ci := 9) (q0 := 0) rfl rfl) rfl hl.1 rfl (Nat.le_of_ble_eq_true rfl) dX9_nextToken_47 ⟨Nat.zero_le _, Nat.zero_le _⟩ (fun H locs hP hD hS => ?_)
    refine lv_istore_n (lv' := [(1, .int o_15), (0, .ref jM)]) hx hb dX9_nextToken_50 rfl hl (by decide) rfl (fun ls hl => ?_)
    refine lv_aload_n hx hb dX9_nextToken_51 rfl (lv_at hl 1 rfl) ?_
    refine lv_iload_n hx hb dX9_nextToken_52 rfl (lv_at hl 0 rfl) ?_
    refine lv_if_ge (tgt := 60) hx hb dX9_nextToken_53 (by decide) (fun c_16 => ?_) (fun c_16 => ?_)
    · replace hf := ht_t c_16 hf
      refine lv_iload_n hx hb dX9_nextToken_60 rfl (lv_at hl 0 rfl) ?_
      obtain ⟨o_17, ho_17, hf⟩ := ht_bn_ob hf
      refine ht_callSi (r := o_17) (rest := [.ref jM]) (As := [.int o_15]) (wc := []) (wr := (wMo K jM aM RM.s RM.held RM.aside RM.before RM.isHeld RM.tape RM.taped vM_token vM_from vM_from vM_value RM.isWrong RM.unpaired RM.bestSound RM.bestWay RM.rows RM.rowN RM.sortOf RM.sizeOf RM.numbers RM.holdsWhat RM.holdsWhich RM.holdsMany RM.bodies RM.ran RM.actKind RM.actN RM.actA RM.isParted)) (w1 := []) (w2 := (wMo K jM aM RM.s RM.held RM.aside RM.before RM.isHeld RM.tape RM.taped vM_token vM_from vM_from vM_value RM.isWrong RM.unpaired RM.bestSound RM.bestWay RM.rows RM.rowN RM.sortOf RM.sizeOf RM.numbers RM.holdsWhat RM.holdsWhich RM.holdsMany RM.bodies RM.ran RM.actKind RM.actN RM.actA RM.isParted)) hF (ctX9_isAlpha l D K o_15 o_17 ho_17 H.size) (va_cwS 1 hts gX9_nextToken_X9_isAlpha rfl rfl rfl hdX9_isAlpha ⟨Nat.le_of_ble_eq_true rfl, Nat.le_of_ble_eq_true rfl⟩) hK hP hD hS hA [] [0, 1, 2, 3, 4, 5, 6, 7, 8, 9, 10, 11, 12, 13, 14, 15] rfl rfl (by decide) (by decide) (by decide) [0, 1, 2, 3, 4, 5, 6, 7, 8, 9, 10, 11, 12, 13, 14, 15] rfl (by decide) rfl hl.1 rfl (Nat.le_of_ble_eq_true rfl) dX9_nextToken_61 ⟨Nat.zero_le _, Nat.zero_le _⟩ (fun H locs hP hD hS => ?_)
      refine lv_if_eq (tgt := 71) hx hb dX9_nextToken_64 (by decide) (fun c_18 => ?_) (fun c_18 => ?_)
      · replace hf := ht_t c_18 hf
        refine lv_iload_n hx hb dX9_nextToken_71 rfl (lv_at hl 0 rfl) ?_
        obtain ⟨o_19, ho_19, hf⟩ := ht_bn_ob hf
        refine ht_callSi (r := o_19) (rest := [.ref jM]) (As := [.int o_15]) (wc := []) (wr := (wMo K jM aM RM.s RM.held RM.aside RM.before RM.isHeld RM.tape RM.taped vM_token vM_from vM_from vM_value RM.isWrong RM.unpaired RM.bestSound RM.bestWay RM.rows RM.rowN RM.sortOf RM.sizeOf RM.numbers RM.holdsWhat RM.holdsWhich RM.holdsMany RM.bodies RM.ran RM.actKind RM.actN RM.actA RM.isParted)) (w1 := []) (w2 := (wMo K jM aM RM.s RM.held RM.aside RM.before RM.isHeld RM.tape RM.taped vM_token vM_from vM_from vM_value RM.isWrong RM.unpaired RM.bestSound RM.bestWay RM.rows RM.rowN RM.sortOf RM.sizeOf RM.numbers RM.holdsWhat RM.holdsWhich RM.holdsMany RM.bodies RM.ran RM.actKind RM.actN RM.actA RM.isParted)) hF (ctX9_isDigit l D K o_15 o_19 ho_19 H.size) (va_cwS 1 hts gX9_nextToken_X9_isDigit rfl rfl rfl hdX9_isDigit ⟨Nat.le_of_ble_eq_true rfl, Nat.le_of_ble_eq_true rfl⟩) hK hP hD hS hA [] [0, 1, 2, 3, 4, 5, 6, 7, 8, 9, 10, 11, 12, 13, 14, 15] rfl rfl (by decide) (by decide) (by decide) [0, 1, 2, 3, 4, 5, 6, 7, 8, 9, 10, 11, 12, 13, 14, 15] rfl (by decide) rfl hl.1 rfl (Nat.le_of_ble_eq_true rfl) dX9_nextToken_72 ⟨Nat.zero_le _, Nat.zero_le _⟩ (fun H locs hP hD hS => ?_)
        refine lv_if_eq (tgt := 82) hx hb dX9_nextToken_75 (by decide) (fun c_20 => ?_) (fun c_20 => ?_)
        · replace hf := ht_t c_20 hf
          refine lv_iconst (v := 3) hx hb dX9_nextToken_82 (by decide) ?_
          exact b83  (3 : Int32) vM_token vM_from vM_from vM_value _ _ _ hf hP hD hS (lv_sub hl [1] rfl)
        · replace hf := ht_f c_20 hf
          refine lv_iconst (v := 2) hx hb dX9_nextToken_78 (by decide) ?_
          refine lv_goto (tgt := 83) hx hb dX9_nextToken_79 (by decide) ?_
          exact b83  (2 : Int32) vM_token vM_from vM_from vM_value _ _ _ hf hP hD hS (lv_sub hl [1] rfl)
      · replace hf := ht_f c_18 hf
        refine lv_iconst (v := 1) hx hb dX9_nextToken_67 (by decide) ?_
        refine lv_goto (tgt := 83) hx hb dX9_nextToken_68 (by decide) ?_
        exact b83  (1 : Int32) vM_token vM_from vM_from vM_value _ _ _ hf hP hD hS (lv_sub hl [1] rfl)
    · replace hf := ht_f c_16 hf
      refine lv_iconst (v := 0) hx hb dX9_nextToken_56 (by decide) ?_
      refine lv_goto (tgt := 83) hx hb dX9_nextToken_57 (by decide) ?_
      exact b83  (0 : Int32) vM_token vM_from vM_from vM_value _ _ _ hf hP hD hS (lv_sub hl [1] rfl)
  have b8 : ∀ (n : Nat) (vM_token : Int32) (vM_from : Int32) (vM_to : Int32) (vM_value : Int32) (H : Heap) (locs : List Loc) (ls : Array Slot), ht_lp4 (fX9_nextToken_b8 RM) n vM_token vM_from vM_to vM_value = some o → va_P D vwCl (wMo K jM aM RM.s RM.held RM.aside RM.before RM.isHeld RM.tape RM.taped vM_token vM_from vM_to vM_value RM.isWrong RM.unpaired RM.bestSound RM.bestWay RM.rows RM.rowN RM.sortOf RM.sizeOf RM.numbers RM.holdsWhat RM.holdsWhich RM.holdsMany RM.bodies RM.ran RM.actKind RM.actN RM.actA RM.isParted) H → va_D A (wMo K jM aM RM.s RM.held RM.aside RM.before RM.isHeld RM.tape RM.taped vM_token vM_from vM_to vM_value RM.isWrong RM.unpaired RM.bestSound RM.bestWay RM.rows RM.rowN RM.sortOf RM.sizeOf RM.numbers RM.holdsWhat RM.holdsWhich RM.holdsMany RM.bodies RM.ran RM.actKind RM.actN RM.actA RM.isParted) → va_S A s.heap H locs → lv_has ls 2 [(0, .ref jM)] → W p l e (headSpec wsX9_nextToken rmX9_nextToken).room s m ([.ref jM] : List Value).toArray below meth c H locs 0 0 Q (F0 m 8 ls []) := by
    intro n
    induction n with
    | zero =>
      intro vM_token vM_from vM_to vM_value H locs ls hf hP hD hS hl
      cases (show (none : Option (Int32 × Int32 × Int32 × Int32)) = some o from hf)
    | succ n hk8 =>
      intro vM_token vM_from vM_to vM_value H locs ls hf hP hD hS hl
      replace hf : fX9_nextToken_b8 RM (ht_lp4 (fX9_nextToken_b8 RM) n) vM_token vM_from vM_to vM_value = some o := hf
      delta fX9_nextToken_b8 at hf
      refine lv_aload_n hx hb dX9_nextToken_8 rfl (lv_at hl 0 rfl) ?_
      refine lv_aload_n hx hb dX9_nextToken_9 rfl (lv_at hl 0 rfl) ?_
      refine va_get (D := D) (ci := 9) (v := .int vM_from) (C := RX9) (T := TX9) (N := 29) hx hb hts iw9 hown hK hP 0 rfl rfl 8 (by decide) kw4 (fun _ h9 => h9) rfl dX9_nextToken_10 ?_
      obtain ⟨o_21, ho_21, hf⟩ := ht_bn_ob hf
      refine ht_callVi (r := o_21) (rest := []) (As := [.int vM_from]) (wc := (wMo K jM aM RM.s RM.held RM.aside RM.before RM.isHeld RM.tape RM.taped vM_token vM_from vM_to vM_value RM.isWrong RM.unpaired RM.bestSound RM.bestWay RM.rows RM.rowN RM.sortOf RM.sizeOf RM.numbers RM.holdsWhat RM.holdsWhich RM.holdsMany RM.bodies RM.ran RM.actKind RM.actN RM.actA RM.isParted)) (wr := []) (w1 := (wMo K jM aM RM.s RM.held RM.aside RM.before RM.isHeld RM.tape RM.taped vM_token vM_from vM_to vM_value RM.isWrong RM.unpaired RM.bestSound RM.bestWay RM.rows RM.rowN RM.sortOf RM.sizeOf RM.numbers RM.holdsWhat RM.holdsWhich RM.holdsMany RM.bodies RM.ran RM.actKind RM.actN RM.actA RM.isParted)) (w2 := (wMo K jM aM RM.s RM.held RM.aside RM.before RM.isHeld RM.tape RM.taped vM_token vM_from vM_to vM_value RM.isWrong RM.unpaired RM.bestSound RM.bestWay RM.rows RM.rowN RM.sortOf RM.sizeOf RM.numbers RM.holdsWhat RM.holdsWhich RM.holdsMany RM.bodies RM.ran RM.actKind RM.actN RM.actA RM.isParted)) hF (ctX9_byteAt l D K jM aM (RM.s, RM.held, RM.aside, RM.before, RM.isHeld, RM.tape, RM.taped, vM_token, vM_from, vM_to, vM_value, RM.isWrong, RM.unpaired, RM.bestSound, RM.bestWay, RM.rows, RM.rowN, RM.sortOf, RM.sizeOf, RM.numbers, RM.holdsWhat, RM.holdsWhich, RM.holdsMany, RM.bodies, RM.ran, RM.actKind, RM.actN, RM.actA, RM.isParted) vM_from o_21 ho_21 H.size) (cwV 1 hts gX9_nextToken_X9_byteAt rfl rfl rfl hdX9_byteAt ⟨Nat.le_of_ble_eq_true rfl, Nat.le_of_ble_eq_true rfl⟩) hK hP hD hS hA [0, 1, 2, 3, 4, 5, 6, 7, 8, 9, 10, 11, 12, 13, 14, 15] [] rfl rfl (by decide) (by decide) (by decide) [0, 1, 2, 3, 4, 5, 6, 7, 8, 9, 10, 11, 12, 13, 14, 15] rfl (by decide) (va_recv hK hP (ci := 9) (q0 := 0) rfl rfl) rfl hl.1 rfl (Nat.le_of_ble_eq_true rfl) dX9_nextToken_13 ⟨Nat.zero_le _, Nat.zero_le _⟩ (fun H locs hP hD hS => ?_)
      refine lv_bipush (v := 32) hx hb dX9_nextToken_16 (by decide) ?_
      refine lv_icmp_ne (tgt := 34) hx hb dX9_nextToken_18 (by decide) (fun c_22 => ?_) (fun c_22 => ?_)
      · replace hf := ht_f c_22 hf
        exact b34  vM_token vM_from vM_to vM_value _ _ _ hf hP hD hS hl
      · replace hf := ht_t c_22 hf
        refine lv_aload_n hx hb dX9_nextToken_21 rfl (lv_at hl 0 rfl) ?_
        refine lv_dup hx hb dX9_nextToken_22 rfl ?_
        refine va_get (D := D) (ci := 9) (v := .int vM_from) (C := RX9) (T := TX9) (N := 29) hx hb hts iw9 hown hK hP 0 rfl rfl 8 (by decide) kw4 (fun _ h9 => h9) rfl dX9_nextToken_23 ?_
        refine lv_iconst (v := 1) hx hb dX9_nextToken_26 (by decide) ?_
        refine lv_iadd hx hb dX9_nextToken_27 ?_
        obtain ⟨vM_from_23, evM_from_23, hf⟩ := ht_nm_ob hf
        rw [← evM_from_23]
        refine ht_put (ci := 9) (v := .int vM_from_23) (ty := .int) (C := RX9) (T := TX9) (N := 29) (w2 := (wMo K jM aM RM.s RM.held RM.aside RM.before RM.isHeld RM.tape RM.taped vM_token vM_from_23 vM_to vM_value RM.isWrong RM.unpaired RM.bestSound RM.bestWay RM.rows RM.rowN RM.sortOf RM.sizeOf RM.numbers RM.holdsWhat RM.holdsWhich RM.holdsMany RM.bodies RM.ran RM.actKind RM.actN RM.actA RM.isParted)) hx hb hts iw9 tyX9 tyX9_ok nmX9 hown hK hP hD hS 0 rfl rfl 8 (by decide) kw4 (fun _ h9 => h9) rfl (by decide +kernel) rfl rfl (Nat.le_of_ble_eq_true rfl) dX9_nextToken_28 rfl (fun H locs hP hD hS => ?_)
        refine lv_goto (tgt := 8) hx hb dX9_nextToken_31 (by decide) ?_
        exact hk8 vM_token vM_from_23 vM_to vM_value _ _ _ hf hP hD hS hl
  delta fX9_nextToken at hf
  refine lv_aload_n hx hb dX9_nextToken_0 rfl (lv_at hl 0 rfl) ?_
  refine lv_aload_n hx hb dX9_nextToken_1 rfl (lv_at hl 0 rfl) ?_
  refine va_get (D := D) (ci := 9) (v := .int RM.to) (C := RX9) (T := TX9) (N := 29) hx hb hts iw9 hown hK hP 0 rfl rfl 9 (by decide) kw1 (fun _ h9 => h9) rfl dX9_nextToken_2 ?_
  obtain ⟨vM_from_24, evM_from_24, hf⟩ := ht_nm_ob hf
  rw [← evM_from_24]
  refine ht_put (ci := 9) (v := .int vM_from_24) (ty := .int) (C := RX9) (T := TX9) (N := 29) (w2 := (wMo K jM aM RM.s RM.held RM.aside RM.before RM.isHeld RM.tape RM.taped RM.token vM_from_24 RM.to RM.value RM.isWrong RM.unpaired RM.bestSound RM.bestWay RM.rows RM.rowN RM.sortOf RM.sizeOf RM.numbers RM.holdsWhat RM.holdsWhich RM.holdsMany RM.bodies RM.ran RM.actKind RM.actN RM.actA RM.isParted)) hx hb hts iw9 tyX9 tyX9_ok nmX9 hown hK hP hD hS 0 rfl rfl 8 (by decide) kw4 (fun _ h9 => h9) rfl (by decide +kernel) rfl rfl (Nat.le_of_ble_eq_true rfl) dX9_nextToken_5 rfl (fun H locs hP hD hS => ?_)
  exact b8  FU RM.token vM_from_24 RM.to RM.value _ _ _ hf hP hD hS hl
abbrev rmX9_needs : Room := { frames := 2, cells := 0, slots := 0, locals := 42 }
theorem hdX9_needs : yX9_needs.cls = RX9 ∧ yX9_needs.cls ≠ "java/lang/invoke/MethodHandle" ∧ yX9_needs.cls ≠ "java/lang/invoke/VarHandle" ∧ (parseMethodDescriptor yX9_needs.desc).map (fun d => d.parameters.length) = some 1 := by decide +kernel
def fX9_needs_b17 (RM : ModV) (t1 : Int32) (vM_token : Int32) (vM_from : Int32) (vM_to : Int32) (vM_value : Int32) (vM_isWrong : Int32) : Option (Int32 × Int32 × Int32 × Int32 × Int32) := ht_gd (ht_bz t1) (if t1 = 0 then (ht_bn (fX9_nextToken (RM.s, RM.held, RM.aside, RM.before, RM.isHeld, RM.tape, RM.taped, vM_token, vM_from, vM_to, vM_value, t1, RM.unpaired, RM.bestSound, RM.bestWay, RM.rows, RM.rowN, RM.sortOf, RM.sizeOf, RM.numbers, RM.holdsWhat, RM.holdsWhich, RM.holdsMany, RM.bodies, RM.ran, RM.actKind, RM.actN, RM.actA, RM.isParted)) (fun o_3 => some (o_3.1, o_3.2.1, o_3.2.2.1, o_3.2.2.2, t1))) else (some (vM_token, vM_from, vM_to, vM_value, t1)))
def fX9_needs_b12 (RM : ModV) (vM_token : Int32) (vM_from : Int32) (vM_to : Int32) (vM_value : Int32) (vM_isWrong : Int32) : Option (Int32 × Int32 × Int32 × Int32 × Int32) := fX9_needs_b17 RM (1 : Int32) vM_token vM_from vM_to vM_value vM_isWrong
def fX9_needs (RM : ModV) (p0 : Int32) : Option (Int32 × Int32 × Int32 × Int32 × Int32) := if RM.isWrong = 0 then (if p0 = 0 then (fX9_needs_b12 RM RM.token RM.frm RM.to RM.value RM.isWrong) else (fX9_needs_b17 RM (0 : Int32) RM.token RM.frm RM.to RM.value RM.isWrong)) else (fX9_needs_b12 RM RM.token RM.frm RM.to RM.value RM.isWrong)
set_option maxHeartbeats 1000000 in
set_option maxRecDepth 100000 in
theorem ctX9_needs (l : Launch) (D : va_G) (K : Nat → ClassId) (jM : Nat) (aM : Nat → Nat) (RM : ModV) (p0 : Int32) (o : (Int32 × Int32 × Int32 × Int32 × Int32)) (hf : fX9_needs RM p0 = some o) (sz : Nat) : Met l yX9_needs wsX9_needs rmX9_needs (ht_Pre D K [.ref jM, .int p0] (wMo K jM aM RM.s RM.held RM.aside RM.before RM.isHeld RM.tape RM.taped RM.token RM.frm RM.to RM.value RM.isWrong RM.unpaired RM.bestSound RM.bestWay RM.rows RM.rowN RM.sortOf RM.sizeOf RM.numbers RM.holdsWhat RM.holdsWhich RM.holdsMany RM.bodies RM.ran RM.actKind RM.actN RM.actA RM.isParted) sz) (ht_Qv D K (wMo K jM aM RM.s RM.held RM.aside RM.before RM.isHeld RM.tape RM.taped o.1 o.2.1 o.2.2.1 o.2.2.2.1 o.2.2.2.2 RM.unpaired RM.bestSound RM.bestWay RM.rows RM.rowN RM.sortOf RM.sizeOf RM.numbers RM.holdsWhat RM.holdsWhich RM.holdsMany RM.bodies RM.ran RM.actKind RM.actN RM.actA RM.isParted) (va_A (wMo K jM aM RM.s RM.held RM.aside RM.before RM.isHeld RM.tape RM.taped RM.token RM.frm RM.to RM.value RM.isWrong RM.unpaired RM.bestSound RM.bestWay RM.rows RM.rowN RM.sortOf RM.sizeOf RM.numbers RM.holdsWhat RM.holdsWhich RM.holdsMany RM.bodies RM.ran RM.actKind RM.actN RM.actA RM.isParted) sz)) 0 0 (va_A (wMo K jM aM RM.s RM.held RM.aside RM.before RM.isHeld RM.tape RM.taped RM.token RM.frm RM.to RM.value RM.isWrong RM.unpaired RM.bestSound RM.bestWay RM.rows RM.rowN RM.sortOf RM.sizeOf RM.numbers RM.holdsWhat RM.holdsWhich RM.holdsMany RM.bodies RM.ran RM.actKind RM.actN RM.actA RM.isParted) sz) := by
  refine ht_enter (Qf := ht_Qv D K (wMo K jM aM RM.s RM.held RM.aside RM.before RM.isHeld RM.tape RM.taped o.1 o.2.1 o.2.2.1 o.2.2.2.1 o.2.2.2.2 RM.unpaired RM.bestSound RM.bestWay RM.rows RM.rowN RM.sortOf RM.sizeOf RM.numbers RM.holdsWhat RM.holdsWhich RM.holdsMany RM.bodies RM.ran RM.actKind RM.actN RM.actA RM.isParted)) (cc := cX9_needs) (maxL := 2) (rt := none) (by decide) rfl (Nat.le_of_ble_eq_true rfl) ?_ sz
  intro p e s m below meth c A Q H locs ls hQ hx hb hr hlk hmn hml hown hts hA hK hP hD hS hl
  have hown : s.vm.findClass RX9 = some m.cls := hown
  have hF : CallFix p m c cX9_needs 2 s ([.ref jM, .int p0] : List Value).toArray wsX9_needs RX9 := ⟨hx, hb, hml, hown, hts⟩
  have hl : lv_has ls 2 [(0, .ref jM), (1, .int p0)] := hl
  have iw9 : ∀ w ∈ u_ws RX9 TX9 29, w ∈ wsX9_needs := by decide +kernel
  have kw1 := hts (.fieldLink RX9 93 "HeldTonguesModel" "isWrong" "Z") (by decide +kernel)
  have b17 : ∀ (t1 : Int32) (vM_token : Int32) (vM_from : Int32) (vM_to : Int32) (vM_value : Int32) (vM_isWrong : Int32) (H : Heap) (locs : List Loc) (ls : Array Slot), fX9_needs_b17 RM t1 vM_token vM_from vM_to vM_value vM_isWrong = some o → va_P D vwCl (wMo K jM aM RM.s RM.held RM.aside RM.before RM.isHeld RM.tape RM.taped vM_token vM_from vM_to vM_value vM_isWrong RM.unpaired RM.bestSound RM.bestWay RM.rows RM.rowN RM.sortOf RM.sizeOf RM.numbers RM.holdsWhat RM.holdsWhich RM.holdsMany RM.bodies RM.ran RM.actKind RM.actN RM.actA RM.isParted) H → va_D A (wMo K jM aM RM.s RM.held RM.aside RM.before RM.isHeld RM.tape RM.taped vM_token vM_from vM_to vM_value vM_isWrong RM.unpaired RM.bestSound RM.bestWay RM.rows RM.rowN RM.sortOf RM.sizeOf RM.numbers RM.holdsWhat RM.holdsWhich RM.holdsMany RM.bodies RM.ran RM.actKind RM.actN RM.actA RM.isParted) → va_S A s.heap H locs → lv_has ls 2 [(0, .ref jM)] → W p l e (headSpec wsX9_needs rmX9_needs).room s m ([.ref jM, .int p0] : List Value).toArray below meth c H locs 0 0 Q (F0 m 17 ls [.int t1, .ref jM]) := by
    intro t1 vM_token vM_from vM_to vM_value vM_isWrong H locs ls hf hP hD hS hl
    delta fX9_needs_b17 at hf
    obtain ⟨g_1, hf⟩ := ht_gd_ob hf
    refine ht_put (ci := 9) (v := .int t1) (ty := .boolean) (C := RX9) (T := TX9) (N := 29) (w2 := (wMo K jM aM RM.s RM.held RM.aside RM.before RM.isHeld RM.tape RM.taped vM_token vM_from vM_to vM_value t1 RM.unpaired RM.bestSound RM.bestWay RM.rows RM.rowN RM.sortOf RM.sizeOf RM.numbers RM.holdsWhat RM.holdsWhich RM.holdsMany RM.bodies RM.ran RM.actKind RM.actN RM.actA RM.isParted)) hx hb hts iw9 tyX9 tyX9_ok nmX9 hown hK hP hD hS 0 rfl rfl 11 (by decide) kw1 (fun _ h9 => h9) rfl (by decide +kernel) (ht_bz_nar g_1) (ht_bz_fit g_1) (Nat.le_of_ble_eq_true rfl) dX9_needs_17 rfl (fun H locs hP hD hS => ?_)
    refine lv_aload_n hx hb dX9_needs_20 rfl (lv_at hl 0 rfl) ?_
    refine va_get (D := D) (ci := 9) (v := .int t1) (C := RX9) (T := TX9) (N := 29) hx hb hts iw9 hown hK hP 0 rfl rfl 11 (by decide) kw1 (fun _ h9 => h9) rfl dX9_needs_21 ?_
    refine lv_if_ne (tgt := 31) hx hb dX9_needs_24 (by decide) (fun c_2 => ?_) (fun c_2 => ?_)
    · replace hf := ht_f c_2 hf
      have ho := Option.some.inj hf
      subst ho; subst hQ
      exact ht_vret hx hb hr hlk hK hP hD hS dX9_needs_31
    · replace hf := ht_t c_2 hf
      refine lv_aload_n hx hb dX9_needs_27 rfl (lv_at hl 0 rfl) ?_
      obtain ⟨o_3, ho_3, hf⟩ := ht_bn_ob hf
      refine ht_callVv (rest := []) (As := []) (wc := (wMo K jM aM RM.s RM.held RM.aside RM.before RM.isHeld RM.tape RM.taped vM_token vM_from vM_to vM_value t1 RM.unpaired RM.bestSound RM.bestWay RM.rows RM.rowN RM.sortOf RM.sizeOf RM.numbers RM.holdsWhat RM.holdsWhich RM.holdsMany RM.bodies RM.ran RM.actKind RM.actN RM.actA RM.isParted)) (wr := []) (w1 := (wMo K jM aM RM.s RM.held RM.aside RM.before RM.isHeld RM.tape RM.taped o_3.1 o_3.2.1 o_3.2.2.1 o_3.2.2.2 t1 RM.unpaired RM.bestSound RM.bestWay RM.rows RM.rowN RM.sortOf RM.sizeOf RM.numbers RM.holdsWhat RM.holdsWhich RM.holdsMany RM.bodies RM.ran RM.actKind RM.actN RM.actA RM.isParted)) (w2 := (wMo K jM aM RM.s RM.held RM.aside RM.before RM.isHeld RM.tape RM.taped o_3.1 o_3.2.1 o_3.2.2.1 o_3.2.2.2 t1 RM.unpaired RM.bestSound RM.bestWay RM.rows RM.rowN RM.sortOf RM.sizeOf RM.numbers RM.holdsWhat RM.holdsWhich RM.holdsMany RM.bodies RM.ran RM.actKind RM.actN RM.actA RM.isParted)) hF (ctX9_nextToken l D K jM aM (RM.s, RM.held, RM.aside, RM.before, RM.isHeld, RM.tape, RM.taped, vM_token, vM_from, vM_to, vM_value, t1, RM.unpaired, RM.bestSound, RM.bestWay, RM.rows, RM.rowN, RM.sortOf, RM.sizeOf, RM.numbers, RM.holdsWhat, RM.holdsWhich, RM.holdsMany, RM.bodies, RM.ran, RM.actKind, RM.actN, RM.actA, RM.isParted) o_3 ho_3 H.size) (cwV 0 hts gX9_needs_X9_nextToken rfl rfl rfl hdX9_nextToken ⟨Nat.le_of_ble_eq_true rfl, Nat.le_of_ble_eq_true rfl⟩) hK hP hD hS hA [0, 1, 2, 3, 4, 5, 6, 7, 8, 9, 10, 11, 12, 13, 14, 15] [] rfl rfl (by decide) (by decide) (by decide) [0, 1, 2, 3, 4, 5, 6, 7, 8, 9, 10, 11, 12, 13, 14, 15] rfl (by decide) (va_recv hK hP (ci := 9) (q0 := 0) rfl rfl) rfl hl.1 rfl (Nat.le_of_ble_eq_true rfl) dX9_needs_28 ⟨Nat.zero_le _, Nat.zero_le _⟩ (fun H locs hP hD hS => ?_)
      have ho := Option.some.inj hf
      subst ho; subst hQ
      exact ht_vret hx hb hr hlk hK hP hD hS dX9_needs_31
  have b12 : ∀ (vM_token : Int32) (vM_from : Int32) (vM_to : Int32) (vM_value : Int32) (vM_isWrong : Int32) (H : Heap) (locs : List Loc) (ls : Array Slot), fX9_needs_b12 RM vM_token vM_from vM_to vM_value vM_isWrong = some o → va_P D vwCl (wMo K jM aM RM.s RM.held RM.aside RM.before RM.isHeld RM.tape RM.taped vM_token vM_from vM_to vM_value vM_isWrong RM.unpaired RM.bestSound RM.bestWay RM.rows RM.rowN RM.sortOf RM.sizeOf RM.numbers RM.holdsWhat RM.holdsWhich RM.holdsMany RM.bodies RM.ran RM.actKind RM.actN RM.actA RM.isParted) H → va_D A (wMo K jM aM RM.s RM.held RM.aside RM.before RM.isHeld RM.tape RM.taped vM_token vM_from vM_to vM_value vM_isWrong RM.unpaired RM.bestSound RM.bestWay RM.rows RM.rowN RM.sortOf RM.sizeOf RM.numbers RM.holdsWhat RM.holdsWhich RM.holdsMany RM.bodies RM.ran RM.actKind RM.actN RM.actA RM.isParted) → va_S A s.heap H locs → lv_has ls 2 [(0, .ref jM)] → W p l e (headSpec wsX9_needs rmX9_needs).room s m ([.ref jM, .int p0] : List Value).toArray below meth c H locs 0 0 Q (F0 m 12 ls [.ref jM]) := by
    intro vM_token vM_from vM_to vM_value vM_isWrong H locs ls hf hP hD hS hl
    delta fX9_needs_b12 at hf
    refine lv_iconst (v := 1) hx hb dX9_needs_12 (by decide) ?_
    refine lv_goto (tgt := 17) hx hb dX9_needs_13 (by decide) ?_
    exact b17  (1 : Int32) vM_token vM_from vM_to vM_value vM_isWrong _ _ _ hf hP hD hS hl
  delta fX9_needs at hf
  refine lv_aload_n hx hb dX9_needs_0 rfl (lv_at hl 0 rfl) ?_
  refine lv_aload_n hx hb dX9_needs_1 rfl (lv_at hl 0 rfl) ?_
  refine va_get (D := D) (ci := 9) (v := .int RM.isWrong) (C := RX9) (T := TX9) (N := 29) hx hb hts iw9 hown hK hP 0 rfl rfl 11 (by decide) kw1 (fun _ h9 => h9) rfl dX9_needs_2 ?_
  refine lv_if_ne (tgt := 12) hx hb dX9_needs_5 (by decide) (fun c_4 => ?_) (fun c_4 => ?_)
  · replace hf := ht_f c_4 hf
    exact b12  RM.token RM.frm RM.to RM.value RM.isWrong _ _ _ hf hP hD hS (lv_sub hl [0] rfl)
  · replace hf := ht_t c_4 hf
    refine lv_iload_n hx hb dX9_needs_8 rfl (lv_at hl 1 rfl) ?_
    refine lv_if_ne (tgt := 16) hx hb dX9_needs_9 (by decide) (fun c_5 => ?_) (fun c_5 => ?_)
    · replace hf := ht_f c_5 hf
      refine lv_iconst (v := 0) hx hb dX9_needs_16 (by decide) ?_
      exact b17  (0 : Int32) RM.token RM.frm RM.to RM.value RM.isWrong _ _ _ hf hP hD hS (lv_sub hl [0] rfl)
    · replace hf := ht_t c_5 hf
      exact b12  RM.token RM.frm RM.to RM.value RM.isWrong _ _ _ hf hP hD hS (lv_sub hl [0] rfl)
abbrev rmX9_isName : Room := { frames := 1, cells := 0, slots := 0, locals := 21 }
theorem hdX9_isName : yX9_isName.cls = RX9 ∧ yX9_isName.cls ≠ "java/lang/invoke/MethodHandle" ∧ yX9_isName.cls ≠ "java/lang/invoke/VarHandle" ∧ (parseMethodDescriptor yX9_isName.desc).map (fun d => d.parameters.length) = some 5 := by decide +kernel
def fX9_isName (RM : ModV) (p0 : Int32) (p1 : Int32) (p2 : Int32) (p3 : Int32) (p4 : Int32) : Option Int32 := if RM.token = (1 : Int32) then (if (RM.to - RM.frm) = p0 then (ht_bn (fX9_byteAt RM RM.frm) (fun o_3 => if o_3 = p1 then (ht_bn (fX9_byteAt RM (RM.frm + (1 : Int32))) (fun o_5 => if o_5 = p2 then (ht_bn (fX9_byteAt RM (RM.frm + (2 : Int32))) (fun o_7 => if o_7 = p3 then (ht_bn (fX9_byteAt RM (RM.to - (1 : Int32))) (fun o_9 => if o_9 = p4 then (some (1 : Int32)) else (some (0 : Int32)))) else (some (0 : Int32)))) else (some (0 : Int32)))) else (some (0 : Int32)))) else (some (0 : Int32))) else (some (0 : Int32))
set_option maxHeartbeats 1000000 in
set_option maxRecDepth 100000 in
theorem ctX9_isName (l : Launch) (D : va_G) (K : Nat → ClassId) (jM : Nat) (aM : Nat → Nat) (RM : ModV) (p0 : Int32) (p1 : Int32) (p2 : Int32) (p3 : Int32) (p4 : Int32) (o : Int32) (hf : fX9_isName RM p0 p1 p2 p3 p4 = some o) (sz : Nat) : Met l yX9_isName wsX9_isName rmX9_isName (ht_Pre D K [.ref jM, .int p0, .int p1, .int p2, .int p3, .int p4] (wMo K jM aM RM.s RM.held RM.aside RM.before RM.isHeld RM.tape RM.taped RM.token RM.frm RM.to RM.value RM.isWrong RM.unpaired RM.bestSound RM.bestWay RM.rows RM.rowN RM.sortOf RM.sizeOf RM.numbers RM.holdsWhat RM.holdsWhich RM.holdsMany RM.bodies RM.ran RM.actKind RM.actN RM.actA RM.isParted) sz) (ht_Qi D K (wMo K jM aM RM.s RM.held RM.aside RM.before RM.isHeld RM.tape RM.taped RM.token RM.frm RM.to RM.value RM.isWrong RM.unpaired RM.bestSound RM.bestWay RM.rows RM.rowN RM.sortOf RM.sizeOf RM.numbers RM.holdsWhat RM.holdsWhich RM.holdsMany RM.bodies RM.ran RM.actKind RM.actN RM.actA RM.isParted) o (va_A (wMo K jM aM RM.s RM.held RM.aside RM.before RM.isHeld RM.tape RM.taped RM.token RM.frm RM.to RM.value RM.isWrong RM.unpaired RM.bestSound RM.bestWay RM.rows RM.rowN RM.sortOf RM.sizeOf RM.numbers RM.holdsWhat RM.holdsWhich RM.holdsMany RM.bodies RM.ran RM.actKind RM.actN RM.actA RM.isParted) sz)) 0 0 (va_A (wMo K jM aM RM.s RM.held RM.aside RM.before RM.isHeld RM.tape RM.taped RM.token RM.frm RM.to RM.value RM.isWrong RM.unpaired RM.bestSound RM.bestWay RM.rows RM.rowN RM.sortOf RM.sizeOf RM.numbers RM.holdsWhat RM.holdsWhich RM.holdsMany RM.bodies RM.ran RM.actKind RM.actN RM.actA RM.isParted) sz) := by
  refine ht_enter (Qf := ht_Qi D K (wMo K jM aM RM.s RM.held RM.aside RM.before RM.isHeld RM.tape RM.taped RM.token RM.frm RM.to RM.value RM.isWrong RM.unpaired RM.bestSound RM.bestWay RM.rows RM.rowN RM.sortOf RM.sizeOf RM.numbers RM.holdsWhat RM.holdsWhich RM.holdsMany RM.bodies RM.ran RM.actKind RM.actN RM.actA RM.isParted) o) (cc := cX9_isName) (maxL := 6) (rt := (some .boolean)) (by decide) rfl (Nat.le_of_ble_eq_true rfl) ?_ sz
  intro p e s m below meth c A Q H locs ls hQ hx hb hr hlk hmn hml hown hts hA hK hP hD hS hl
  have hown : s.vm.findClass RX9 = some m.cls := hown
  have hF : CallFix p m c cX9_isName 6 s ([.ref jM, .int p0, .int p1, .int p2, .int p3, .int p4] : List Value).toArray wsX9_isName RX9 := ⟨hx, hb, hml, hown, hts⟩
  have hl : lv_has ls 6 [(0, .ref jM), (1, .int p0), (2, .int p1), (3, .int p2), (4, .int p3), (5, .int p4)] := hl
  have iw9 : ∀ w ∈ u_ws RX9 TX9 29, w ∈ wsX9_isName := by decide +kernel
  have kw1 := hts (.fieldLink RX9 87 "HeldTonguesModel" "token" "I") (by decide +kernel)
  have kw2 := hts (.fieldLink RX9 70 "HeldTonguesModel" "to" "I") (by decide +kernel)
  have kw3 := hts (.fieldLink RX9 73 "HeldTonguesModel" "from" "I") (by decide +kernel)
  delta fX9_isName at hf
  refine lv_aload_n hx hb dX9_isName_0 rfl (lv_at hl 0 rfl) ?_
  refine va_get (D := D) (ci := 9) (v := .int RM.token) (C := RX9) (T := TX9) (N := 29) hx hb hts iw9 hown hK hP 0 rfl rfl 7 (by decide) kw1 (fun _ h9 => h9) rfl dX9_isName_1 ?_
  refine lv_iconst (v := 1) hx hb dX9_isName_4 (by decide) ?_
  refine lv_icmp_ne (tgt := 81) hx hb dX9_isName_5 (by decide) (fun c_1 => ?_) (fun c_1 => ?_)
  · replace hf := ht_f c_1 hf
    refine lv_iconst (v := 0) hx hb dX9_isName_81 (by decide) ?_
    have ho := Option.some.inj hf
    subst ho; subst hQ
    exact ht_iret hx hb hr hlk (show narrow .boolean (.int (0 : Int32)) = .int (0 : Int32) from rfl) hK hP hD hS dX9_isName_82
  · replace hf := ht_t c_1 hf
    refine lv_aload_n hx hb dX9_isName_8 rfl (lv_at hl 0 rfl) ?_
    refine va_get (D := D) (ci := 9) (v := .int RM.to) (C := RX9) (T := TX9) (N := 29) hx hb hts iw9 hown hK hP 0 rfl rfl 9 (by decide) kw2 (fun _ h9 => h9) rfl dX9_isName_9 ?_
    refine lv_aload_n hx hb dX9_isName_12 rfl (lv_at hl 0 rfl) ?_
    refine va_get (D := D) (ci := 9) (v := .int RM.frm) (C := RX9) (T := TX9) (N := 29) hx hb hts iw9 hown hK hP 0 rfl rfl 8 (by decide) kw3 (fun _ h9 => h9) rfl dX9_isName_13 ?_
    refine lv_isub hx hb dX9_isName_16 ?_
    refine lv_iload_n hx hb dX9_isName_17 rfl (lv_at hl 1 rfl) ?_
    refine lv_icmp_ne (tgt := 81) hx hb dX9_isName_18 (by decide) (fun c_2 => ?_) (fun c_2 => ?_)
    · replace hf := ht_f c_2 hf
      refine lv_iconst (v := 0) hx hb dX9_isName_81 (by decide) ?_
      have ho := Option.some.inj hf
      subst ho; subst hQ
      exact ht_iret hx hb hr hlk (show narrow .boolean (.int (0 : Int32)) = .int (0 : Int32) from rfl) hK hP hD hS dX9_isName_82
    · replace hf := ht_t c_2 hf
      refine lv_aload_n hx hb dX9_isName_21 rfl (lv_at hl 0 rfl) ?_
      refine lv_aload_n hx hb dX9_isName_22 rfl (lv_at hl 0 rfl) ?_
      refine va_get (D := D) (ci := 9) (v := .int RM.frm) (C := RX9) (T := TX9) (N := 29) hx hb hts iw9 hown hK hP 0 rfl rfl 8 (by decide) kw3 (fun _ h9 => h9) rfl dX9_isName_23 ?_
      obtain ⟨o_3, ho_3, hf⟩ := ht_bn_ob hf
      refine ht_callVi (r := o_3) (rest := []) (As := [.int RM.frm]) (wc := (wMo K jM aM RM.s RM.held RM.aside RM.before RM.isHeld RM.tape RM.taped RM.token RM.frm RM.to RM.value RM.isWrong RM.unpaired RM.bestSound RM.bestWay RM.rows RM.rowN RM.sortOf RM.sizeOf RM.numbers RM.holdsWhat RM.holdsWhich RM.holdsMany RM.bodies RM.ran RM.actKind RM.actN RM.actA RM.isParted)) (wr := []) (w1 := (wMo K jM aM RM.s RM.held RM.aside RM.before RM.isHeld RM.tape RM.taped RM.token RM.frm RM.to RM.value RM.isWrong RM.unpaired RM.bestSound RM.bestWay RM.rows RM.rowN RM.sortOf RM.sizeOf RM.numbers RM.holdsWhat RM.holdsWhich RM.holdsMany RM.bodies RM.ran RM.actKind RM.actN RM.actA RM.isParted)) (w2 := (wMo K jM aM RM.s RM.held RM.aside RM.before RM.isHeld RM.tape RM.taped RM.token RM.frm RM.to RM.value RM.isWrong RM.unpaired RM.bestSound RM.bestWay RM.rows RM.rowN RM.sortOf RM.sizeOf RM.numbers RM.holdsWhat RM.holdsWhich RM.holdsMany RM.bodies RM.ran RM.actKind RM.actN RM.actA RM.isParted)) hF (ctX9_byteAt l D K jM aM RM RM.frm o_3 ho_3 H.size) (cwV 1 hts gX9_isName_X9_byteAt rfl rfl rfl hdX9_byteAt ⟨Nat.le_of_ble_eq_true rfl, Nat.le_of_ble_eq_true rfl⟩) hK hP hD hS hA [0, 1, 2, 3, 4, 5, 6, 7, 8, 9, 10, 11, 12, 13, 14, 15] [] rfl rfl (by decide) (by decide) (by decide) [0, 1, 2, 3, 4, 5, 6, 7, 8, 9, 10, 11, 12, 13, 14, 15] rfl (by decide) (va_recv hK hP (ci := 9) (q0 := 0) rfl rfl) rfl hl.1 rfl (Nat.le_of_ble_eq_true rfl) dX9_isName_26 ⟨Nat.zero_le _, Nat.zero_le _⟩ (fun H locs hP hD hS => ?_)
      refine lv_iload_n hx hb dX9_isName_29 rfl (lv_at hl 2 rfl) ?_
      refine lv_icmp_ne (tgt := 81) hx hb dX9_isName_30 (by decide) (fun c_4 => ?_) (fun c_4 => ?_)
      · replace hf := ht_f c_4 hf
        refine lv_iconst (v := 0) hx hb dX9_isName_81 (by decide) ?_
        have ho := Option.some.inj hf
        subst ho; subst hQ
        exact ht_iret hx hb hr hlk (show narrow .boolean (.int (0 : Int32)) = .int (0 : Int32) from rfl) hK hP hD hS dX9_isName_82
      · replace hf := ht_t c_4 hf
        refine lv_aload_n hx hb dX9_isName_33 rfl (lv_at hl 0 rfl) ?_
        refine lv_aload_n hx hb dX9_isName_34 rfl (lv_at hl 0 rfl) ?_
        refine va_get (D := D) (ci := 9) (v := .int RM.frm) (C := RX9) (T := TX9) (N := 29) hx hb hts iw9 hown hK hP 0 rfl rfl 8 (by decide) kw3 (fun _ h9 => h9) rfl dX9_isName_35 ?_
        refine lv_iconst (v := 1) hx hb dX9_isName_38 (by decide) ?_
        refine lv_iadd hx hb dX9_isName_39 ?_
        obtain ⟨o_5, ho_5, hf⟩ := ht_bn_ob hf
        refine ht_callVi (r := o_5) (rest := []) (As := [.int (RM.frm + (1 : Int32))]) (wc := (wMo K jM aM RM.s RM.held RM.aside RM.before RM.isHeld RM.tape RM.taped RM.token RM.frm RM.to RM.value RM.isWrong RM.unpaired RM.bestSound RM.bestWay RM.rows RM.rowN RM.sortOf RM.sizeOf RM.numbers RM.holdsWhat RM.holdsWhich RM.holdsMany RM.bodies RM.ran RM.actKind RM.actN RM.actA RM.isParted)) (wr := []) (w1 := (wMo K jM aM RM.s RM.held RM.aside RM.before RM.isHeld RM.tape RM.taped RM.token RM.frm RM.to RM.value RM.isWrong RM.unpaired RM.bestSound RM.bestWay RM.rows RM.rowN RM.sortOf RM.sizeOf RM.numbers RM.holdsWhat RM.holdsWhich RM.holdsMany RM.bodies RM.ran RM.actKind RM.actN RM.actA RM.isParted)) (w2 := (wMo K jM aM RM.s RM.held RM.aside RM.before RM.isHeld RM.tape RM.taped RM.token RM.frm RM.to RM.value RM.isWrong RM.unpaired RM.bestSound RM.bestWay RM.rows RM.rowN RM.sortOf RM.sizeOf RM.numbers RM.holdsWhat RM.holdsWhich RM.holdsMany RM.bodies RM.ran RM.actKind RM.actN RM.actA RM.isParted)) hF (ctX9_byteAt l D K jM aM RM (RM.frm + (1 : Int32)) o_5 ho_5 H.size) (cwV 1 hts gX9_isName_X9_byteAt rfl rfl rfl hdX9_byteAt ⟨Nat.le_of_ble_eq_true rfl, Nat.le_of_ble_eq_true rfl⟩) hK hP hD hS hA [0, 1, 2, 3, 4, 5, 6, 7, 8, 9, 10, 11, 12, 13, 14, 15] [] rfl rfl (by decide) (by decide) (by decide) [0, 1, 2, 3, 4, 5, 6, 7, 8, 9, 10, 11, 12, 13, 14, 15] rfl (by decide) (va_recv hK hP (ci := 9) (q0 := 0) rfl rfl) rfl hl.1 rfl (Nat.le_of_ble_eq_true rfl) dX9_isName_40 ⟨Nat.zero_le _, Nat.zero_le _⟩ (fun H locs hP hD hS => ?_)
        refine lv_iload_n hx hb dX9_isName_43 rfl (lv_at hl 3 rfl) ?_
        refine lv_icmp_ne (tgt := 81) hx hb dX9_isName_44 (by decide) (fun c_6 => ?_) (fun c_6 => ?_)
        · replace hf := ht_f c_6 hf
          refine lv_iconst (v := 0) hx hb dX9_isName_81 (by decide) ?_
          have ho := Option.some.inj hf
          subst ho; subst hQ
          exact ht_iret hx hb hr hlk (show narrow .boolean (.int (0 : Int32)) = .int (0 : Int32) from rfl) hK hP hD hS dX9_isName_82
        · replace hf := ht_t c_6 hf
          refine lv_aload_n hx hb dX9_isName_47 rfl (lv_at hl 0 rfl) ?_
          refine lv_aload_n hx hb dX9_isName_48 rfl (lv_at hl 0 rfl) ?_
          refine va_get (D := D) (ci := 9) (v := .int RM.frm) (C := RX9) (T := TX9) (N := 29) hx hb hts iw9 hown hK hP 0 rfl rfl 8 (by decide) kw3 (fun _ h9 => h9) rfl dX9_isName_49 ?_
          refine lv_iconst (v := 2) hx hb dX9_isName_52 (by decide) ?_
          refine lv_iadd hx hb dX9_isName_53 ?_
          obtain ⟨o_7, ho_7, hf⟩ := ht_bn_ob hf
          refine ht_callVi (r := o_7) (rest := []) (As := [.int (RM.frm + (2 : Int32))]) (wc := (wMo K jM aM RM.s RM.held RM.aside RM.before RM.isHeld RM.tape RM.taped RM.token RM.frm RM.to RM.value RM.isWrong RM.unpaired RM.bestSound RM.bestWay RM.rows RM.rowN RM.sortOf RM.sizeOf RM.numbers RM.holdsWhat RM.holdsWhich RM.holdsMany RM.bodies RM.ran RM.actKind RM.actN RM.actA RM.isParted)) (wr := []) (w1 := (wMo K jM aM RM.s RM.held RM.aside RM.before RM.isHeld RM.tape RM.taped RM.token RM.frm RM.to RM.value RM.isWrong RM.unpaired RM.bestSound RM.bestWay RM.rows RM.rowN RM.sortOf RM.sizeOf RM.numbers RM.holdsWhat RM.holdsWhich RM.holdsMany RM.bodies RM.ran RM.actKind RM.actN RM.actA RM.isParted)) (w2 := (wMo K jM aM RM.s RM.held RM.aside RM.before RM.isHeld RM.tape RM.taped RM.token RM.frm RM.to RM.value RM.isWrong RM.unpaired RM.bestSound RM.bestWay RM.rows RM.rowN RM.sortOf RM.sizeOf RM.numbers RM.holdsWhat RM.holdsWhich RM.holdsMany RM.bodies RM.ran RM.actKind RM.actN RM.actA RM.isParted)) hF (ctX9_byteAt l D K jM aM RM (RM.frm + (2 : Int32)) o_7 ho_7 H.size) (cwV 1 hts gX9_isName_X9_byteAt rfl rfl rfl hdX9_byteAt ⟨Nat.le_of_ble_eq_true rfl, Nat.le_of_ble_eq_true rfl⟩) hK hP hD hS hA [0, 1, 2, 3, 4, 5, 6, 7, 8, 9, 10, 11, 12, 13, 14, 15] [] rfl rfl (by decide) (by decide) (by decide) [0, 1, 2, 3, 4, 5, 6, 7, 8, 9, 10, 11, 12, 13, 14, 15] rfl (by decide) (va_recv hK hP (ci := 9) (q0 := 0) rfl rfl) rfl hl.1 rfl (Nat.le_of_ble_eq_true rfl) dX9_isName_54 ⟨Nat.zero_le _, Nat.zero_le _⟩ (fun H locs hP hD hS => ?_)
          refine lv_iload hx hb dX9_isName_57 (lv_at hl 4 rfl) ?_
          refine lv_icmp_ne (tgt := 81) hx hb dX9_isName_59 (by decide) (fun c_8 => ?_) (fun c_8 => ?_)
          · replace hf := ht_f c_8 hf
            refine lv_iconst (v := 0) hx hb dX9_isName_81 (by decide) ?_
            have ho := Option.some.inj hf
            subst ho; subst hQ
            exact ht_iret hx hb hr hlk (show narrow .boolean (.int (0 : Int32)) = .int (0 : Int32) from rfl) hK hP hD hS dX9_isName_82
          · replace hf := ht_t c_8 hf
            refine lv_aload_n hx hb dX9_isName_62 rfl (lv_at hl 0 rfl) ?_
            refine lv_aload_n hx hb dX9_isName_63 rfl (lv_at hl 0 rfl) ?_
            refine va_get (D := D) (ci := 9) (v := .int RM.to) (C := RX9) (T := TX9) (N := 29) hx hb hts iw9 hown hK hP 0 rfl rfl 9 (by decide) kw2 (fun _ h9 => h9) rfl dX9_isName_64 ?_
            refine lv_iconst (v := 1) hx hb dX9_isName_67 (by decide) ?_
            refine lv_isub hx hb dX9_isName_68 ?_
            obtain ⟨o_9, ho_9, hf⟩ := ht_bn_ob hf
            refine ht_callVi (r := o_9) (rest := []) (As := [.int (RM.to - (1 : Int32))]) (wc := (wMo K jM aM RM.s RM.held RM.aside RM.before RM.isHeld RM.tape RM.taped RM.token RM.frm RM.to RM.value RM.isWrong RM.unpaired RM.bestSound RM.bestWay RM.rows RM.rowN RM.sortOf RM.sizeOf RM.numbers RM.holdsWhat RM.holdsWhich RM.holdsMany RM.bodies RM.ran RM.actKind RM.actN RM.actA RM.isParted)) (wr := []) (w1 := (wMo K jM aM RM.s RM.held RM.aside RM.before RM.isHeld RM.tape RM.taped RM.token RM.frm RM.to RM.value RM.isWrong RM.unpaired RM.bestSound RM.bestWay RM.rows RM.rowN RM.sortOf RM.sizeOf RM.numbers RM.holdsWhat RM.holdsWhich RM.holdsMany RM.bodies RM.ran RM.actKind RM.actN RM.actA RM.isParted)) (w2 := (wMo K jM aM RM.s RM.held RM.aside RM.before RM.isHeld RM.tape RM.taped RM.token RM.frm RM.to RM.value RM.isWrong RM.unpaired RM.bestSound RM.bestWay RM.rows RM.rowN RM.sortOf RM.sizeOf RM.numbers RM.holdsWhat RM.holdsWhich RM.holdsMany RM.bodies RM.ran RM.actKind RM.actN RM.actA RM.isParted)) hF (ctX9_byteAt l D K jM aM RM (RM.to - (1 : Int32)) o_9 ho_9 H.size) (cwV 1 hts gX9_isName_X9_byteAt rfl rfl rfl hdX9_byteAt ⟨Nat.le_of_ble_eq_true rfl, Nat.le_of_ble_eq_true rfl⟩) hK hP hD hS hA [0, 1, 2, 3, 4, 5, 6, 7, 8, 9, 10, 11, 12, 13, 14, 15] [] rfl rfl (by decide) (by decide) (by decide) [0, 1, 2, 3, 4, 5, 6, 7, 8, 9, 10, 11, 12, 13, 14, 15] rfl (by decide) (va_recv hK hP (ci := 9) (q0 := 0) rfl rfl) rfl hl.1 rfl (Nat.le_of_ble_eq_true rfl) dX9_isName_69 ⟨Nat.zero_le _, Nat.zero_le _⟩ (fun H locs hP hD hS => ?_)
            refine lv_iload hx hb dX9_isName_72 (lv_at hl 5 rfl) ?_
            refine lv_icmp_ne (tgt := 81) hx hb dX9_isName_74 (by decide) (fun c_10 => ?_) (fun c_10 => ?_)
            · replace hf := ht_f c_10 hf
              refine lv_iconst (v := 0) hx hb dX9_isName_81 (by decide) ?_
              have ho := Option.some.inj hf
              subst ho; subst hQ
              exact ht_iret hx hb hr hlk (show narrow .boolean (.int (0 : Int32)) = .int (0 : Int32) from rfl) hK hP hD hS dX9_isName_82
            · replace hf := ht_t c_10 hf
              refine lv_iconst (v := 1) hx hb dX9_isName_77 (by decide) ?_
              refine lv_goto (tgt := 82) hx hb dX9_isName_78 (by decide) ?_
              have ho := Option.some.inj hf
              subst ho; subst hQ
              exact ht_iret hx hb hr hlk (show narrow .boolean (.int (1 : Int32)) = .int (1 : Int32) from rfl) hK hP hD hS dX9_isName_82
abbrev rmX9_isSame : Room := { frames := 1, cells := 0, slots := 0, locals := 21 }
theorem hdX9_isSame : yX9_isSame.cls = RX9 ∧ yX9_isSame.cls ≠ "java/lang/invoke/MethodHandle" ∧ yX9_isSame.cls ≠ "java/lang/invoke/VarHandle" ∧ (parseMethodDescriptor yX9_isSame.desc).map (fun d => d.parameters.length) = some 4 := by decide +kernel
def fX9_isSame (RM : ModV) (p0 : Int32) (p1 : Int32) (p2 : Int32) (p3 : Int32) : Option Int32 := ht_bn (fX9_byteAt RM (RM.frm + p0)) (fun o_1 => if o_1 = p1 then (ht_bn (fX9_byteAt RM ((RM.frm + p0) + (1 : Int32))) (fun o_3 => if o_3 = p2 then (ht_bn (fX9_byteAt RM ((RM.frm + p0) + (2 : Int32))) (fun o_5 => if o_5 = p3 then (some (1 : Int32)) else (some (0 : Int32)))) else (some (0 : Int32)))) else (some (0 : Int32)))
set_option maxHeartbeats 1000000 in
set_option maxRecDepth 100000 in
theorem ctX9_isSame (l : Launch) (D : va_G) (K : Nat → ClassId) (jM : Nat) (aM : Nat → Nat) (RM : ModV) (p0 : Int32) (p1 : Int32) (p2 : Int32) (p3 : Int32) (o : Int32) (hf : fX9_isSame RM p0 p1 p2 p3 = some o) (sz : Nat) : Met l yX9_isSame wsX9_isSame rmX9_isSame (ht_Pre D K [.ref jM, .int p0, .int p1, .int p2, .int p3] (wMo K jM aM RM.s RM.held RM.aside RM.before RM.isHeld RM.tape RM.taped RM.token RM.frm RM.to RM.value RM.isWrong RM.unpaired RM.bestSound RM.bestWay RM.rows RM.rowN RM.sortOf RM.sizeOf RM.numbers RM.holdsWhat RM.holdsWhich RM.holdsMany RM.bodies RM.ran RM.actKind RM.actN RM.actA RM.isParted) sz) (ht_Qi D K (wMo K jM aM RM.s RM.held RM.aside RM.before RM.isHeld RM.tape RM.taped RM.token RM.frm RM.to RM.value RM.isWrong RM.unpaired RM.bestSound RM.bestWay RM.rows RM.rowN RM.sortOf RM.sizeOf RM.numbers RM.holdsWhat RM.holdsWhich RM.holdsMany RM.bodies RM.ran RM.actKind RM.actN RM.actA RM.isParted) o (va_A (wMo K jM aM RM.s RM.held RM.aside RM.before RM.isHeld RM.tape RM.taped RM.token RM.frm RM.to RM.value RM.isWrong RM.unpaired RM.bestSound RM.bestWay RM.rows RM.rowN RM.sortOf RM.sizeOf RM.numbers RM.holdsWhat RM.holdsWhich RM.holdsMany RM.bodies RM.ran RM.actKind RM.actN RM.actA RM.isParted) sz)) 0 0 (va_A (wMo K jM aM RM.s RM.held RM.aside RM.before RM.isHeld RM.tape RM.taped RM.token RM.frm RM.to RM.value RM.isWrong RM.unpaired RM.bestSound RM.bestWay RM.rows RM.rowN RM.sortOf RM.sizeOf RM.numbers RM.holdsWhat RM.holdsWhich RM.holdsMany RM.bodies RM.ran RM.actKind RM.actN RM.actA RM.isParted) sz) := by
  refine ht_enter (Qf := ht_Qi D K (wMo K jM aM RM.s RM.held RM.aside RM.before RM.isHeld RM.tape RM.taped RM.token RM.frm RM.to RM.value RM.isWrong RM.unpaired RM.bestSound RM.bestWay RM.rows RM.rowN RM.sortOf RM.sizeOf RM.numbers RM.holdsWhat RM.holdsWhich RM.holdsMany RM.bodies RM.ran RM.actKind RM.actN RM.actA RM.isParted) o) (cc := cX9_isSame) (maxL := 5) (rt := (some .boolean)) (by decide) rfl (Nat.le_of_ble_eq_true rfl) ?_ sz
  intro p e s m below meth c A Q H locs ls hQ hx hb hr hlk hmn hml hown hts hA hK hP hD hS hl
  have hown : s.vm.findClass RX9 = some m.cls := hown
  have hF : CallFix p m c cX9_isSame 5 s ([.ref jM, .int p0, .int p1, .int p2, .int p3] : List Value).toArray wsX9_isSame RX9 := ⟨hx, hb, hml, hown, hts⟩
  have hl : lv_has ls 5 [(0, .ref jM), (1, .int p0), (2, .int p1), (3, .int p2), (4, .int p3)] := hl
  have iw9 : ∀ w ∈ u_ws RX9 TX9 29, w ∈ wsX9_isSame := by decide +kernel
  have kw1 := hts (.fieldLink RX9 73 "HeldTonguesModel" "from" "I") (by decide +kernel)
  delta fX9_isSame at hf
  refine lv_aload_n hx hb dX9_isSame_0 rfl (lv_at hl 0 rfl) ?_
  refine lv_aload_n hx hb dX9_isSame_1 rfl (lv_at hl 0 rfl) ?_
  refine va_get (D := D) (ci := 9) (v := .int RM.frm) (C := RX9) (T := TX9) (N := 29) hx hb hts iw9 hown hK hP 0 rfl rfl 8 (by decide) kw1 (fun _ h9 => h9) rfl dX9_isSame_2 ?_
  refine lv_iload_n hx hb dX9_isSame_5 rfl (lv_at hl 1 rfl) ?_
  refine lv_iadd hx hb dX9_isSame_6 ?_
  obtain ⟨o_1, ho_1, hf⟩ := ht_bn_ob hf
  refine ht_callVi (r := o_1) (rest := []) (As := [.int (RM.frm + p0)]) (wc := (wMo K jM aM RM.s RM.held RM.aside RM.before RM.isHeld RM.tape RM.taped RM.token RM.frm RM.to RM.value RM.isWrong RM.unpaired RM.bestSound RM.bestWay RM.rows RM.rowN RM.sortOf RM.sizeOf RM.numbers RM.holdsWhat RM.holdsWhich RM.holdsMany RM.bodies RM.ran RM.actKind RM.actN RM.actA RM.isParted)) (wr := []) (w1 := (wMo K jM aM RM.s RM.held RM.aside RM.before RM.isHeld RM.tape RM.taped RM.token RM.frm RM.to RM.value RM.isWrong RM.unpaired RM.bestSound RM.bestWay RM.rows RM.rowN RM.sortOf RM.sizeOf RM.numbers RM.holdsWhat RM.holdsWhich RM.holdsMany RM.bodies RM.ran RM.actKind RM.actN RM.actA RM.isParted)) (w2 := (wMo K jM aM RM.s RM.held RM.aside RM.before RM.isHeld RM.tape RM.taped RM.token RM.frm RM.to RM.value RM.isWrong RM.unpaired RM.bestSound RM.bestWay RM.rows RM.rowN RM.sortOf RM.sizeOf RM.numbers RM.holdsWhat RM.holdsWhich RM.holdsMany RM.bodies RM.ran RM.actKind RM.actN RM.actA RM.isParted)) hF (ctX9_byteAt l D K jM aM RM (RM.frm + p0) o_1 ho_1 H.size) (cwV 1 hts gX9_isSame_X9_byteAt rfl rfl rfl hdX9_byteAt ⟨Nat.le_of_ble_eq_true rfl, Nat.le_of_ble_eq_true rfl⟩) hK hP hD hS hA [0, 1, 2, 3, 4, 5, 6, 7, 8, 9, 10, 11, 12, 13, 14, 15] [] rfl rfl (by decide) (by decide) (by decide) [0, 1, 2, 3, 4, 5, 6, 7, 8, 9, 10, 11, 12, 13, 14, 15] rfl (by decide) (va_recv hK hP (ci := 9) (q0 := 0) rfl rfl) rfl hl.1 rfl (Nat.le_of_ble_eq_true rfl) dX9_isSame_7 ⟨Nat.zero_le _, Nat.zero_le _⟩ (fun H locs hP hD hS => ?_)
  refine lv_iload_n hx hb dX9_isSame_10 rfl (lv_at hl 2 rfl) ?_
  refine lv_icmp_ne (tgt := 51) hx hb dX9_isSame_11 (by decide) (fun c_2 => ?_) (fun c_2 => ?_)
  · replace hf := ht_f c_2 hf
    refine lv_iconst (v := 0) hx hb dX9_isSame_51 (by decide) ?_
    have ho := Option.some.inj hf
    subst ho; subst hQ
    exact ht_iret hx hb hr hlk (show narrow .boolean (.int (0 : Int32)) = .int (0 : Int32) from rfl) hK hP hD hS dX9_isSame_52
  · replace hf := ht_t c_2 hf
    refine lv_aload_n hx hb dX9_isSame_14 rfl (lv_at hl 0 rfl) ?_
    refine lv_aload_n hx hb dX9_isSame_15 rfl (lv_at hl 0 rfl) ?_
    refine va_get (D := D) (ci := 9) (v := .int RM.frm) (C := RX9) (T := TX9) (N := 29) hx hb hts iw9 hown hK hP 0 rfl rfl 8 (by decide) kw1 (fun _ h9 => h9) rfl dX9_isSame_16 ?_
    refine lv_iload_n hx hb dX9_isSame_19 rfl (lv_at hl 1 rfl) ?_
    refine lv_iadd hx hb dX9_isSame_20 ?_
    refine lv_iconst (v := 1) hx hb dX9_isSame_21 (by decide) ?_
    refine lv_iadd hx hb dX9_isSame_22 ?_
    obtain ⟨o_3, ho_3, hf⟩ := ht_bn_ob hf
    refine ht_callVi (r := o_3) (rest := []) (As := [.int ((RM.frm + p0) + (1 : Int32))]) (wc := (wMo K jM aM RM.s RM.held RM.aside RM.before RM.isHeld RM.tape RM.taped RM.token RM.frm RM.to RM.value RM.isWrong RM.unpaired RM.bestSound RM.bestWay RM.rows RM.rowN RM.sortOf RM.sizeOf RM.numbers RM.holdsWhat RM.holdsWhich RM.holdsMany RM.bodies RM.ran RM.actKind RM.actN RM.actA RM.isParted)) (wr := []) (w1 := (wMo K jM aM RM.s RM.held RM.aside RM.before RM.isHeld RM.tape RM.taped RM.token RM.frm RM.to RM.value RM.isWrong RM.unpaired RM.bestSound RM.bestWay RM.rows RM.rowN RM.sortOf RM.sizeOf RM.numbers RM.holdsWhat RM.holdsWhich RM.holdsMany RM.bodies RM.ran RM.actKind RM.actN RM.actA RM.isParted)) (w2 := (wMo K jM aM RM.s RM.held RM.aside RM.before RM.isHeld RM.tape RM.taped RM.token RM.frm RM.to RM.value RM.isWrong RM.unpaired RM.bestSound RM.bestWay RM.rows RM.rowN RM.sortOf RM.sizeOf RM.numbers RM.holdsWhat RM.holdsWhich RM.holdsMany RM.bodies RM.ran RM.actKind RM.actN RM.actA RM.isParted)) hF (ctX9_byteAt l D K jM aM RM ((RM.frm + p0) + (1 : Int32)) o_3 ho_3 H.size) (cwV 1 hts gX9_isSame_X9_byteAt rfl rfl rfl hdX9_byteAt ⟨Nat.le_of_ble_eq_true rfl, Nat.le_of_ble_eq_true rfl⟩) hK hP hD hS hA [0, 1, 2, 3, 4, 5, 6, 7, 8, 9, 10, 11, 12, 13, 14, 15] [] rfl rfl (by decide) (by decide) (by decide) [0, 1, 2, 3, 4, 5, 6, 7, 8, 9, 10, 11, 12, 13, 14, 15] rfl (by decide) (va_recv hK hP (ci := 9) (q0 := 0) rfl rfl) rfl hl.1 rfl (Nat.le_of_ble_eq_true rfl) dX9_isSame_23 ⟨Nat.zero_le _, Nat.zero_le _⟩ (fun H locs hP hD hS => ?_)
    refine lv_iload_n hx hb dX9_isSame_26 rfl (lv_at hl 3 rfl) ?_
    refine lv_icmp_ne (tgt := 51) hx hb dX9_isSame_27 (by decide) (fun c_4 => ?_) (fun c_4 => ?_)
    · replace hf := ht_f c_4 hf
      refine lv_iconst (v := 0) hx hb dX9_isSame_51 (by decide) ?_
      have ho := Option.some.inj hf
      subst ho; subst hQ
      exact ht_iret hx hb hr hlk (show narrow .boolean (.int (0 : Int32)) = .int (0 : Int32) from rfl) hK hP hD hS dX9_isSame_52
    · replace hf := ht_t c_4 hf
      refine lv_aload_n hx hb dX9_isSame_30 rfl (lv_at hl 0 rfl) ?_
      refine lv_aload_n hx hb dX9_isSame_31 rfl (lv_at hl 0 rfl) ?_
      refine va_get (D := D) (ci := 9) (v := .int RM.frm) (C := RX9) (T := TX9) (N := 29) hx hb hts iw9 hown hK hP 0 rfl rfl 8 (by decide) kw1 (fun _ h9 => h9) rfl dX9_isSame_32 ?_
      refine lv_iload_n hx hb dX9_isSame_35 rfl (lv_at hl 1 rfl) ?_
      refine lv_iadd hx hb dX9_isSame_36 ?_
      refine lv_iconst (v := 2) hx hb dX9_isSame_37 (by decide) ?_
      refine lv_iadd hx hb dX9_isSame_38 ?_
      obtain ⟨o_5, ho_5, hf⟩ := ht_bn_ob hf
      refine ht_callVi (r := o_5) (rest := []) (As := [.int ((RM.frm + p0) + (2 : Int32))]) (wc := (wMo K jM aM RM.s RM.held RM.aside RM.before RM.isHeld RM.tape RM.taped RM.token RM.frm RM.to RM.value RM.isWrong RM.unpaired RM.bestSound RM.bestWay RM.rows RM.rowN RM.sortOf RM.sizeOf RM.numbers RM.holdsWhat RM.holdsWhich RM.holdsMany RM.bodies RM.ran RM.actKind RM.actN RM.actA RM.isParted)) (wr := []) (w1 := (wMo K jM aM RM.s RM.held RM.aside RM.before RM.isHeld RM.tape RM.taped RM.token RM.frm RM.to RM.value RM.isWrong RM.unpaired RM.bestSound RM.bestWay RM.rows RM.rowN RM.sortOf RM.sizeOf RM.numbers RM.holdsWhat RM.holdsWhich RM.holdsMany RM.bodies RM.ran RM.actKind RM.actN RM.actA RM.isParted)) (w2 := (wMo K jM aM RM.s RM.held RM.aside RM.before RM.isHeld RM.tape RM.taped RM.token RM.frm RM.to RM.value RM.isWrong RM.unpaired RM.bestSound RM.bestWay RM.rows RM.rowN RM.sortOf RM.sizeOf RM.numbers RM.holdsWhat RM.holdsWhich RM.holdsMany RM.bodies RM.ran RM.actKind RM.actN RM.actA RM.isParted)) hF (ctX9_byteAt l D K jM aM RM ((RM.frm + p0) + (2 : Int32)) o_5 ho_5 H.size) (cwV 1 hts gX9_isSame_X9_byteAt rfl rfl rfl hdX9_byteAt ⟨Nat.le_of_ble_eq_true rfl, Nat.le_of_ble_eq_true rfl⟩) hK hP hD hS hA [0, 1, 2, 3, 4, 5, 6, 7, 8, 9, 10, 11, 12, 13, 14, 15] [] rfl rfl (by decide) (by decide) (by decide) [0, 1, 2, 3, 4, 5, 6, 7, 8, 9, 10, 11, 12, 13, 14, 15] rfl (by decide) (va_recv hK hP (ci := 9) (q0 := 0) rfl rfl) rfl hl.1 rfl (Nat.le_of_ble_eq_true rfl) dX9_isSame_39 ⟨Nat.zero_le _, Nat.zero_le _⟩ (fun H locs hP hD hS => ?_)
      refine lv_iload hx hb dX9_isSame_42 (lv_at hl 4 rfl) ?_
      refine lv_icmp_ne (tgt := 51) hx hb dX9_isSame_44 (by decide) (fun c_6 => ?_) (fun c_6 => ?_)
      · replace hf := ht_f c_6 hf
        refine lv_iconst (v := 0) hx hb dX9_isSame_51 (by decide) ?_
        have ho := Option.some.inj hf
        subst ho; subst hQ
        exact ht_iret hx hb hr hlk (show narrow .boolean (.int (0 : Int32)) = .int (0 : Int32) from rfl) hK hP hD hS dX9_isSame_52
      · replace hf := ht_t c_6 hf
        refine lv_iconst (v := 1) hx hb dX9_isSame_47 (by decide) ?_
        refine lv_goto (tgt := 52) hx hb dX9_isSame_48 (by decide) ?_
        have ho := Option.some.inj hf
        subst ho; subst hQ
        exact ht_iret hx hb hr hlk (show narrow .boolean (.int (1 : Int32)) = .int (1 : Int32) from rfl) hK hP hD hS dX9_isSame_52
abbrev rmX9_isFour : Room := { frames := 2, cells := 0, slots := 0, locals := 46 }
theorem hdX9_isFour : yX9_isFour.cls = RX9 ∧ yX9_isFour.cls ≠ "java/lang/invoke/MethodHandle" ∧ yX9_isFour.cls ≠ "java/lang/invoke/VarHandle" ∧ (parseMethodDescriptor yX9_isFour.desc).map (fun d => d.parameters.length) = some 4 := by decide +kernel
def fX9_isFour (RM : ModV) (p0 : Int32) (p1 : Int32) (p2 : Int32) (p3 : Int32) : Option Int32 := ht_bn (fX9_isName RM (4 : Int32) p0 p1 p2 p3) (fun o_1 => ht_gd (ht_bz o_1) (some o_1))
set_option maxHeartbeats 1000000 in
set_option maxRecDepth 100000 in
theorem ctX9_isFour (l : Launch) (D : va_G) (K : Nat → ClassId) (jM : Nat) (aM : Nat → Nat) (RM : ModV) (p0 : Int32) (p1 : Int32) (p2 : Int32) (p3 : Int32) (o : Int32) (hf : fX9_isFour RM p0 p1 p2 p3 = some o) (sz : Nat) : Met l yX9_isFour wsX9_isFour rmX9_isFour (ht_Pre D K [.ref jM, .int p0, .int p1, .int p2, .int p3] (wMo K jM aM RM.s RM.held RM.aside RM.before RM.isHeld RM.tape RM.taped RM.token RM.frm RM.to RM.value RM.isWrong RM.unpaired RM.bestSound RM.bestWay RM.rows RM.rowN RM.sortOf RM.sizeOf RM.numbers RM.holdsWhat RM.holdsWhich RM.holdsMany RM.bodies RM.ran RM.actKind RM.actN RM.actA RM.isParted) sz) (ht_Qi D K (wMo K jM aM RM.s RM.held RM.aside RM.before RM.isHeld RM.tape RM.taped RM.token RM.frm RM.to RM.value RM.isWrong RM.unpaired RM.bestSound RM.bestWay RM.rows RM.rowN RM.sortOf RM.sizeOf RM.numbers RM.holdsWhat RM.holdsWhich RM.holdsMany RM.bodies RM.ran RM.actKind RM.actN RM.actA RM.isParted) o (va_A (wMo K jM aM RM.s RM.held RM.aside RM.before RM.isHeld RM.tape RM.taped RM.token RM.frm RM.to RM.value RM.isWrong RM.unpaired RM.bestSound RM.bestWay RM.rows RM.rowN RM.sortOf RM.sizeOf RM.numbers RM.holdsWhat RM.holdsWhich RM.holdsMany RM.bodies RM.ran RM.actKind RM.actN RM.actA RM.isParted) sz)) 0 0 (va_A (wMo K jM aM RM.s RM.held RM.aside RM.before RM.isHeld RM.tape RM.taped RM.token RM.frm RM.to RM.value RM.isWrong RM.unpaired RM.bestSound RM.bestWay RM.rows RM.rowN RM.sortOf RM.sizeOf RM.numbers RM.holdsWhat RM.holdsWhich RM.holdsMany RM.bodies RM.ran RM.actKind RM.actN RM.actA RM.isParted) sz) := by
  refine ht_enter (Qf := ht_Qi D K (wMo K jM aM RM.s RM.held RM.aside RM.before RM.isHeld RM.tape RM.taped RM.token RM.frm RM.to RM.value RM.isWrong RM.unpaired RM.bestSound RM.bestWay RM.rows RM.rowN RM.sortOf RM.sizeOf RM.numbers RM.holdsWhat RM.holdsWhich RM.holdsMany RM.bodies RM.ran RM.actKind RM.actN RM.actA RM.isParted) o) (cc := cX9_isFour) (maxL := 5) (rt := (some .boolean)) (by decide) rfl (Nat.le_of_ble_eq_true rfl) ?_ sz
  intro p e s m below meth c A Q H locs ls hQ hx hb hr hlk hmn hml hown hts hA hK hP hD hS hl
  have hown : s.vm.findClass RX9 = some m.cls := hown
  have hF : CallFix p m c cX9_isFour 5 s ([.ref jM, .int p0, .int p1, .int p2, .int p3] : List Value).toArray wsX9_isFour RX9 := ⟨hx, hb, hml, hown, hts⟩
  have hl : lv_has ls 5 [(0, .ref jM), (1, .int p0), (2, .int p1), (3, .int p2), (4, .int p3)] := hl
  delta fX9_isFour at hf
  refine lv_aload_n hx hb dX9_isFour_0 rfl (lv_at hl 0 rfl) ?_
  refine lv_iconst (v := 4) hx hb dX9_isFour_1 (by decide) ?_
  refine lv_iload_n hx hb dX9_isFour_2 rfl (lv_at hl 1 rfl) ?_
  refine lv_iload_n hx hb dX9_isFour_3 rfl (lv_at hl 2 rfl) ?_
  refine lv_iload_n hx hb dX9_isFour_4 rfl (lv_at hl 3 rfl) ?_
  refine lv_iload hx hb dX9_isFour_5 (lv_at hl 4 rfl) ?_
  obtain ⟨o_1, ho_1, hf⟩ := ht_bn_ob hf
  refine ht_callVi (r := o_1) (rest := []) (As := [.int (4 : Int32), .int p0, .int p1, .int p2, .int p3]) (wc := (wMo K jM aM RM.s RM.held RM.aside RM.before RM.isHeld RM.tape RM.taped RM.token RM.frm RM.to RM.value RM.isWrong RM.unpaired RM.bestSound RM.bestWay RM.rows RM.rowN RM.sortOf RM.sizeOf RM.numbers RM.holdsWhat RM.holdsWhich RM.holdsMany RM.bodies RM.ran RM.actKind RM.actN RM.actA RM.isParted)) (wr := []) (w1 := (wMo K jM aM RM.s RM.held RM.aside RM.before RM.isHeld RM.tape RM.taped RM.token RM.frm RM.to RM.value RM.isWrong RM.unpaired RM.bestSound RM.bestWay RM.rows RM.rowN RM.sortOf RM.sizeOf RM.numbers RM.holdsWhat RM.holdsWhich RM.holdsMany RM.bodies RM.ran RM.actKind RM.actN RM.actA RM.isParted)) (w2 := (wMo K jM aM RM.s RM.held RM.aside RM.before RM.isHeld RM.tape RM.taped RM.token RM.frm RM.to RM.value RM.isWrong RM.unpaired RM.bestSound RM.bestWay RM.rows RM.rowN RM.sortOf RM.sizeOf RM.numbers RM.holdsWhat RM.holdsWhich RM.holdsMany RM.bodies RM.ran RM.actKind RM.actN RM.actA RM.isParted)) hF (ctX9_isName l D K jM aM RM (4 : Int32) p0 p1 p2 p3 o_1 ho_1 H.size) (cwV 5 hts gX9_isFour_X9_isName rfl rfl rfl hdX9_isName ⟨Nat.le_of_ble_eq_true rfl, Nat.le_of_ble_eq_true rfl⟩) hK hP hD hS hA [0, 1, 2, 3, 4, 5, 6, 7, 8, 9, 10, 11, 12, 13, 14, 15] [] rfl rfl (by decide) (by decide) (by decide) [0, 1, 2, 3, 4, 5, 6, 7, 8, 9, 10, 11, 12, 13, 14, 15] rfl (by decide) (va_recv hK hP (ci := 9) (q0 := 0) rfl rfl) rfl hl.1 rfl (Nat.le_of_ble_eq_true rfl) dX9_isFour_7 ⟨Nat.zero_le _, Nat.zero_le _⟩ (fun H locs hP hD hS => ?_)
  obtain ⟨g_2, hf⟩ := ht_gd_ob hf
  have ho := Option.some.inj hf
  subst ho; subst hQ
  exact ht_iret hx hb hr hlk (ht_bz_nar g_2) hK hP hD hS dX9_isFour_10
abbrev rmX9_isFive : Room := { frames := 2, cells := 0, slots := 0, locals := 46 }
theorem hdX9_isFive : yX9_isFive.cls = RX9 ∧ yX9_isFive.cls ≠ "java/lang/invoke/MethodHandle" ∧ yX9_isFive.cls ≠ "java/lang/invoke/VarHandle" ∧ (parseMethodDescriptor yX9_isFive.desc).map (fun d => d.parameters.length) = some 5 := by decide +kernel
def fX9_isFive (RM : ModV) (p0 : Int32) (p1 : Int32) (p2 : Int32) (p3 : Int32) (p4 : Int32) : Option Int32 := ht_bn (fX9_isName RM (5 : Int32) p0 p1 p2 p4) (fun o_1 => if o_1 = 0 then (some (0 : Int32)) else (ht_bn (fX9_byteAt RM (RM.frm + (3 : Int32))) (fun o_3 => if o_3 = p3 then (some (1 : Int32)) else (some (0 : Int32)))))
set_option maxHeartbeats 1000000 in
set_option maxRecDepth 100000 in
theorem ctX9_isFive (l : Launch) (D : va_G) (K : Nat → ClassId) (jM : Nat) (aM : Nat → Nat) (RM : ModV) (p0 : Int32) (p1 : Int32) (p2 : Int32) (p3 : Int32) (p4 : Int32) (o : Int32) (hf : fX9_isFive RM p0 p1 p2 p3 p4 = some o) (sz : Nat) : Met l yX9_isFive wsX9_isFive rmX9_isFive (ht_Pre D K [.ref jM, .int p0, .int p1, .int p2, .int p3, .int p4] (wMo K jM aM RM.s RM.held RM.aside RM.before RM.isHeld RM.tape RM.taped RM.token RM.frm RM.to RM.value RM.isWrong RM.unpaired RM.bestSound RM.bestWay RM.rows RM.rowN RM.sortOf RM.sizeOf RM.numbers RM.holdsWhat RM.holdsWhich RM.holdsMany RM.bodies RM.ran RM.actKind RM.actN RM.actA RM.isParted) sz) (ht_Qi D K (wMo K jM aM RM.s RM.held RM.aside RM.before RM.isHeld RM.tape RM.taped RM.token RM.frm RM.to RM.value RM.isWrong RM.unpaired RM.bestSound RM.bestWay RM.rows RM.rowN RM.sortOf RM.sizeOf RM.numbers RM.holdsWhat RM.holdsWhich RM.holdsMany RM.bodies RM.ran RM.actKind RM.actN RM.actA RM.isParted) o (va_A (wMo K jM aM RM.s RM.held RM.aside RM.before RM.isHeld RM.tape RM.taped RM.token RM.frm RM.to RM.value RM.isWrong RM.unpaired RM.bestSound RM.bestWay RM.rows RM.rowN RM.sortOf RM.sizeOf RM.numbers RM.holdsWhat RM.holdsWhich RM.holdsMany RM.bodies RM.ran RM.actKind RM.actN RM.actA RM.isParted) sz)) 0 0 (va_A (wMo K jM aM RM.s RM.held RM.aside RM.before RM.isHeld RM.tape RM.taped RM.token RM.frm RM.to RM.value RM.isWrong RM.unpaired RM.bestSound RM.bestWay RM.rows RM.rowN RM.sortOf RM.sizeOf RM.numbers RM.holdsWhat RM.holdsWhich RM.holdsMany RM.bodies RM.ran RM.actKind RM.actN RM.actA RM.isParted) sz) := by
  refine ht_enter (Qf := ht_Qi D K (wMo K jM aM RM.s RM.held RM.aside RM.before RM.isHeld RM.tape RM.taped RM.token RM.frm RM.to RM.value RM.isWrong RM.unpaired RM.bestSound RM.bestWay RM.rows RM.rowN RM.sortOf RM.sizeOf RM.numbers RM.holdsWhat RM.holdsWhich RM.holdsMany RM.bodies RM.ran RM.actKind RM.actN RM.actA RM.isParted) o) (cc := cX9_isFive) (maxL := 6) (rt := (some .boolean)) (by decide) rfl (Nat.le_of_ble_eq_true rfl) ?_ sz
  intro p e s m below meth c A Q H locs ls hQ hx hb hr hlk hmn hml hown hts hA hK hP hD hS hl
  have hown : s.vm.findClass RX9 = some m.cls := hown
  have hF : CallFix p m c cX9_isFive 6 s ([.ref jM, .int p0, .int p1, .int p2, .int p3, .int p4] : List Value).toArray wsX9_isFive RX9 := ⟨hx, hb, hml, hown, hts⟩
  have hl : lv_has ls 6 [(0, .ref jM), (1, .int p0), (2, .int p1), (3, .int p2), (4, .int p3), (5, .int p4)] := hl
  have iw9 : ∀ w ∈ u_ws RX9 TX9 29, w ∈ wsX9_isFive := by decide +kernel
  have kw1 := hts (.fieldLink RX9 73 "HeldTonguesModel" "from" "I") (by decide +kernel)
  delta fX9_isFive at hf
  refine lv_aload_n hx hb dX9_isFive_0 rfl (lv_at hl 0 rfl) ?_
  refine lv_iconst (v := 5) hx hb dX9_isFive_1 (by decide) ?_
  refine lv_iload_n hx hb dX9_isFive_2 rfl (lv_at hl 1 rfl) ?_
  refine lv_iload_n hx hb dX9_isFive_3 rfl (lv_at hl 2 rfl) ?_
  refine lv_iload_n hx hb dX9_isFive_4 rfl (lv_at hl 3 rfl) ?_
  refine lv_iload hx hb dX9_isFive_5 (lv_at hl 5 rfl) ?_
  obtain ⟨o_1, ho_1, hf⟩ := ht_bn_ob hf
  refine ht_callVi (r := o_1) (rest := []) (As := [.int (5 : Int32), .int p0, .int p1, .int p2, .int p4]) (wc := (wMo K jM aM RM.s RM.held RM.aside RM.before RM.isHeld RM.tape RM.taped RM.token RM.frm RM.to RM.value RM.isWrong RM.unpaired RM.bestSound RM.bestWay RM.rows RM.rowN RM.sortOf RM.sizeOf RM.numbers RM.holdsWhat RM.holdsWhich RM.holdsMany RM.bodies RM.ran RM.actKind RM.actN RM.actA RM.isParted)) (wr := []) (w1 := (wMo K jM aM RM.s RM.held RM.aside RM.before RM.isHeld RM.tape RM.taped RM.token RM.frm RM.to RM.value RM.isWrong RM.unpaired RM.bestSound RM.bestWay RM.rows RM.rowN RM.sortOf RM.sizeOf RM.numbers RM.holdsWhat RM.holdsWhich RM.holdsMany RM.bodies RM.ran RM.actKind RM.actN RM.actA RM.isParted)) (w2 := (wMo K jM aM RM.s RM.held RM.aside RM.before RM.isHeld RM.tape RM.taped RM.token RM.frm RM.to RM.value RM.isWrong RM.unpaired RM.bestSound RM.bestWay RM.rows RM.rowN RM.sortOf RM.sizeOf RM.numbers RM.holdsWhat RM.holdsWhich RM.holdsMany RM.bodies RM.ran RM.actKind RM.actN RM.actA RM.isParted)) hF (ctX9_isName l D K jM aM RM (5 : Int32) p0 p1 p2 p4 o_1 ho_1 H.size) (cwV 5 hts gX9_isFive_X9_isName rfl rfl rfl hdX9_isName ⟨Nat.le_of_ble_eq_true rfl, Nat.le_of_ble_eq_true rfl⟩) hK hP hD hS hA [0, 1, 2, 3, 4, 5, 6, 7, 8, 9, 10, 11, 12, 13, 14, 15] [] rfl rfl (by decide) (by decide) (by decide) [0, 1, 2, 3, 4, 5, 6, 7, 8, 9, 10, 11, 12, 13, 14, 15] rfl (by decide) (va_recv hK hP (ci := 9) (q0 := 0) rfl rfl) rfl hl.1 rfl (Nat.le_of_ble_eq_true rfl) dX9_isFive_7 ⟨Nat.zero_le _, Nat.zero_le _⟩ (fun H locs hP hD hS => ?_)
  refine lv_if_eq (tgt := 32) hx hb dX9_isFive_10 (by decide) (fun c_2 => ?_) (fun c_2 => ?_)
  · replace hf := ht_t c_2 hf
    refine lv_iconst (v := 0) hx hb dX9_isFive_32 (by decide) ?_
    have ho := Option.some.inj hf
    subst ho; subst hQ
    exact ht_iret hx hb hr hlk (show narrow .boolean (.int (0 : Int32)) = .int (0 : Int32) from rfl) hK hP hD hS dX9_isFive_33
  · replace hf := ht_f c_2 hf
    refine lv_aload_n hx hb dX9_isFive_13 rfl (lv_at hl 0 rfl) ?_
    refine lv_aload_n hx hb dX9_isFive_14 rfl (lv_at hl 0 rfl) ?_
    refine va_get (D := D) (ci := 9) (v := .int RM.frm) (C := RX9) (T := TX9) (N := 29) hx hb hts iw9 hown hK hP 0 rfl rfl 8 (by decide) kw1 (fun _ h9 => h9) rfl dX9_isFive_15 ?_
    refine lv_iconst (v := 3) hx hb dX9_isFive_18 (by decide) ?_
    refine lv_iadd hx hb dX9_isFive_19 ?_
    obtain ⟨o_3, ho_3, hf⟩ := ht_bn_ob hf
    refine ht_callVi (r := o_3) (rest := []) (As := [.int (RM.frm + (3 : Int32))]) (wc := (wMo K jM aM RM.s RM.held RM.aside RM.before RM.isHeld RM.tape RM.taped RM.token RM.frm RM.to RM.value RM.isWrong RM.unpaired RM.bestSound RM.bestWay RM.rows RM.rowN RM.sortOf RM.sizeOf RM.numbers RM.holdsWhat RM.holdsWhich RM.holdsMany RM.bodies RM.ran RM.actKind RM.actN RM.actA RM.isParted)) (wr := []) (w1 := (wMo K jM aM RM.s RM.held RM.aside RM.before RM.isHeld RM.tape RM.taped RM.token RM.frm RM.to RM.value RM.isWrong RM.unpaired RM.bestSound RM.bestWay RM.rows RM.rowN RM.sortOf RM.sizeOf RM.numbers RM.holdsWhat RM.holdsWhich RM.holdsMany RM.bodies RM.ran RM.actKind RM.actN RM.actA RM.isParted)) (w2 := (wMo K jM aM RM.s RM.held RM.aside RM.before RM.isHeld RM.tape RM.taped RM.token RM.frm RM.to RM.value RM.isWrong RM.unpaired RM.bestSound RM.bestWay RM.rows RM.rowN RM.sortOf RM.sizeOf RM.numbers RM.holdsWhat RM.holdsWhich RM.holdsMany RM.bodies RM.ran RM.actKind RM.actN RM.actA RM.isParted)) hF (ctX9_byteAt l D K jM aM RM (RM.frm + (3 : Int32)) o_3 ho_3 H.size) (cwV 1 hts gX9_isFive_X9_byteAt rfl rfl rfl hdX9_byteAt ⟨Nat.le_of_ble_eq_true rfl, Nat.le_of_ble_eq_true rfl⟩) hK hP hD hS hA [0, 1, 2, 3, 4, 5, 6, 7, 8, 9, 10, 11, 12, 13, 14, 15] [] rfl rfl (by decide) (by decide) (by decide) [0, 1, 2, 3, 4, 5, 6, 7, 8, 9, 10, 11, 12, 13, 14, 15] rfl (by decide) (va_recv hK hP (ci := 9) (q0 := 0) rfl rfl) rfl hl.1 rfl (Nat.le_of_ble_eq_true rfl) dX9_isFive_20 ⟨Nat.zero_le _, Nat.zero_le _⟩ (fun H locs hP hD hS => ?_)
    refine lv_iload hx hb dX9_isFive_23 (lv_at hl 4 rfl) ?_
    refine lv_icmp_ne (tgt := 32) hx hb dX9_isFive_25 (by decide) (fun c_4 => ?_) (fun c_4 => ?_)
    · replace hf := ht_f c_4 hf
      refine lv_iconst (v := 0) hx hb dX9_isFive_32 (by decide) ?_
      have ho := Option.some.inj hf
      subst ho; subst hQ
      exact ht_iret hx hb hr hlk (show narrow .boolean (.int (0 : Int32)) = .int (0 : Int32) from rfl) hK hP hD hS dX9_isFive_33
    · replace hf := ht_t c_4 hf
      refine lv_iconst (v := 1) hx hb dX9_isFive_28 (by decide) ?_
      refine lv_goto (tgt := 33) hx hb dX9_isFive_29 (by decide) ?_
      have ho := Option.some.inj hf
      subst ho; subst hQ
      exact ht_iret hx hb hr hlk (show narrow .boolean (.int (1 : Int32)) = .int (1 : Int32) from rfl) hK hP hD hS dX9_isFive_33
abbrev rmX9_kindHere : Room := { frames := 3, cells := 0, slots := 0, locals := 71 }
theorem hdX9_kindHere : yX9_kindHere.cls = RX9 ∧ yX9_kindHere.cls ≠ "java/lang/invoke/MethodHandle" ∧ yX9_kindHere.cls ≠ "java/lang/invoke/VarHandle" ∧ (parseMethodDescriptor yX9_kindHere.desc).map (fun d => d.parameters.length) = some 0 := by decide +kernel
def fX9_kindHere_b100 (RM : ModV) : Option Int32 := ht_bn (fX9_isFive RM (112 : Int32) (114 : Int32) (105 : Int32) (111 : Int32) (114 : Int32)) (fun o_1 => if o_1 = 0 then (ht_bn (fX9_isFive RM (99 : Int32) (104 : Int32) (105 : Int32) (108 : Int32) (100 : Int32)) (fun o_3 => if o_3 = 0 then (some (-1 : Int32)) else (some (5 : Int32)))) else (some (4 : Int32)))
def fX9_kindHere_b33 (RM : ModV) : Option Int32 := ht_bn (fX9_isFour RM (119 : Int32) (105 : Int32) (102 : Int32) (101 : Int32)) (fun o_5 => if o_5 = 0 then (ht_bn (fX9_isFour RM (109 : Int32) (111 : Int32) (110 : Int32) (107 : Int32)) (fun o_7 => if o_7 = 0 then (ht_bn (fX9_isName RM (6 : Int32) (104 : Int32) (97 : Int32) (119 : Int32) (114 : Int32)) (fun o_9 => if o_9 = 0 then (fX9_kindHere_b100 RM ) else (ht_bn (fX9_isSame RM (2 : Int32) (119 : Int32) (107 : Int32) (101 : Int32)) (fun o_11 => if o_11 = 0 then (fX9_kindHere_b100 RM ) else (some (3 : Int32)))))) else (some (2 : Int32)))) else (some (1 : Int32)))
def fX9_kindHere (RM : ModV) : Option Int32 := ht_bn (fX9_isName RM (7 : Int32) (99 : Int32) (105 : Int32) (116 : Int32) (110 : Int32)) (fun o_13 => if o_13 = 0 then (fX9_kindHere_b33 RM ) else (ht_bn (fX9_isSame RM (3 : Int32) (105 : Int32) (122 : Int32) (101 : Int32)) (fun o_15 => if o_15 = 0 then (fX9_kindHere_b33 RM ) else (some (0 : Int32)))))
set_option maxHeartbeats 1000000 in
set_option maxRecDepth 100000 in
theorem ctX9_kindHere (l : Launch) (D : va_G) (K : Nat → ClassId) (jM : Nat) (aM : Nat → Nat) (RM : ModV) (o : Int32) (hf : fX9_kindHere RM = some o) (sz : Nat) : Met l yX9_kindHere wsX9_kindHere rmX9_kindHere (ht_Pre D K [.ref jM] (wMo K jM aM RM.s RM.held RM.aside RM.before RM.isHeld RM.tape RM.taped RM.token RM.frm RM.to RM.value RM.isWrong RM.unpaired RM.bestSound RM.bestWay RM.rows RM.rowN RM.sortOf RM.sizeOf RM.numbers RM.holdsWhat RM.holdsWhich RM.holdsMany RM.bodies RM.ran RM.actKind RM.actN RM.actA RM.isParted) sz) (ht_Qi D K (wMo K jM aM RM.s RM.held RM.aside RM.before RM.isHeld RM.tape RM.taped RM.token RM.frm RM.to RM.value RM.isWrong RM.unpaired RM.bestSound RM.bestWay RM.rows RM.rowN RM.sortOf RM.sizeOf RM.numbers RM.holdsWhat RM.holdsWhich RM.holdsMany RM.bodies RM.ran RM.actKind RM.actN RM.actA RM.isParted) o (va_A (wMo K jM aM RM.s RM.held RM.aside RM.before RM.isHeld RM.tape RM.taped RM.token RM.frm RM.to RM.value RM.isWrong RM.unpaired RM.bestSound RM.bestWay RM.rows RM.rowN RM.sortOf RM.sizeOf RM.numbers RM.holdsWhat RM.holdsWhich RM.holdsMany RM.bodies RM.ran RM.actKind RM.actN RM.actA RM.isParted) sz)) 0 0 (va_A (wMo K jM aM RM.s RM.held RM.aside RM.before RM.isHeld RM.tape RM.taped RM.token RM.frm RM.to RM.value RM.isWrong RM.unpaired RM.bestSound RM.bestWay RM.rows RM.rowN RM.sortOf RM.sizeOf RM.numbers RM.holdsWhat RM.holdsWhich RM.holdsMany RM.bodies RM.ran RM.actKind RM.actN RM.actA RM.isParted) sz) := by
  refine ht_enter (Qf := ht_Qi D K (wMo K jM aM RM.s RM.held RM.aside RM.before RM.isHeld RM.tape RM.taped RM.token RM.frm RM.to RM.value RM.isWrong RM.unpaired RM.bestSound RM.bestWay RM.rows RM.rowN RM.sortOf RM.sizeOf RM.numbers RM.holdsWhat RM.holdsWhich RM.holdsMany RM.bodies RM.ran RM.actKind RM.actN RM.actA RM.isParted) o) (cc := cX9_kindHere) (maxL := 1) (rt := (some .int)) (by decide) rfl (Nat.le_of_ble_eq_true rfl) ?_ sz
  intro p e s m below meth c A Q H locs ls hQ hx hb hr hlk hmn hml hown hts hA hK hP hD hS hl
  have hown : s.vm.findClass RX9 = some m.cls := hown
  have hF : CallFix p m c cX9_kindHere 1 s ([.ref jM] : List Value).toArray wsX9_kindHere RX9 := ⟨hx, hb, hml, hown, hts⟩
  have hl : lv_has ls 1 [(0, .ref jM)] := hl
  have b100 : ∀ (H : Heap) (locs : List Loc) (ls : Array Slot), fX9_kindHere_b100 RM  = some o → va_P D vwCl (wMo K jM aM RM.s RM.held RM.aside RM.before RM.isHeld RM.tape RM.taped RM.token RM.frm RM.to RM.value RM.isWrong RM.unpaired RM.bestSound RM.bestWay RM.rows RM.rowN RM.sortOf RM.sizeOf RM.numbers RM.holdsWhat RM.holdsWhich RM.holdsMany RM.bodies RM.ran RM.actKind RM.actN RM.actA RM.isParted) H → va_D A (wMo K jM aM RM.s RM.held RM.aside RM.before RM.isHeld RM.tape RM.taped RM.token RM.frm RM.to RM.value RM.isWrong RM.unpaired RM.bestSound RM.bestWay RM.rows RM.rowN RM.sortOf RM.sizeOf RM.numbers RM.holdsWhat RM.holdsWhich RM.holdsMany RM.bodies RM.ran RM.actKind RM.actN RM.actA RM.isParted) → va_S A s.heap H locs → lv_has ls 1 [(0, .ref jM)] → W p l e (headSpec wsX9_kindHere rmX9_kindHere).room s m ([.ref jM] : List Value).toArray below meth c H locs 0 0 Q (F0 m 100 ls []) := by
    intro  H locs ls hf hP hD hS hl
    delta fX9_kindHere_b100 at hf
    refine lv_aload_n hx hb dX9_kindHere_100 rfl (lv_at hl 0 rfl) ?_
    refine lv_bipush (v := 112) hx hb dX9_kindHere_101 (by decide) ?_
    refine lv_bipush (v := 114) hx hb dX9_kindHere_103 (by decide) ?_
    refine lv_bipush (v := 105) hx hb dX9_kindHere_105 (by decide) ?_
    refine lv_bipush (v := 111) hx hb dX9_kindHere_107 (by decide) ?_
    refine lv_bipush (v := 114) hx hb dX9_kindHere_109 (by decide) ?_
    obtain ⟨o_1, ho_1, hf⟩ := ht_bn_ob hf
    refine ht_callVi (r := o_1) (rest := []) (As := [.int (112 : Int32), .int (114 : Int32), .int (105 : Int32), .int (111 : Int32), .int (114 : Int32)]) (wc := (wMo K jM aM RM.s RM.held RM.aside RM.before RM.isHeld RM.tape RM.taped RM.token RM.frm RM.to RM.value RM.isWrong RM.unpaired RM.bestSound RM.bestWay RM.rows RM.rowN RM.sortOf RM.sizeOf RM.numbers RM.holdsWhat RM.holdsWhich RM.holdsMany RM.bodies RM.ran RM.actKind RM.actN RM.actA RM.isParted)) (wr := []) (w1 := (wMo K jM aM RM.s RM.held RM.aside RM.before RM.isHeld RM.tape RM.taped RM.token RM.frm RM.to RM.value RM.isWrong RM.unpaired RM.bestSound RM.bestWay RM.rows RM.rowN RM.sortOf RM.sizeOf RM.numbers RM.holdsWhat RM.holdsWhich RM.holdsMany RM.bodies RM.ran RM.actKind RM.actN RM.actA RM.isParted)) (w2 := (wMo K jM aM RM.s RM.held RM.aside RM.before RM.isHeld RM.tape RM.taped RM.token RM.frm RM.to RM.value RM.isWrong RM.unpaired RM.bestSound RM.bestWay RM.rows RM.rowN RM.sortOf RM.sizeOf RM.numbers RM.holdsWhat RM.holdsWhich RM.holdsMany RM.bodies RM.ran RM.actKind RM.actN RM.actA RM.isParted)) hF (ctX9_isFive l D K jM aM RM (112 : Int32) (114 : Int32) (105 : Int32) (111 : Int32) (114 : Int32) o_1 ho_1 H.size) (cwV 5 hts gX9_kindHere_X9_isFive rfl rfl rfl hdX9_isFive ⟨Nat.le_of_ble_eq_true rfl, Nat.le_of_ble_eq_true rfl⟩) hK hP hD hS hA [0, 1, 2, 3, 4, 5, 6, 7, 8, 9, 10, 11, 12, 13, 14, 15] [] rfl rfl (by decide) (by decide) (by decide) [0, 1, 2, 3, 4, 5, 6, 7, 8, 9, 10, 11, 12, 13, 14, 15] rfl (by decide) (va_recv hK hP (ci := 9) (q0 := 0) rfl rfl) rfl hl.1 rfl (Nat.le_of_ble_eq_true rfl) dX9_kindHere_111 ⟨Nat.zero_le _, Nat.zero_le _⟩ (fun H locs hP hD hS => ?_)
    refine lv_if_eq (tgt := 119) hx hb dX9_kindHere_114 (by decide) (fun c_2 => ?_) (fun c_2 => ?_)
    · replace hf := ht_t c_2 hf
      refine lv_aload_n hx hb dX9_kindHere_119 rfl (lv_at hl 0 rfl) ?_
      refine lv_bipush (v := 99) hx hb dX9_kindHere_120 (by decide) ?_
      refine lv_bipush (v := 104) hx hb dX9_kindHere_122 (by decide) ?_
      refine lv_bipush (v := 105) hx hb dX9_kindHere_124 (by decide) ?_
      refine lv_bipush (v := 108) hx hb dX9_kindHere_126 (by decide) ?_
      refine lv_bipush (v := 100) hx hb dX9_kindHere_128 (by decide) ?_
      obtain ⟨o_3, ho_3, hf⟩ := ht_bn_ob hf
      refine ht_callVi (r := o_3) (rest := []) (As := [.int (99 : Int32), .int (104 : Int32), .int (105 : Int32), .int (108 : Int32), .int (100 : Int32)]) (wc := (wMo K jM aM RM.s RM.held RM.aside RM.before RM.isHeld RM.tape RM.taped RM.token RM.frm RM.to RM.value RM.isWrong RM.unpaired RM.bestSound RM.bestWay RM.rows RM.rowN RM.sortOf RM.sizeOf RM.numbers RM.holdsWhat RM.holdsWhich RM.holdsMany RM.bodies RM.ran RM.actKind RM.actN RM.actA RM.isParted)) (wr := []) (w1 := (wMo K jM aM RM.s RM.held RM.aside RM.before RM.isHeld RM.tape RM.taped RM.token RM.frm RM.to RM.value RM.isWrong RM.unpaired RM.bestSound RM.bestWay RM.rows RM.rowN RM.sortOf RM.sizeOf RM.numbers RM.holdsWhat RM.holdsWhich RM.holdsMany RM.bodies RM.ran RM.actKind RM.actN RM.actA RM.isParted)) (w2 := (wMo K jM aM RM.s RM.held RM.aside RM.before RM.isHeld RM.tape RM.taped RM.token RM.frm RM.to RM.value RM.isWrong RM.unpaired RM.bestSound RM.bestWay RM.rows RM.rowN RM.sortOf RM.sizeOf RM.numbers RM.holdsWhat RM.holdsWhich RM.holdsMany RM.bodies RM.ran RM.actKind RM.actN RM.actA RM.isParted)) hF (ctX9_isFive l D K jM aM RM (99 : Int32) (104 : Int32) (105 : Int32) (108 : Int32) (100 : Int32) o_3 ho_3 H.size) (cwV 5 hts gX9_kindHere_X9_isFive rfl rfl rfl hdX9_isFive ⟨Nat.le_of_ble_eq_true rfl, Nat.le_of_ble_eq_true rfl⟩) hK hP hD hS hA [0, 1, 2, 3, 4, 5, 6, 7, 8, 9, 10, 11, 12, 13, 14, 15] [] rfl rfl (by decide) (by decide) (by decide) [0, 1, 2, 3, 4, 5, 6, 7, 8, 9, 10, 11, 12, 13, 14, 15] rfl (by decide) (va_recv hK hP (ci := 9) (q0 := 0) rfl rfl) rfl hl.1 rfl (Nat.le_of_ble_eq_true rfl) dX9_kindHere_130 ⟨Nat.zero_le _, Nat.zero_le _⟩ (fun H locs hP hD hS => ?_)
      refine lv_if_eq (tgt := 140) hx hb dX9_kindHere_133 (by decide) (fun c_4 => ?_) (fun c_4 => ?_)
      · replace hf := ht_t c_4 hf
        refine lv_iconst (v := -1) hx hb dX9_kindHere_140 (by decide) ?_
        have ho := Option.some.inj hf
        subst ho; subst hQ
        exact ht_iret hx hb hr hlk rfl hK hP hD hS dX9_kindHere_141
      · replace hf := ht_f c_4 hf
        refine lv_iconst (v := 5) hx hb dX9_kindHere_136 (by decide) ?_
        refine lv_goto (tgt := 141) hx hb dX9_kindHere_137 (by decide) ?_
        have ho := Option.some.inj hf
        subst ho; subst hQ
        exact ht_iret hx hb hr hlk rfl hK hP hD hS dX9_kindHere_141
    · replace hf := ht_f c_2 hf
      refine lv_iconst (v := 4) hx hb dX9_kindHere_117 (by decide) ?_
      have ho := Option.some.inj hf
      subst ho; subst hQ
      exact ht_iret hx hb hr hlk rfl hK hP hD hS dX9_kindHere_118
  have b33 : ∀ (H : Heap) (locs : List Loc) (ls : Array Slot), fX9_kindHere_b33 RM  = some o → va_P D vwCl (wMo K jM aM RM.s RM.held RM.aside RM.before RM.isHeld RM.tape RM.taped RM.token RM.frm RM.to RM.value RM.isWrong RM.unpaired RM.bestSound RM.bestWay RM.rows RM.rowN RM.sortOf RM.sizeOf RM.numbers RM.holdsWhat RM.holdsWhich RM.holdsMany RM.bodies RM.ran RM.actKind RM.actN RM.actA RM.isParted) H → va_D A (wMo K jM aM RM.s RM.held RM.aside RM.before RM.isHeld RM.tape RM.taped RM.token RM.frm RM.to RM.value RM.isWrong RM.unpaired RM.bestSound RM.bestWay RM.rows RM.rowN RM.sortOf RM.sizeOf RM.numbers RM.holdsWhat RM.holdsWhich RM.holdsMany RM.bodies RM.ran RM.actKind RM.actN RM.actA RM.isParted) → va_S A s.heap H locs → lv_has ls 1 [(0, .ref jM)] → W p l e (headSpec wsX9_kindHere rmX9_kindHere).room s m ([.ref jM] : List Value).toArray below meth c H locs 0 0 Q (F0 m 33 ls []) := by
    intro  H locs ls hf hP hD hS hl
    delta fX9_kindHere_b33 at hf
    refine lv_aload_n hx hb dX9_kindHere_33 rfl (lv_at hl 0 rfl) ?_
    refine lv_bipush (v := 119) hx hb dX9_kindHere_34 (by decide) ?_
    refine lv_bipush (v := 105) hx hb dX9_kindHere_36 (by decide) ?_
    refine lv_bipush (v := 102) hx hb dX9_kindHere_38 (by decide) ?_
    refine lv_bipush (v := 101) hx hb dX9_kindHere_40 (by decide) ?_
    obtain ⟨o_5, ho_5, hf⟩ := ht_bn_ob hf
    refine ht_callVi (r := o_5) (rest := []) (As := [.int (119 : Int32), .int (105 : Int32), .int (102 : Int32), .int (101 : Int32)]) (wc := (wMo K jM aM RM.s RM.held RM.aside RM.before RM.isHeld RM.tape RM.taped RM.token RM.frm RM.to RM.value RM.isWrong RM.unpaired RM.bestSound RM.bestWay RM.rows RM.rowN RM.sortOf RM.sizeOf RM.numbers RM.holdsWhat RM.holdsWhich RM.holdsMany RM.bodies RM.ran RM.actKind RM.actN RM.actA RM.isParted)) (wr := []) (w1 := (wMo K jM aM RM.s RM.held RM.aside RM.before RM.isHeld RM.tape RM.taped RM.token RM.frm RM.to RM.value RM.isWrong RM.unpaired RM.bestSound RM.bestWay RM.rows RM.rowN RM.sortOf RM.sizeOf RM.numbers RM.holdsWhat RM.holdsWhich RM.holdsMany RM.bodies RM.ran RM.actKind RM.actN RM.actA RM.isParted)) (w2 := (wMo K jM aM RM.s RM.held RM.aside RM.before RM.isHeld RM.tape RM.taped RM.token RM.frm RM.to RM.value RM.isWrong RM.unpaired RM.bestSound RM.bestWay RM.rows RM.rowN RM.sortOf RM.sizeOf RM.numbers RM.holdsWhat RM.holdsWhich RM.holdsMany RM.bodies RM.ran RM.actKind RM.actN RM.actA RM.isParted)) hF (ctX9_isFour l D K jM aM RM (119 : Int32) (105 : Int32) (102 : Int32) (101 : Int32) o_5 ho_5 H.size) (cwV 4 hts gX9_kindHere_X9_isFour rfl rfl rfl hdX9_isFour ⟨Nat.le_of_ble_eq_true rfl, Nat.le_of_ble_eq_true rfl⟩) hK hP hD hS hA [0, 1, 2, 3, 4, 5, 6, 7, 8, 9, 10, 11, 12, 13, 14, 15] [] rfl rfl (by decide) (by decide) (by decide) [0, 1, 2, 3, 4, 5, 6, 7, 8, 9, 10, 11, 12, 13, 14, 15] rfl (by decide) (va_recv hK hP (ci := 9) (q0 := 0) rfl rfl) rfl hl.1 rfl (Nat.le_of_ble_eq_true rfl) dX9_kindHere_42 ⟨Nat.zero_le _, Nat.zero_le _⟩ (fun H locs hP hD hS => ?_)
    refine lv_if_eq (tgt := 50) hx hb dX9_kindHere_45 (by decide) (fun c_6 => ?_) (fun c_6 => ?_)
    · replace hf := ht_t c_6 hf
      refine lv_aload_n hx hb dX9_kindHere_50 rfl (lv_at hl 0 rfl) ?_
      refine lv_bipush (v := 109) hx hb dX9_kindHere_51 (by decide) ?_
      refine lv_bipush (v := 111) hx hb dX9_kindHere_53 (by decide) ?_
      refine lv_bipush (v := 110) hx hb dX9_kindHere_55 (by decide) ?_
      refine lv_bipush (v := 107) hx hb dX9_kindHere_57 (by decide) ?_
      obtain ⟨o_7, ho_7, hf⟩ := ht_bn_ob hf
      refine ht_callVi (r := o_7) (rest := []) (As := [.int (109 : Int32), .int (111 : Int32), .int (110 : Int32), .int (107 : Int32)]) (wc := (wMo K jM aM RM.s RM.held RM.aside RM.before RM.isHeld RM.tape RM.taped RM.token RM.frm RM.to RM.value RM.isWrong RM.unpaired RM.bestSound RM.bestWay RM.rows RM.rowN RM.sortOf RM.sizeOf RM.numbers RM.holdsWhat RM.holdsWhich RM.holdsMany RM.bodies RM.ran RM.actKind RM.actN RM.actA RM.isParted)) (wr := []) (w1 := (wMo K jM aM RM.s RM.held RM.aside RM.before RM.isHeld RM.tape RM.taped RM.token RM.frm RM.to RM.value RM.isWrong RM.unpaired RM.bestSound RM.bestWay RM.rows RM.rowN RM.sortOf RM.sizeOf RM.numbers RM.holdsWhat RM.holdsWhich RM.holdsMany RM.bodies RM.ran RM.actKind RM.actN RM.actA RM.isParted)) (w2 := (wMo K jM aM RM.s RM.held RM.aside RM.before RM.isHeld RM.tape RM.taped RM.token RM.frm RM.to RM.value RM.isWrong RM.unpaired RM.bestSound RM.bestWay RM.rows RM.rowN RM.sortOf RM.sizeOf RM.numbers RM.holdsWhat RM.holdsWhich RM.holdsMany RM.bodies RM.ran RM.actKind RM.actN RM.actA RM.isParted)) hF (ctX9_isFour l D K jM aM RM (109 : Int32) (111 : Int32) (110 : Int32) (107 : Int32) o_7 ho_7 H.size) (cwV 4 hts gX9_kindHere_X9_isFour rfl rfl rfl hdX9_isFour ⟨Nat.le_of_ble_eq_true rfl, Nat.le_of_ble_eq_true rfl⟩) hK hP hD hS hA [0, 1, 2, 3, 4, 5, 6, 7, 8, 9, 10, 11, 12, 13, 14, 15] [] rfl rfl (by decide) (by decide) (by decide) [0, 1, 2, 3, 4, 5, 6, 7, 8, 9, 10, 11, 12, 13, 14, 15] rfl (by decide) (va_recv hK hP (ci := 9) (q0 := 0) rfl rfl) rfl hl.1 rfl (Nat.le_of_ble_eq_true rfl) dX9_kindHere_59 ⟨Nat.zero_le _, Nat.zero_le _⟩ (fun H locs hP hD hS => ?_)
      refine lv_if_eq (tgt := 67) hx hb dX9_kindHere_62 (by decide) (fun c_8 => ?_) (fun c_8 => ?_)
      · replace hf := ht_t c_8 hf
        refine lv_aload_n hx hb dX9_kindHere_67 rfl (lv_at hl 0 rfl) ?_
        refine lv_bipush (v := 6) hx hb dX9_kindHere_68 (by decide) ?_
        refine lv_bipush (v := 104) hx hb dX9_kindHere_70 (by decide) ?_
        refine lv_bipush (v := 97) hx hb dX9_kindHere_72 (by decide) ?_
        refine lv_bipush (v := 119) hx hb dX9_kindHere_74 (by decide) ?_
        refine lv_bipush (v := 114) hx hb dX9_kindHere_76 (by decide) ?_
        obtain ⟨o_9, ho_9, hf⟩ := ht_bn_ob hf
        refine ht_callVi (r := o_9) (rest := []) (As := [.int (6 : Int32), .int (104 : Int32), .int (97 : Int32), .int (119 : Int32), .int (114 : Int32)]) (wc := (wMo K jM aM RM.s RM.held RM.aside RM.before RM.isHeld RM.tape RM.taped RM.token RM.frm RM.to RM.value RM.isWrong RM.unpaired RM.bestSound RM.bestWay RM.rows RM.rowN RM.sortOf RM.sizeOf RM.numbers RM.holdsWhat RM.holdsWhich RM.holdsMany RM.bodies RM.ran RM.actKind RM.actN RM.actA RM.isParted)) (wr := []) (w1 := (wMo K jM aM RM.s RM.held RM.aside RM.before RM.isHeld RM.tape RM.taped RM.token RM.frm RM.to RM.value RM.isWrong RM.unpaired RM.bestSound RM.bestWay RM.rows RM.rowN RM.sortOf RM.sizeOf RM.numbers RM.holdsWhat RM.holdsWhich RM.holdsMany RM.bodies RM.ran RM.actKind RM.actN RM.actA RM.isParted)) (w2 := (wMo K jM aM RM.s RM.held RM.aside RM.before RM.isHeld RM.tape RM.taped RM.token RM.frm RM.to RM.value RM.isWrong RM.unpaired RM.bestSound RM.bestWay RM.rows RM.rowN RM.sortOf RM.sizeOf RM.numbers RM.holdsWhat RM.holdsWhich RM.holdsMany RM.bodies RM.ran RM.actKind RM.actN RM.actA RM.isParted)) hF (ctX9_isName l D K jM aM RM (6 : Int32) (104 : Int32) (97 : Int32) (119 : Int32) (114 : Int32) o_9 ho_9 H.size) (cwV 5 hts gX9_kindHere_X9_isName rfl rfl rfl hdX9_isName ⟨Nat.le_of_ble_eq_true rfl, Nat.le_of_ble_eq_true rfl⟩) hK hP hD hS hA [0, 1, 2, 3, 4, 5, 6, 7, 8, 9, 10, 11, 12, 13, 14, 15] [] rfl rfl (by decide) (by decide) (by decide) [0, 1, 2, 3, 4, 5, 6, 7, 8, 9, 10, 11, 12, 13, 14, 15] rfl (by decide) (va_recv hK hP (ci := 9) (q0 := 0) rfl rfl) rfl hl.1 rfl (Nat.le_of_ble_eq_true rfl) dX9_kindHere_78 ⟨Nat.zero_le _, Nat.zero_le _⟩ (fun H locs hP hD hS => ?_)
        refine lv_if_eq (tgt := 100) hx hb dX9_kindHere_81 (by decide) (fun c_10 => ?_) (fun c_10 => ?_)
        · replace hf := ht_t c_10 hf
          exact b100  _ _ _ hf hP hD hS hl
        · replace hf := ht_f c_10 hf
          refine lv_aload_n hx hb dX9_kindHere_84 rfl (lv_at hl 0 rfl) ?_
          refine lv_iconst (v := 2) hx hb dX9_kindHere_85 (by decide) ?_
          refine lv_bipush (v := 119) hx hb dX9_kindHere_86 (by decide) ?_
          refine lv_bipush (v := 107) hx hb dX9_kindHere_88 (by decide) ?_
          refine lv_bipush (v := 101) hx hb dX9_kindHere_90 (by decide) ?_
          obtain ⟨o_11, ho_11, hf⟩ := ht_bn_ob hf
          refine ht_callVi (r := o_11) (rest := []) (As := [.int (2 : Int32), .int (119 : Int32), .int (107 : Int32), .int (101 : Int32)]) (wc := (wMo K jM aM RM.s RM.held RM.aside RM.before RM.isHeld RM.tape RM.taped RM.token RM.frm RM.to RM.value RM.isWrong RM.unpaired RM.bestSound RM.bestWay RM.rows RM.rowN RM.sortOf RM.sizeOf RM.numbers RM.holdsWhat RM.holdsWhich RM.holdsMany RM.bodies RM.ran RM.actKind RM.actN RM.actA RM.isParted)) (wr := []) (w1 := (wMo K jM aM RM.s RM.held RM.aside RM.before RM.isHeld RM.tape RM.taped RM.token RM.frm RM.to RM.value RM.isWrong RM.unpaired RM.bestSound RM.bestWay RM.rows RM.rowN RM.sortOf RM.sizeOf RM.numbers RM.holdsWhat RM.holdsWhich RM.holdsMany RM.bodies RM.ran RM.actKind RM.actN RM.actA RM.isParted)) (w2 := (wMo K jM aM RM.s RM.held RM.aside RM.before RM.isHeld RM.tape RM.taped RM.token RM.frm RM.to RM.value RM.isWrong RM.unpaired RM.bestSound RM.bestWay RM.rows RM.rowN RM.sortOf RM.sizeOf RM.numbers RM.holdsWhat RM.holdsWhich RM.holdsMany RM.bodies RM.ran RM.actKind RM.actN RM.actA RM.isParted)) hF (ctX9_isSame l D K jM aM RM (2 : Int32) (119 : Int32) (107 : Int32) (101 : Int32) o_11 ho_11 H.size) (cwV 4 hts gX9_kindHere_X9_isSame rfl rfl rfl hdX9_isSame ⟨Nat.le_of_ble_eq_true rfl, Nat.le_of_ble_eq_true rfl⟩) hK hP hD hS hA [0, 1, 2, 3, 4, 5, 6, 7, 8, 9, 10, 11, 12, 13, 14, 15] [] rfl rfl (by decide) (by decide) (by decide) [0, 1, 2, 3, 4, 5, 6, 7, 8, 9, 10, 11, 12, 13, 14, 15] rfl (by decide) (va_recv hK hP (ci := 9) (q0 := 0) rfl rfl) rfl hl.1 rfl (Nat.le_of_ble_eq_true rfl) dX9_kindHere_92 ⟨Nat.zero_le _, Nat.zero_le _⟩ (fun H locs hP hD hS => ?_)
          refine lv_if_eq (tgt := 100) hx hb dX9_kindHere_95 (by decide) (fun c_12 => ?_) (fun c_12 => ?_)
          · replace hf := ht_t c_12 hf
            exact b100  _ _ _ hf hP hD hS hl
          · replace hf := ht_f c_12 hf
            refine lv_iconst (v := 3) hx hb dX9_kindHere_98 (by decide) ?_
            have ho := Option.some.inj hf
            subst ho; subst hQ
            exact ht_iret hx hb hr hlk rfl hK hP hD hS dX9_kindHere_99
      · replace hf := ht_f c_8 hf
        refine lv_iconst (v := 2) hx hb dX9_kindHere_65 (by decide) ?_
        have ho := Option.some.inj hf
        subst ho; subst hQ
        exact ht_iret hx hb hr hlk rfl hK hP hD hS dX9_kindHere_66
    · replace hf := ht_f c_6 hf
      refine lv_iconst (v := 1) hx hb dX9_kindHere_48 (by decide) ?_
      have ho := Option.some.inj hf
      subst ho; subst hQ
      exact ht_iret hx hb hr hlk rfl hK hP hD hS dX9_kindHere_49
  delta fX9_kindHere at hf
  refine lv_aload_n hx hb dX9_kindHere_0 rfl (lv_at hl 0 rfl) ?_
  refine lv_bipush (v := 7) hx hb dX9_kindHere_1 (by decide) ?_
  refine lv_bipush (v := 99) hx hb dX9_kindHere_3 (by decide) ?_
  refine lv_bipush (v := 105) hx hb dX9_kindHere_5 (by decide) ?_
  refine lv_bipush (v := 116) hx hb dX9_kindHere_7 (by decide) ?_
  refine lv_bipush (v := 110) hx hb dX9_kindHere_9 (by decide) ?_
  obtain ⟨o_13, ho_13, hf⟩ := ht_bn_ob hf
  refine ht_callVi (r := o_13) (rest := []) (As := [.int (7 : Int32), .int (99 : Int32), .int (105 : Int32), .int (116 : Int32), .int (110 : Int32)]) (wc := (wMo K jM aM RM.s RM.held RM.aside RM.before RM.isHeld RM.tape RM.taped RM.token RM.frm RM.to RM.value RM.isWrong RM.unpaired RM.bestSound RM.bestWay RM.rows RM.rowN RM.sortOf RM.sizeOf RM.numbers RM.holdsWhat RM.holdsWhich RM.holdsMany RM.bodies RM.ran RM.actKind RM.actN RM.actA RM.isParted)) (wr := []) (w1 := (wMo K jM aM RM.s RM.held RM.aside RM.before RM.isHeld RM.tape RM.taped RM.token RM.frm RM.to RM.value RM.isWrong RM.unpaired RM.bestSound RM.bestWay RM.rows RM.rowN RM.sortOf RM.sizeOf RM.numbers RM.holdsWhat RM.holdsWhich RM.holdsMany RM.bodies RM.ran RM.actKind RM.actN RM.actA RM.isParted)) (w2 := (wMo K jM aM RM.s RM.held RM.aside RM.before RM.isHeld RM.tape RM.taped RM.token RM.frm RM.to RM.value RM.isWrong RM.unpaired RM.bestSound RM.bestWay RM.rows RM.rowN RM.sortOf RM.sizeOf RM.numbers RM.holdsWhat RM.holdsWhich RM.holdsMany RM.bodies RM.ran RM.actKind RM.actN RM.actA RM.isParted)) hF (ctX9_isName l D K jM aM RM (7 : Int32) (99 : Int32) (105 : Int32) (116 : Int32) (110 : Int32) o_13 ho_13 H.size) (cwV 5 hts gX9_kindHere_X9_isName rfl rfl rfl hdX9_isName ⟨Nat.le_of_ble_eq_true rfl, Nat.le_of_ble_eq_true rfl⟩) hK hP hD hS hA [0, 1, 2, 3, 4, 5, 6, 7, 8, 9, 10, 11, 12, 13, 14, 15] [] rfl rfl (by decide) (by decide) (by decide) [0, 1, 2, 3, 4, 5, 6, 7, 8, 9, 10, 11, 12, 13, 14, 15] rfl (by decide) (va_recv hK hP (ci := 9) (q0 := 0) rfl rfl) rfl hl.1 rfl (Nat.le_of_ble_eq_true rfl) dX9_kindHere_11 ⟨Nat.zero_le _, Nat.zero_le _⟩ (fun H locs hP hD hS => ?_)
  refine lv_if_eq (tgt := 33) hx hb dX9_kindHere_14 (by decide) (fun c_14 => ?_) (fun c_14 => ?_)
  · replace hf := ht_t c_14 hf
    exact b33  _ _ _ hf hP hD hS hl
  · replace hf := ht_f c_14 hf
    refine lv_aload_n hx hb dX9_kindHere_17 rfl (lv_at hl 0 rfl) ?_
    refine lv_iconst (v := 3) hx hb dX9_kindHere_18 (by decide) ?_
    refine lv_bipush (v := 105) hx hb dX9_kindHere_19 (by decide) ?_
    refine lv_bipush (v := 122) hx hb dX9_kindHere_21 (by decide) ?_
    refine lv_bipush (v := 101) hx hb dX9_kindHere_23 (by decide) ?_
    obtain ⟨o_15, ho_15, hf⟩ := ht_bn_ob hf
    refine ht_callVi (r := o_15) (rest := []) (As := [.int (3 : Int32), .int (105 : Int32), .int (122 : Int32), .int (101 : Int32)]) (wc := (wMo K jM aM RM.s RM.held RM.aside RM.before RM.isHeld RM.tape RM.taped RM.token RM.frm RM.to RM.value RM.isWrong RM.unpaired RM.bestSound RM.bestWay RM.rows RM.rowN RM.sortOf RM.sizeOf RM.numbers RM.holdsWhat RM.holdsWhich RM.holdsMany RM.bodies RM.ran RM.actKind RM.actN RM.actA RM.isParted)) (wr := []) (w1 := (wMo K jM aM RM.s RM.held RM.aside RM.before RM.isHeld RM.tape RM.taped RM.token RM.frm RM.to RM.value RM.isWrong RM.unpaired RM.bestSound RM.bestWay RM.rows RM.rowN RM.sortOf RM.sizeOf RM.numbers RM.holdsWhat RM.holdsWhich RM.holdsMany RM.bodies RM.ran RM.actKind RM.actN RM.actA RM.isParted)) (w2 := (wMo K jM aM RM.s RM.held RM.aside RM.before RM.isHeld RM.tape RM.taped RM.token RM.frm RM.to RM.value RM.isWrong RM.unpaired RM.bestSound RM.bestWay RM.rows RM.rowN RM.sortOf RM.sizeOf RM.numbers RM.holdsWhat RM.holdsWhich RM.holdsMany RM.bodies RM.ran RM.actKind RM.actN RM.actA RM.isParted)) hF (ctX9_isSame l D K jM aM RM (3 : Int32) (105 : Int32) (122 : Int32) (101 : Int32) o_15 ho_15 H.size) (cwV 4 hts gX9_kindHere_X9_isSame rfl rfl rfl hdX9_isSame ⟨Nat.le_of_ble_eq_true rfl, Nat.le_of_ble_eq_true rfl⟩) hK hP hD hS hA [0, 1, 2, 3, 4, 5, 6, 7, 8, 9, 10, 11, 12, 13, 14, 15] [] rfl rfl (by decide) (by decide) (by decide) [0, 1, 2, 3, 4, 5, 6, 7, 8, 9, 10, 11, 12, 13, 14, 15] rfl (by decide) (va_recv hK hP (ci := 9) (q0 := 0) rfl rfl) rfl hl.1 rfl (Nat.le_of_ble_eq_true rfl) dX9_kindHere_25 ⟨Nat.zero_le _, Nat.zero_le _⟩ (fun H locs hP hD hS => ?_)
    refine lv_if_eq (tgt := 33) hx hb dX9_kindHere_28 (by decide) (fun c_16 => ?_) (fun c_16 => ?_)
    · replace hf := ht_t c_16 hf
      exact b33  _ _ _ hf hP hD hS hl
    · replace hf := ht_f c_16 hf
      refine lv_iconst (v := 0) hx hb dX9_kindHere_31 (by decide) ?_
      have ho := Option.some.inj hf
      subst ho; subst hQ
      exact ht_iret hx hb hr hlk rfl hK hP hD hS dX9_kindHere_32
abbrev rmX9_numberTo : Room := { frames := 3, cells := 0, slots := 0, locals := 63 }
theorem hdX9_numberTo : yX9_numberTo.cls = RX9 ∧ yX9_numberTo.cls ≠ "java/lang/invoke/MethodHandle" ∧ yX9_numberTo.cls ≠ "java/lang/invoke/VarHandle" ∧ (parseMethodDescriptor yX9_numberTo.desc).map (fun d => d.parameters.length) = some 2 := by decide +kernel
def fX9_numberTo_b56 (RM : ModV) (x3 : Int32) (vM_s : AI) (vM_token : Int32) (vM_from : Int32) (vM_to : Int32) (vM_value : Int32) (vM_isWrong : Int32) : Option (AI × Int32 × Int32 × Int32 × Int32 × Int32) := ht_bn (fX9_needs (vM_s, RM.held, RM.aside, RM.before, RM.isHeld, RM.tape, RM.taped, vM_token, vM_from, vM_to, vM_value, vM_isWrong, RM.unpaired, RM.bestSound, RM.bestWay, RM.rows, RM.rowN, RM.sortOf, RM.sizeOf, RM.numbers, RM.holdsWhat, RM.holdsWhich, RM.holdsMany, RM.bodies, RM.ran, RM.actKind, RM.actN, RM.actA, RM.isParted) x3) (fun o_1 => some (vM_s, o_1.1, o_1.2.1, o_1.2.2.1, o_1.2.2.2.1, o_1.2.2.2.2))
def fX9_numberTo_b34 (RM : ModV) (x1 : Int32) (t0 : Int32) (vM_s : AI) (vM_token : Int32) (vM_from : Int32) (vM_to : Int32) (vM_value : Int32) (vM_isWrong : Int32) : Option (AI × Int32 × Int32 × Int32 × Int32 × Int32) := if t0 = 0 then (fX9_numberTo_b56 RM t0 vM_s vM_token vM_from vM_to vM_value vM_isWrong) else (if vM_isWrong = 0 then (ht_gd (ht_ix x1 57) (ht_nm (upd vM_s x1.toNatClampNeg vM_value) (fun vM_s_5 => fX9_numberTo_b56 RM t0 vM_s_5 vM_token vM_from vM_to vM_value vM_isWrong))) else (fX9_numberTo_b56 RM t0 vM_s vM_token vM_from vM_to vM_value vM_isWrong))
def fX9_numberTo_b33 (RM : ModV) (x1 : Int32) (vM_s : AI) (vM_token : Int32) (vM_from : Int32) (vM_to : Int32) (vM_value : Int32) (vM_isWrong : Int32) : Option (AI × Int32 × Int32 × Int32 × Int32 × Int32) := fX9_numberTo_b34 RM x1 (0 : Int32) vM_s vM_token vM_from vM_to vM_value vM_isWrong
def fX9_numberTo (RM : ModV) (p0 : Int32) (p1 : Int32) : Option (AI × Int32 × Int32 × Int32 × Int32 × Int32) := if RM.token = (2 : Int32) then (if (3 : Int32) < (RM.to - RM.frm) then (fX9_numberTo_b33 RM p0 RM.s RM.token RM.frm RM.to RM.value RM.isWrong) else (if p1 < RM.value then (fX9_numberTo_b33 RM p0 RM.s RM.token RM.frm RM.to RM.value RM.isWrong) else (fX9_numberTo_b34 RM p0 (1 : Int32) RM.s RM.token RM.frm RM.to RM.value RM.isWrong))) else (fX9_numberTo_b33 RM p0 RM.s RM.token RM.frm RM.to RM.value RM.isWrong)
set_option maxHeartbeats 1000000 in
set_option maxRecDepth 100000 in
theorem ctX9_numberTo (l : Launch) (D : va_G) (K : Nat → ClassId) (jM : Nat) (aM : Nat → Nat) (RM : ModV) (p0 : Int32) (p1 : Int32) (o : (AI × Int32 × Int32 × Int32 × Int32 × Int32)) (hf : fX9_numberTo RM p0 p1 = some o) (sz : Nat) : Met l yX9_numberTo wsX9_numberTo rmX9_numberTo (ht_Pre D K [.ref jM, .int p0, .int p1] (wMo K jM aM RM.s RM.held RM.aside RM.before RM.isHeld RM.tape RM.taped RM.token RM.frm RM.to RM.value RM.isWrong RM.unpaired RM.bestSound RM.bestWay RM.rows RM.rowN RM.sortOf RM.sizeOf RM.numbers RM.holdsWhat RM.holdsWhich RM.holdsMany RM.bodies RM.ran RM.actKind RM.actN RM.actA RM.isParted) sz) (ht_Qv D K (wMo K jM aM o.1 RM.held RM.aside RM.before RM.isHeld RM.tape RM.taped o.2.1 o.2.2.1 o.2.2.2.1 o.2.2.2.2.1 o.2.2.2.2.2 RM.unpaired RM.bestSound RM.bestWay RM.rows RM.rowN RM.sortOf RM.sizeOf RM.numbers RM.holdsWhat RM.holdsWhich RM.holdsMany RM.bodies RM.ran RM.actKind RM.actN RM.actA RM.isParted) (va_A (wMo K jM aM RM.s RM.held RM.aside RM.before RM.isHeld RM.tape RM.taped RM.token RM.frm RM.to RM.value RM.isWrong RM.unpaired RM.bestSound RM.bestWay RM.rows RM.rowN RM.sortOf RM.sizeOf RM.numbers RM.holdsWhat RM.holdsWhich RM.holdsMany RM.bodies RM.ran RM.actKind RM.actN RM.actA RM.isParted) sz)) 0 0 (va_A (wMo K jM aM RM.s RM.held RM.aside RM.before RM.isHeld RM.tape RM.taped RM.token RM.frm RM.to RM.value RM.isWrong RM.unpaired RM.bestSound RM.bestWay RM.rows RM.rowN RM.sortOf RM.sizeOf RM.numbers RM.holdsWhat RM.holdsWhich RM.holdsMany RM.bodies RM.ran RM.actKind RM.actN RM.actA RM.isParted) sz) := by
  refine ht_enter (Qf := ht_Qv D K (wMo K jM aM o.1 RM.held RM.aside RM.before RM.isHeld RM.tape RM.taped o.2.1 o.2.2.1 o.2.2.2.1 o.2.2.2.2.1 o.2.2.2.2.2 RM.unpaired RM.bestSound RM.bestWay RM.rows RM.rowN RM.sortOf RM.sizeOf RM.numbers RM.holdsWhat RM.holdsWhich RM.holdsMany RM.bodies RM.ran RM.actKind RM.actN RM.actA RM.isParted)) (cc := cX9_numberTo) (maxL := 4) (rt := none) (by decide) rfl (Nat.le_of_ble_eq_true rfl) ?_ sz
  intro p e s m below meth c A Q H locs ls hQ hx hb hr hlk hmn hml hown hts hA hK hP hD hS hl
  have hown : s.vm.findClass RX9 = some m.cls := hown
  have hF : CallFix p m c cX9_numberTo 4 s ([.ref jM, .int p0, .int p1] : List Value).toArray wsX9_numberTo RX9 := ⟨hx, hb, hml, hown, hts⟩
  have hl : lv_has ls 4 [(0, .ref jM), (1, .int p0), (2, .int p1)] := hl
  have iw9 : ∀ w ∈ u_ws RX9 TX9 29, w ∈ wsX9_numberTo := by decide +kernel
  have kw1 := hts (.fieldLink RX9 93 "HeldTonguesModel" "isWrong" "Z") (by decide +kernel)
  have kw2 := hts (.fieldLink RX9 7 "HeldTonguesModel" "s" "[I") (by decide +kernel)
  have kw3 := hts (.fieldLink RX9 90 "HeldTonguesModel" "value" "I") (by decide +kernel)
  have kw4 := hts (.fieldLink RX9 87 "HeldTonguesModel" "token" "I") (by decide +kernel)
  have kw5 := hts (.fieldLink RX9 70 "HeldTonguesModel" "to" "I") (by decide +kernel)
  have kw6 := hts (.fieldLink RX9 73 "HeldTonguesModel" "from" "I") (by decide +kernel)
  have b56 : ∀ (x3 : Int32) (vM_s : AI) (vM_token : Int32) (vM_from : Int32) (vM_to : Int32) (vM_value : Int32) (vM_isWrong : Int32) (H : Heap) (locs : List Loc) (ls : Array Slot), fX9_numberTo_b56 RM x3 vM_s vM_token vM_from vM_to vM_value vM_isWrong = some o → va_P D vwCl (wMo K jM aM vM_s RM.held RM.aside RM.before RM.isHeld RM.tape RM.taped vM_token vM_from vM_to vM_value vM_isWrong RM.unpaired RM.bestSound RM.bestWay RM.rows RM.rowN RM.sortOf RM.sizeOf RM.numbers RM.holdsWhat RM.holdsWhich RM.holdsMany RM.bodies RM.ran RM.actKind RM.actN RM.actA RM.isParted) H → va_D A (wMo K jM aM vM_s RM.held RM.aside RM.before RM.isHeld RM.tape RM.taped vM_token vM_from vM_to vM_value vM_isWrong RM.unpaired RM.bestSound RM.bestWay RM.rows RM.rowN RM.sortOf RM.sizeOf RM.numbers RM.holdsWhat RM.holdsWhich RM.holdsMany RM.bodies RM.ran RM.actKind RM.actN RM.actA RM.isParted) → va_S A s.heap H locs → lv_has ls 4 [(0, .ref jM), (3, .int x3)] → W p l e (headSpec wsX9_numberTo rmX9_numberTo).room s m ([.ref jM, .int p0, .int p1] : List Value).toArray below meth c H locs 0 0 Q (F0 m 56 ls []) := by
    intro x3 vM_s vM_token vM_from vM_to vM_value vM_isWrong H locs ls hf hP hD hS hl
    delta fX9_numberTo_b56 at hf
    refine lv_aload_n hx hb dX9_numberTo_56 rfl (lv_at hl 0 rfl) ?_
    refine lv_iload_n hx hb dX9_numberTo_57 rfl (lv_at hl 1 rfl) ?_
    obtain ⟨o_1, ho_1, hf⟩ := ht_bn_ob hf
    refine ht_callVv (rest := []) (As := [.int x3]) (wc := (wMo K jM aM vM_s RM.held RM.aside RM.before RM.isHeld RM.tape RM.taped vM_token vM_from vM_to vM_value vM_isWrong RM.unpaired RM.bestSound RM.bestWay RM.rows RM.rowN RM.sortOf RM.sizeOf RM.numbers RM.holdsWhat RM.holdsWhich RM.holdsMany RM.bodies RM.ran RM.actKind RM.actN RM.actA RM.isParted)) (wr := []) (w1 := (wMo K jM aM vM_s RM.held RM.aside RM.before RM.isHeld RM.tape RM.taped o_1.1 o_1.2.1 o_1.2.2.1 o_1.2.2.2.1 o_1.2.2.2.2 RM.unpaired RM.bestSound RM.bestWay RM.rows RM.rowN RM.sortOf RM.sizeOf RM.numbers RM.holdsWhat RM.holdsWhich RM.holdsMany RM.bodies RM.ran RM.actKind RM.actN RM.actA RM.isParted)) (w2 := (wMo K jM aM vM_s RM.held RM.aside RM.before RM.isHeld RM.tape RM.taped o_1.1 o_1.2.1 o_1.2.2.1 o_1.2.2.2.1 o_1.2.2.2.2 RM.unpaired RM.bestSound RM.bestWay RM.rows RM.rowN RM.sortOf RM.sizeOf RM.numbers RM.holdsWhat RM.holdsWhich RM.holdsMany RM.bodies RM.ran RM.actKind RM.actN RM.actA RM.isParted)) hF (ctX9_needs l D K jM aM (vM_s, RM.held, RM.aside, RM.before, RM.isHeld, RM.tape, RM.taped, vM_token, vM_from, vM_to, vM_value, vM_isWrong, RM.unpaired, RM.bestSound, RM.bestWay, RM.rows, RM.rowN, RM.sortOf, RM.sizeOf, RM.numbers, RM.holdsWhat, RM.holdsWhich, RM.holdsMany, RM.bodies, RM.ran, RM.actKind, RM.actN, RM.actA, RM.isParted) x3 o_1 ho_1 H.size) (cwV 1 hts gX9_numberTo_X9_needs rfl rfl rfl hdX9_needs ⟨Nat.le_of_ble_eq_true rfl, Nat.le_of_ble_eq_true rfl⟩) hK hP hD hS hA [0, 1, 2, 3, 4, 5, 6, 7, 8, 9, 10, 11, 12, 13, 14, 15] [] rfl rfl (by decide) (by decide) (by decide) [0, 1, 2, 3, 4, 5, 6, 7, 8, 9, 10, 11, 12, 13, 14, 15] rfl (by decide) (va_recv hK hP (ci := 9) (q0 := 0) rfl rfl) rfl hl.1 rfl (Nat.le_of_ble_eq_true rfl) dX9_numberTo_58 ⟨Nat.zero_le _, Nat.zero_le _⟩ (fun H locs hP hD hS => ?_)
    have ho := Option.some.inj hf
    subst ho; subst hQ
    exact ht_vret hx hb hr hlk hK hP hD hS dX9_numberTo_61
  have b34 : ∀ (x1 : Int32) (t0 : Int32) (vM_s : AI) (vM_token : Int32) (vM_from : Int32) (vM_to : Int32) (vM_value : Int32) (vM_isWrong : Int32) (H : Heap) (locs : List Loc) (ls : Array Slot), fX9_numberTo_b34 RM x1 t0 vM_s vM_token vM_from vM_to vM_value vM_isWrong = some o → va_P D vwCl (wMo K jM aM vM_s RM.held RM.aside RM.before RM.isHeld RM.tape RM.taped vM_token vM_from vM_to vM_value vM_isWrong RM.unpaired RM.bestSound RM.bestWay RM.rows RM.rowN RM.sortOf RM.sizeOf RM.numbers RM.holdsWhat RM.holdsWhich RM.holdsMany RM.bodies RM.ran RM.actKind RM.actN RM.actA RM.isParted) H → va_D A (wMo K jM aM vM_s RM.held RM.aside RM.before RM.isHeld RM.tape RM.taped vM_token vM_from vM_to vM_value vM_isWrong RM.unpaired RM.bestSound RM.bestWay RM.rows RM.rowN RM.sortOf RM.sizeOf RM.numbers RM.holdsWhat RM.holdsWhich RM.holdsMany RM.bodies RM.ran RM.actKind RM.actN RM.actA RM.isParted) → va_S A s.heap H locs → lv_has ls 4 [(0, .ref jM), (1, .int x1)] → W p l e (headSpec wsX9_numberTo rmX9_numberTo).room s m ([.ref jM, .int p0, .int p1] : List Value).toArray below meth c H locs 0 0 Q (F0 m 34 ls [.int t0]) := by
    intro x1 t0 vM_s vM_token vM_from vM_to vM_value vM_isWrong H locs ls hf hP hD hS hl
    delta fX9_numberTo_b34 at hf
    refine lv_istore_n (lv' := [(3, .int t0), (0, .ref jM), (1, .int x1)]) hx hb dX9_numberTo_34 rfl hl (by decide) rfl (fun ls hl => ?_)
    refine lv_iload_n hx hb dX9_numberTo_35 rfl (lv_at hl 0 rfl) ?_
    refine lv_if_eq (tgt := 56) hx hb dX9_numberTo_36 (by decide) (fun c_2 => ?_) (fun c_2 => ?_)
    · replace hf := ht_t c_2 hf
      exact b56  t0 vM_s vM_token vM_from vM_to vM_value vM_isWrong _ _ _ hf hP hD hS (lv_sub hl [1, 0] rfl)
    · replace hf := ht_f c_2 hf
      refine lv_aload_n hx hb dX9_numberTo_39 rfl (lv_at hl 1 rfl) ?_
      refine va_get (D := D) (ci := 9) (v := .int vM_isWrong) (C := RX9) (T := TX9) (N := 29) hx hb hts iw9 hown hK hP 0 rfl rfl 11 (by decide) kw1 (fun _ h9 => h9) rfl dX9_numberTo_40 ?_
      refine lv_if_ne (tgt := 56) hx hb dX9_numberTo_43 (by decide) (fun c_3 => ?_) (fun c_3 => ?_)
      · replace hf := ht_f c_3 hf
        exact b56  t0 vM_s vM_token vM_from vM_to vM_value vM_isWrong _ _ _ hf hP hD hS (lv_sub hl [1, 0] rfl)
      · replace hf := ht_t c_3 hf
        refine lv_aload_n hx hb dX9_numberTo_46 rfl (lv_at hl 1 rfl) ?_
        refine va_get (D := D) (ci := 9) (v := .ref (aM 0)) (C := RX9) (T := TX9) (N := 29) hx hb hts iw9 hown hK hP 0 rfl rfl 0 (by decide) kw2 (fun _ h9 => h9) rfl dX9_numberTo_47 ?_
        refine lv_iload_n hx hb dX9_numberTo_50 rfl (lv_at hl 2 rfl) ?_
        refine lv_aload_n hx hb dX9_numberTo_51 rfl (lv_at hl 1 rfl) ?_
        refine va_get (D := D) (ci := 9) (v := .int vM_value) (C := RX9) (T := TX9) (N := 29) hx hb hts iw9 hown hK hP 0 rfl rfl 10 (by decide) kw3 (fun _ h9 => h9) rfl dX9_numberTo_52 ?_
        obtain ⟨g_4, hf⟩ := ht_gd_ob hf
        obtain ⟨vM_s_5, evM_s_5, hf⟩ := ht_nm_ob hf
        refine ht_iast (w2 := (wMo K jM aM vM_s_5 RM.held RM.aside RM.before RM.isHeld RM.tape RM.taped vM_token vM_from vM_to vM_value vM_isWrong RM.unpaired RM.bestSound RM.bestWay RM.rows RM.rowN RM.sortOf RM.sizeOf RM.numbers RM.holdsWhat RM.holdsWhich RM.holdsMany RM.bodies RM.ran RM.actKind RM.actN RM.actA RM.isParted)) hx hb hK hP hD hS 1 1 rfl rfl g_4 dX9_numberTo_55 evM_s_5 rfl (fun H locs hP hD hS => ?_)
        exact b56  t0 vM_s_5 vM_token vM_from vM_to vM_value vM_isWrong _ _ _ hf hP hD hS (lv_sub hl [1, 0] rfl)
  have b33 : ∀ (x1 : Int32) (vM_s : AI) (vM_token : Int32) (vM_from : Int32) (vM_to : Int32) (vM_value : Int32) (vM_isWrong : Int32) (H : Heap) (locs : List Loc) (ls : Array Slot), fX9_numberTo_b33 RM x1 vM_s vM_token vM_from vM_to vM_value vM_isWrong = some o → va_P D vwCl (wMo K jM aM vM_s RM.held RM.aside RM.before RM.isHeld RM.tape RM.taped vM_token vM_from vM_to vM_value vM_isWrong RM.unpaired RM.bestSound RM.bestWay RM.rows RM.rowN RM.sortOf RM.sizeOf RM.numbers RM.holdsWhat RM.holdsWhich RM.holdsMany RM.bodies RM.ran RM.actKind RM.actN RM.actA RM.isParted) H → va_D A (wMo K jM aM vM_s RM.held RM.aside RM.before RM.isHeld RM.tape RM.taped vM_token vM_from vM_to vM_value vM_isWrong RM.unpaired RM.bestSound RM.bestWay RM.rows RM.rowN RM.sortOf RM.sizeOf RM.numbers RM.holdsWhat RM.holdsWhich RM.holdsMany RM.bodies RM.ran RM.actKind RM.actN RM.actA RM.isParted) → va_S A s.heap H locs → lv_has ls 4 [(0, .ref jM), (1, .int x1)] → W p l e (headSpec wsX9_numberTo rmX9_numberTo).room s m ([.ref jM, .int p0, .int p1] : List Value).toArray below meth c H locs 0 0 Q (F0 m 33 ls []) := by
    intro x1 vM_s vM_token vM_from vM_to vM_value vM_isWrong H locs ls hf hP hD hS hl
    delta fX9_numberTo_b33 at hf
    refine lv_iconst (v := 0) hx hb dX9_numberTo_33 (by decide) ?_
    exact b34  x1 (0 : Int32) vM_s vM_token vM_from vM_to vM_value vM_isWrong _ _ _ hf hP hD hS hl
  delta fX9_numberTo at hf
  refine lv_aload_n hx hb dX9_numberTo_0 rfl (lv_at hl 0 rfl) ?_
  refine va_get (D := D) (ci := 9) (v := .int RM.token) (C := RX9) (T := TX9) (N := 29) hx hb hts iw9 hown hK hP 0 rfl rfl 7 (by decide) kw4 (fun _ h9 => h9) rfl dX9_numberTo_1 ?_
  refine lv_iconst (v := 2) hx hb dX9_numberTo_4 (by decide) ?_
  refine lv_icmp_ne (tgt := 33) hx hb dX9_numberTo_5 (by decide) (fun c_6 => ?_) (fun c_6 => ?_)
  · replace hf := ht_f c_6 hf
    exact b33  p0 RM.s RM.token RM.frm RM.to RM.value RM.isWrong _ _ _ hf hP hD hS (lv_sub hl [0, 1] rfl)
  · replace hf := ht_t c_6 hf
    refine lv_aload_n hx hb dX9_numberTo_8 rfl (lv_at hl 0 rfl) ?_
    refine va_get (D := D) (ci := 9) (v := .int RM.to) (C := RX9) (T := TX9) (N := 29) hx hb hts iw9 hown hK hP 0 rfl rfl 9 (by decide) kw5 (fun _ h9 => h9) rfl dX9_numberTo_9 ?_
    refine lv_aload_n hx hb dX9_numberTo_12 rfl (lv_at hl 0 rfl) ?_
    refine va_get (D := D) (ci := 9) (v := .int RM.frm) (C := RX9) (T := TX9) (N := 29) hx hb hts iw9 hown hK hP 0 rfl rfl 8 (by decide) kw6 (fun _ h9 => h9) rfl dX9_numberTo_13 ?_
    refine lv_isub hx hb dX9_numberTo_16 ?_
    refine lv_iconst (v := 3) hx hb dX9_numberTo_17 (by decide) ?_
    refine lv_icmp_gt (tgt := 33) hx hb dX9_numberTo_18 (by decide) (fun c_7 => ?_) (fun c_7 => ?_)
    · replace hf := ht_t c_7 hf
      exact b33  p0 RM.s RM.token RM.frm RM.to RM.value RM.isWrong _ _ _ hf hP hD hS (lv_sub hl [0, 1] rfl)
    · replace hf := ht_f c_7 hf
      refine lv_aload_n hx hb dX9_numberTo_21 rfl (lv_at hl 0 rfl) ?_
      refine va_get (D := D) (ci := 9) (v := .int RM.value) (C := RX9) (T := TX9) (N := 29) hx hb hts iw9 hown hK hP 0 rfl rfl 10 (by decide) kw3 (fun _ h9 => h9) rfl dX9_numberTo_22 ?_
      refine lv_iload_n hx hb dX9_numberTo_25 rfl (lv_at hl 2 rfl) ?_
      refine lv_icmp_gt (tgt := 33) hx hb dX9_numberTo_26 (by decide) (fun c_8 => ?_) (fun c_8 => ?_)
      · replace hf := ht_t c_8 hf
        exact b33  p0 RM.s RM.token RM.frm RM.to RM.value RM.isWrong _ _ _ hf hP hD hS (lv_sub hl [0, 1] rfl)
      · replace hf := ht_f c_8 hf
        refine lv_iconst (v := 1) hx hb dX9_numberTo_29 (by decide) ?_
        refine lv_goto (tgt := 34) hx hb dX9_numberTo_30 (by decide) ?_
        exact b34  p0 (1 : Int32) RM.s RM.token RM.frm RM.to RM.value RM.isWrong _ _ _ hf hP hD hS (lv_sub hl [0, 1] rfl)
abbrev rmX9_perhaps : Room := { frames := 4, cells := 0, slots := 0, locals := 86 }
theorem hdX9_perhaps : yX9_perhaps.cls = RX9 ∧ yX9_perhaps.cls ≠ "java/lang/invoke/MethodHandle" ∧ yX9_perhaps.cls ≠ "java/lang/invoke/VarHandle" ∧ (parseMethodDescriptor yX9_perhaps.desc).map (fun d => d.parameters.length) = some 3 := by decide +kernel
def fX9_perhaps (RM : ModV) (p0 : Int32) (p1 : Int32) (p2 : Int32) : Option (AI × Int32 × Int32 × Int32 × Int32 × Int32) := if RM.isWrong = 0 then (if p0 = 0 then (some (RM.s, RM.token, RM.frm, RM.to, RM.value, RM.isWrong)) else (ht_bn (fX9_nextToken RM) (fun o_3 => ht_bn (fX9_numberTo (RM.s, RM.held, RM.aside, RM.before, RM.isHeld, RM.tape, RM.taped, o_3.1, o_3.2.1, o_3.2.2.1, o_3.2.2.2, RM.isWrong, RM.unpaired, RM.bestSound, RM.bestWay, RM.rows, RM.rowN, RM.sortOf, RM.sizeOf, RM.numbers, RM.holdsWhat, RM.holdsWhich, RM.holdsMany, RM.bodies, RM.ran, RM.actKind, RM.actN, RM.actA, RM.isParted) p1 p2) (fun o_4 => some (o_4.1, o_4.2.1, o_4.2.2.1, o_4.2.2.2.1, o_4.2.2.2.2.1, o_4.2.2.2.2.2))))) else (some (RM.s, RM.token, RM.frm, RM.to, RM.value, RM.isWrong))
set_option maxHeartbeats 1000000 in
set_option maxRecDepth 100000 in
theorem ctX9_perhaps (l : Launch) (D : va_G) (K : Nat → ClassId) (jM : Nat) (aM : Nat → Nat) (RM : ModV) (p0 : Int32) (p1 : Int32) (p2 : Int32) (o : (AI × Int32 × Int32 × Int32 × Int32 × Int32)) (hf : fX9_perhaps RM p0 p1 p2 = some o) (sz : Nat) : Met l yX9_perhaps wsX9_perhaps rmX9_perhaps (ht_Pre D K [.ref jM, .int p0, .int p1, .int p2] (wMo K jM aM RM.s RM.held RM.aside RM.before RM.isHeld RM.tape RM.taped RM.token RM.frm RM.to RM.value RM.isWrong RM.unpaired RM.bestSound RM.bestWay RM.rows RM.rowN RM.sortOf RM.sizeOf RM.numbers RM.holdsWhat RM.holdsWhich RM.holdsMany RM.bodies RM.ran RM.actKind RM.actN RM.actA RM.isParted) sz) (ht_Qv D K (wMo K jM aM o.1 RM.held RM.aside RM.before RM.isHeld RM.tape RM.taped o.2.1 o.2.2.1 o.2.2.2.1 o.2.2.2.2.1 o.2.2.2.2.2 RM.unpaired RM.bestSound RM.bestWay RM.rows RM.rowN RM.sortOf RM.sizeOf RM.numbers RM.holdsWhat RM.holdsWhich RM.holdsMany RM.bodies RM.ran RM.actKind RM.actN RM.actA RM.isParted) (va_A (wMo K jM aM RM.s RM.held RM.aside RM.before RM.isHeld RM.tape RM.taped RM.token RM.frm RM.to RM.value RM.isWrong RM.unpaired RM.bestSound RM.bestWay RM.rows RM.rowN RM.sortOf RM.sizeOf RM.numbers RM.holdsWhat RM.holdsWhich RM.holdsMany RM.bodies RM.ran RM.actKind RM.actN RM.actA RM.isParted) sz)) 0 0 (va_A (wMo K jM aM RM.s RM.held RM.aside RM.before RM.isHeld RM.tape RM.taped RM.token RM.frm RM.to RM.value RM.isWrong RM.unpaired RM.bestSound RM.bestWay RM.rows RM.rowN RM.sortOf RM.sizeOf RM.numbers RM.holdsWhat RM.holdsWhich RM.holdsMany RM.bodies RM.ran RM.actKind RM.actN RM.actA RM.isParted) sz) := by
  refine ht_enter (Qf := ht_Qv D K (wMo K jM aM o.1 RM.held RM.aside RM.before RM.isHeld RM.tape RM.taped o.2.1 o.2.2.1 o.2.2.2.1 o.2.2.2.2.1 o.2.2.2.2.2 RM.unpaired RM.bestSound RM.bestWay RM.rows RM.rowN RM.sortOf RM.sizeOf RM.numbers RM.holdsWhat RM.holdsWhich RM.holdsMany RM.bodies RM.ran RM.actKind RM.actN RM.actA RM.isParted)) (cc := cX9_perhaps) (maxL := 4) (rt := none) (by decide) rfl (Nat.le_of_ble_eq_true rfl) ?_ sz
  intro p e s m below meth c A Q H locs ls hQ hx hb hr hlk hmn hml hown hts hA hK hP hD hS hl
  have hown : s.vm.findClass RX9 = some m.cls := hown
  have hF : CallFix p m c cX9_perhaps 4 s ([.ref jM, .int p0, .int p1, .int p2] : List Value).toArray wsX9_perhaps RX9 := ⟨hx, hb, hml, hown, hts⟩
  have hl : lv_has ls 4 [(0, .ref jM), (1, .int p0), (2, .int p1), (3, .int p2)] := hl
  have iw9 : ∀ w ∈ u_ws RX9 TX9 29, w ∈ wsX9_perhaps := by decide +kernel
  have kw1 := hts (.fieldLink RX9 93 "HeldTonguesModel" "isWrong" "Z") (by decide +kernel)
  delta fX9_perhaps at hf
  refine lv_aload_n hx hb dX9_perhaps_0 rfl (lv_at hl 0 rfl) ?_
  refine va_get (D := D) (ci := 9) (v := .int RM.isWrong) (C := RX9) (T := TX9) (N := 29) hx hb hts iw9 hown hK hP 0 rfl rfl 11 (by decide) kw1 (fun _ h9 => h9) rfl dX9_perhaps_1 ?_
  refine lv_if_ne (tgt := 21) hx hb dX9_perhaps_4 (by decide) (fun c_1 => ?_) (fun c_1 => ?_)
  · replace hf := ht_f c_1 hf
    have ho := Option.some.inj hf
    subst ho; subst hQ
    exact ht_vret hx hb hr hlk hK hP hD hS dX9_perhaps_21
  · replace hf := ht_t c_1 hf
    refine lv_iload_n hx hb dX9_perhaps_7 rfl (lv_at hl 1 rfl) ?_
    refine lv_if_eq (tgt := 21) hx hb dX9_perhaps_8 (by decide) (fun c_2 => ?_) (fun c_2 => ?_)
    · replace hf := ht_t c_2 hf
      have ho := Option.some.inj hf
      subst ho; subst hQ
      exact ht_vret hx hb hr hlk hK hP hD hS dX9_perhaps_21
    · replace hf := ht_f c_2 hf
      refine lv_aload_n hx hb dX9_perhaps_11 rfl (lv_at hl 0 rfl) ?_
      obtain ⟨o_3, ho_3, hf⟩ := ht_bn_ob hf
      refine ht_callVv (rest := []) (As := []) (wc := (wMo K jM aM RM.s RM.held RM.aside RM.before RM.isHeld RM.tape RM.taped RM.token RM.frm RM.to RM.value RM.isWrong RM.unpaired RM.bestSound RM.bestWay RM.rows RM.rowN RM.sortOf RM.sizeOf RM.numbers RM.holdsWhat RM.holdsWhich RM.holdsMany RM.bodies RM.ran RM.actKind RM.actN RM.actA RM.isParted)) (wr := []) (w1 := (wMo K jM aM RM.s RM.held RM.aside RM.before RM.isHeld RM.tape RM.taped o_3.1 o_3.2.1 o_3.2.2.1 o_3.2.2.2 RM.isWrong RM.unpaired RM.bestSound RM.bestWay RM.rows RM.rowN RM.sortOf RM.sizeOf RM.numbers RM.holdsWhat RM.holdsWhich RM.holdsMany RM.bodies RM.ran RM.actKind RM.actN RM.actA RM.isParted)) (w2 := (wMo K jM aM RM.s RM.held RM.aside RM.before RM.isHeld RM.tape RM.taped o_3.1 o_3.2.1 o_3.2.2.1 o_3.2.2.2 RM.isWrong RM.unpaired RM.bestSound RM.bestWay RM.rows RM.rowN RM.sortOf RM.sizeOf RM.numbers RM.holdsWhat RM.holdsWhich RM.holdsMany RM.bodies RM.ran RM.actKind RM.actN RM.actA RM.isParted)) hF (ctX9_nextToken l D K jM aM RM o_3 ho_3 H.size) (cwV 0 hts gX9_perhaps_X9_nextToken rfl rfl rfl hdX9_nextToken ⟨Nat.le_of_ble_eq_true rfl, Nat.le_of_ble_eq_true rfl⟩) hK hP hD hS hA [0, 1, 2, 3, 4, 5, 6, 7, 8, 9, 10, 11, 12, 13, 14, 15] [] rfl rfl (by decide) (by decide) (by decide) [0, 1, 2, 3, 4, 5, 6, 7, 8, 9, 10, 11, 12, 13, 14, 15] rfl (by decide) (va_recv hK hP (ci := 9) (q0 := 0) rfl rfl) rfl hl.1 rfl (Nat.le_of_ble_eq_true rfl) dX9_perhaps_12 ⟨Nat.zero_le _, Nat.zero_le _⟩ (fun H locs hP hD hS => ?_)
      refine lv_aload_n hx hb dX9_perhaps_15 rfl (lv_at hl 0 rfl) ?_
      refine lv_iload_n hx hb dX9_perhaps_16 rfl (lv_at hl 2 rfl) ?_
      refine lv_iload_n hx hb dX9_perhaps_17 rfl (lv_at hl 3 rfl) ?_
      obtain ⟨o_4, ho_4, hf⟩ := ht_bn_ob hf
      refine ht_callVv (rest := []) (As := [.int p1, .int p2]) (wc := (wMo K jM aM RM.s RM.held RM.aside RM.before RM.isHeld RM.tape RM.taped o_3.1 o_3.2.1 o_3.2.2.1 o_3.2.2.2 RM.isWrong RM.unpaired RM.bestSound RM.bestWay RM.rows RM.rowN RM.sortOf RM.sizeOf RM.numbers RM.holdsWhat RM.holdsWhich RM.holdsMany RM.bodies RM.ran RM.actKind RM.actN RM.actA RM.isParted)) (wr := []) (w1 := (wMo K jM aM o_4.1 RM.held RM.aside RM.before RM.isHeld RM.tape RM.taped o_4.2.1 o_4.2.2.1 o_4.2.2.2.1 o_4.2.2.2.2.1 o_4.2.2.2.2.2 RM.unpaired RM.bestSound RM.bestWay RM.rows RM.rowN RM.sortOf RM.sizeOf RM.numbers RM.holdsWhat RM.holdsWhich RM.holdsMany RM.bodies RM.ran RM.actKind RM.actN RM.actA RM.isParted)) (w2 := (wMo K jM aM o_4.1 RM.held RM.aside RM.before RM.isHeld RM.tape RM.taped o_4.2.1 o_4.2.2.1 o_4.2.2.2.1 o_4.2.2.2.2.1 o_4.2.2.2.2.2 RM.unpaired RM.bestSound RM.bestWay RM.rows RM.rowN RM.sortOf RM.sizeOf RM.numbers RM.holdsWhat RM.holdsWhich RM.holdsMany RM.bodies RM.ran RM.actKind RM.actN RM.actA RM.isParted)) hF (ctX9_numberTo l D K jM aM (RM.s, RM.held, RM.aside, RM.before, RM.isHeld, RM.tape, RM.taped, o_3.1, o_3.2.1, o_3.2.2.1, o_3.2.2.2, RM.isWrong, RM.unpaired, RM.bestSound, RM.bestWay, RM.rows, RM.rowN, RM.sortOf, RM.sizeOf, RM.numbers, RM.holdsWhat, RM.holdsWhich, RM.holdsMany, RM.bodies, RM.ran, RM.actKind, RM.actN, RM.actA, RM.isParted) p1 p2 o_4 ho_4 H.size) (cwV 2 hts gX9_perhaps_X9_numberTo rfl rfl rfl hdX9_numberTo ⟨Nat.le_of_ble_eq_true rfl, Nat.le_of_ble_eq_true rfl⟩) hK hP hD hS hA [0, 1, 2, 3, 4, 5, 6, 7, 8, 9, 10, 11, 12, 13, 14, 15] [] rfl rfl (by decide) (by decide) (by decide) [0, 1, 2, 3, 4, 5, 6, 7, 8, 9, 10, 11, 12, 13, 14, 15] rfl (by decide) (va_recv hK hP (ci := 9) (q0 := 0) rfl rfl) rfl hl.1 rfl (Nat.le_of_ble_eq_true rfl) dX9_perhaps_18 ⟨Nat.zero_le _, Nat.zero_le _⟩ (fun H locs hP hD hS => ?_)
      have ho := Option.some.inj hf
      subst ho; subst hQ
      exact ht_vret hx hb hr hlk hK hP hD hS dX9_perhaps_21
abbrev rmX9_comes : Room := { frames := 0, cells := 0, slots := 0, locals := 0 }
theorem hdX9_comes : yX9_comes.cls = RX9 ∧ yX9_comes.cls ≠ "java/lang/invoke/MethodHandle" ∧ yX9_comes.cls ≠ "java/lang/invoke/VarHandle" ∧ (parseMethodDescriptor yX9_comes.desc).map (fun d => d.parameters.length) = some 4 := by decide +kernel
def fX9_comes (RM : ModV) (p0 : Int32) (p1 : Int32) (p2 : Int32) (p3 : Int32) : Option AI := ht_gd (ht_ix (0 : Int32) 57) (ht_nm ((9 : Int32) + ((6 : Int32) * (RM.s (0 : Int32).toNatClampNeg))) (fun x5_2 => ht_gd (ht_ix x5_2 57) (ht_nm (upd RM.s x5_2.toNatClampNeg p0) (fun vM_s_4 => ht_gd (ht_ix (x5_2 + (1 : Int32)) 57) (ht_nm (upd vM_s_4 (x5_2 + (1 : Int32)).toNatClampNeg p1) (fun vM_s_6 => ht_gd (ht_ix (x5_2 + (2 : Int32)) 57) (ht_nm (upd vM_s_6 (x5_2 + (2 : Int32)).toNatClampNeg p2) (fun vM_s_8 => ht_gd (ht_ix (x5_2 + (3 : Int32)) 57) (ht_nm (upd vM_s_8 (x5_2 + (3 : Int32)).toNatClampNeg p3) (fun vM_s_10 => ht_gd (ht_ix (x5_2 + (4 : Int32)) 57) (ht_nm (upd vM_s_10 (x5_2 + (4 : Int32)).toNatClampNeg (0 : Int32)) (fun vM_s_12 => ht_gd (ht_ix (x5_2 + (5 : Int32)) 57) (ht_nm (upd vM_s_12 (x5_2 + (5 : Int32)).toNatClampNeg (1 : Int32)) (fun vM_s_14 => ht_gd (ht_ix (0 : Int32) 57) (ht_gd (ht_ix (0 : Int32) 57) (ht_nm (upd vM_s_14 (0 : Int32).toNatClampNeg ((vM_s_14 (0 : Int32).toNatClampNeg) + (1 : Int32))) (fun vM_s_17 => some vM_s_17)))))))))))))))))
set_option maxHeartbeats 1000000 in
set_option maxRecDepth 100000 in
theorem ctX9_comes (l : Launch) (D : va_G) (K : Nat → ClassId) (jM : Nat) (aM : Nat → Nat) (RM : ModV) (p0 : Int32) (p1 : Int32) (p2 : Int32) (p3 : Int32) (o : AI) (hf : fX9_comes RM p0 p1 p2 p3 = some o) (sz : Nat) : Met l yX9_comes wsX9_comes rmX9_comes (ht_Pre D K [.ref jM, .int p0, .int p1, .int p2, .int p3] (wMo K jM aM RM.s RM.held RM.aside RM.before RM.isHeld RM.tape RM.taped RM.token RM.frm RM.to RM.value RM.isWrong RM.unpaired RM.bestSound RM.bestWay RM.rows RM.rowN RM.sortOf RM.sizeOf RM.numbers RM.holdsWhat RM.holdsWhich RM.holdsMany RM.bodies RM.ran RM.actKind RM.actN RM.actA RM.isParted) sz) (ht_Qv D K (wMo K jM aM o RM.held RM.aside RM.before RM.isHeld RM.tape RM.taped RM.token RM.frm RM.to RM.value RM.isWrong RM.unpaired RM.bestSound RM.bestWay RM.rows RM.rowN RM.sortOf RM.sizeOf RM.numbers RM.holdsWhat RM.holdsWhich RM.holdsMany RM.bodies RM.ran RM.actKind RM.actN RM.actA RM.isParted) (va_A (wMo K jM aM RM.s RM.held RM.aside RM.before RM.isHeld RM.tape RM.taped RM.token RM.frm RM.to RM.value RM.isWrong RM.unpaired RM.bestSound RM.bestWay RM.rows RM.rowN RM.sortOf RM.sizeOf RM.numbers RM.holdsWhat RM.holdsWhich RM.holdsMany RM.bodies RM.ran RM.actKind RM.actN RM.actA RM.isParted) sz)) 0 0 (va_A (wMo K jM aM RM.s RM.held RM.aside RM.before RM.isHeld RM.tape RM.taped RM.token RM.frm RM.to RM.value RM.isWrong RM.unpaired RM.bestSound RM.bestWay RM.rows RM.rowN RM.sortOf RM.sizeOf RM.numbers RM.holdsWhat RM.holdsWhich RM.holdsMany RM.bodies RM.ran RM.actKind RM.actN RM.actA RM.isParted) sz) := by
  refine ht_enter (Qf := ht_Qv D K (wMo K jM aM o RM.held RM.aside RM.before RM.isHeld RM.tape RM.taped RM.token RM.frm RM.to RM.value RM.isWrong RM.unpaired RM.bestSound RM.bestWay RM.rows RM.rowN RM.sortOf RM.sizeOf RM.numbers RM.holdsWhat RM.holdsWhich RM.holdsMany RM.bodies RM.ran RM.actKind RM.actN RM.actA RM.isParted)) (cc := cX9_comes) (maxL := 6) (rt := none) (by decide) rfl (Nat.le_of_ble_eq_true rfl) ?_ sz
  intro p e s m below meth c A Q H locs ls hQ hx hb hr hlk hmn hml hown hts hA hK hP hD hS hl
  have hown : s.vm.findClass RX9 = some m.cls := hown
  have hF : CallFix p m c cX9_comes 6 s ([.ref jM, .int p0, .int p1, .int p2, .int p3] : List Value).toArray wsX9_comes RX9 := ⟨hx, hb, hml, hown, hts⟩
  have hl : lv_has ls 6 [(0, .ref jM), (1, .int p0), (2, .int p1), (3, .int p2), (4, .int p3)] := hl
  have iw9 : ∀ w ∈ u_ws RX9 TX9 29, w ∈ wsX9_comes := by decide +kernel
  have kw1 := hts (.fieldLink RX9 7 "HeldTonguesModel" "s" "[I") (by decide +kernel)
  delta fX9_comes at hf
  refine lv_bipush (v := 9) hx hb dX9_comes_0 (by decide) ?_
  refine lv_bipush (v := 6) hx hb dX9_comes_2 (by decide) ?_
  refine lv_aload_n hx hb dX9_comes_4 rfl (lv_at hl 0 rfl) ?_
  refine va_get (D := D) (ci := 9) (v := .ref (aM 0)) (C := RX9) (T := TX9) (N := 29) hx hb hts iw9 hown hK hP 0 rfl rfl 0 (by decide) kw1 (fun _ h9 => h9) rfl dX9_comes_5 ?_
  refine lv_iconst (v := 0) hx hb dX9_comes_8 (by decide) ?_
  obtain ⟨g_1, hf⟩ := ht_gd_ob hf
  refine va_iald hx hb hK hP 1 1 rfl rfl (ht_ix_in g_1) dX9_comes_9 ?_
  refine lv_imul hx hb dX9_comes_10 ?_
  refine lv_iadd hx hb dX9_comes_11 ?_
  obtain ⟨x5_2, ex5_2, hf⟩ := ht_nm_ob hf
  rw [← ex5_2]
  refine lv_istore (lv' := [(5, .int x5_2), (0, .ref jM), (1, .int p0), (2, .int p1), (3, .int p2), (4, .int p3)]) hx hb dX9_comes_12 hl (by decide) rfl (fun ls hl => ?_)
  refine lv_aload_n hx hb dX9_comes_14 rfl (lv_at hl 1 rfl) ?_
  refine va_get (D := D) (ci := 9) (v := .ref (aM 0)) (C := RX9) (T := TX9) (N := 29) hx hb hts iw9 hown hK hP 0 rfl rfl 0 (by decide) kw1 (fun _ h9 => h9) rfl dX9_comes_15 ?_
  refine lv_iload hx hb dX9_comes_18 (lv_at hl 0 rfl) ?_
  refine lv_iload_n hx hb dX9_comes_20 rfl (lv_at hl 2 rfl) ?_
  obtain ⟨g_3, hf⟩ := ht_gd_ob hf
  obtain ⟨vM_s_4, evM_s_4, hf⟩ := ht_nm_ob hf
  refine ht_iast (w2 := (wMo K jM aM vM_s_4 RM.held RM.aside RM.before RM.isHeld RM.tape RM.taped RM.token RM.frm RM.to RM.value RM.isWrong RM.unpaired RM.bestSound RM.bestWay RM.rows RM.rowN RM.sortOf RM.sizeOf RM.numbers RM.holdsWhat RM.holdsWhich RM.holdsMany RM.bodies RM.ran RM.actKind RM.actN RM.actA RM.isParted)) hx hb hK hP hD hS 1 1 rfl rfl g_3 dX9_comes_21 evM_s_4 rfl (fun H locs hP hD hS => ?_)
  refine lv_aload_n hx hb dX9_comes_22 rfl (lv_at hl 1 rfl) ?_
  refine va_get (D := D) (ci := 9) (v := .ref (aM 0)) (C := RX9) (T := TX9) (N := 29) hx hb hts iw9 hown hK hP 0 rfl rfl 0 (by decide) kw1 (fun _ h9 => h9) rfl dX9_comes_23 ?_
  refine lv_iload hx hb dX9_comes_26 (lv_at hl 0 rfl) ?_
  refine lv_iconst (v := 1) hx hb dX9_comes_28 (by decide) ?_
  refine lv_iadd hx hb dX9_comes_29 ?_
  refine lv_iload_n hx hb dX9_comes_30 rfl (lv_at hl 3 rfl) ?_
  obtain ⟨g_5, hf⟩ := ht_gd_ob hf
  obtain ⟨vM_s_6, evM_s_6, hf⟩ := ht_nm_ob hf
  refine ht_iast (w2 := (wMo K jM aM vM_s_6 RM.held RM.aside RM.before RM.isHeld RM.tape RM.taped RM.token RM.frm RM.to RM.value RM.isWrong RM.unpaired RM.bestSound RM.bestWay RM.rows RM.rowN RM.sortOf RM.sizeOf RM.numbers RM.holdsWhat RM.holdsWhich RM.holdsMany RM.bodies RM.ran RM.actKind RM.actN RM.actA RM.isParted)) hx hb hK hP hD hS 1 1 rfl rfl g_5 dX9_comes_31 evM_s_6 rfl (fun H locs hP hD hS => ?_)
  refine lv_aload_n hx hb dX9_comes_32 rfl (lv_at hl 1 rfl) ?_
  refine va_get (D := D) (ci := 9) (v := .ref (aM 0)) (C := RX9) (T := TX9) (N := 29) hx hb hts iw9 hown hK hP 0 rfl rfl 0 (by decide) kw1 (fun _ h9 => h9) rfl dX9_comes_33 ?_
  refine lv_iload hx hb dX9_comes_36 (lv_at hl 0 rfl) ?_
  refine lv_iconst (v := 2) hx hb dX9_comes_38 (by decide) ?_
  refine lv_iadd hx hb dX9_comes_39 ?_
  refine lv_iload_n hx hb dX9_comes_40 rfl (lv_at hl 4 rfl) ?_
  obtain ⟨g_7, hf⟩ := ht_gd_ob hf
  obtain ⟨vM_s_8, evM_s_8, hf⟩ := ht_nm_ob hf
  refine ht_iast (w2 := (wMo K jM aM vM_s_8 RM.held RM.aside RM.before RM.isHeld RM.tape RM.taped RM.token RM.frm RM.to RM.value RM.isWrong RM.unpaired RM.bestSound RM.bestWay RM.rows RM.rowN RM.sortOf RM.sizeOf RM.numbers RM.holdsWhat RM.holdsWhich RM.holdsMany RM.bodies RM.ran RM.actKind RM.actN RM.actA RM.isParted)) hx hb hK hP hD hS 1 1 rfl rfl g_7 dX9_comes_41 evM_s_8 rfl (fun H locs hP hD hS => ?_)
  refine lv_aload_n hx hb dX9_comes_42 rfl (lv_at hl 1 rfl) ?_
  refine va_get (D := D) (ci := 9) (v := .ref (aM 0)) (C := RX9) (T := TX9) (N := 29) hx hb hts iw9 hown hK hP 0 rfl rfl 0 (by decide) kw1 (fun _ h9 => h9) rfl dX9_comes_43 ?_
  refine lv_iload hx hb dX9_comes_46 (lv_at hl 0 rfl) ?_
  refine lv_iconst (v := 3) hx hb dX9_comes_48 (by decide) ?_
  refine lv_iadd hx hb dX9_comes_49 ?_
  refine lv_iload hx hb dX9_comes_50 (lv_at hl 5 rfl) ?_
  obtain ⟨g_9, hf⟩ := ht_gd_ob hf
  obtain ⟨vM_s_10, evM_s_10, hf⟩ := ht_nm_ob hf
  refine ht_iast (w2 := (wMo K jM aM vM_s_10 RM.held RM.aside RM.before RM.isHeld RM.tape RM.taped RM.token RM.frm RM.to RM.value RM.isWrong RM.unpaired RM.bestSound RM.bestWay RM.rows RM.rowN RM.sortOf RM.sizeOf RM.numbers RM.holdsWhat RM.holdsWhich RM.holdsMany RM.bodies RM.ran RM.actKind RM.actN RM.actA RM.isParted)) hx hb hK hP hD hS 1 1 rfl rfl g_9 dX9_comes_52 evM_s_10 rfl (fun H locs hP hD hS => ?_)
  refine lv_aload_n hx hb dX9_comes_53 rfl (lv_at hl 1 rfl) ?_
  refine va_get (D := D) (ci := 9) (v := .ref (aM 0)) (C := RX9) (T := TX9) (N := 29) hx hb hts iw9 hown hK hP 0 rfl rfl 0 (by decide) kw1 (fun _ h9 => h9) rfl dX9_comes_54 ?_
  refine lv_iload hx hb dX9_comes_57 (lv_at hl 0 rfl) ?_
  refine lv_iconst (v := 4) hx hb dX9_comes_59 (by decide) ?_
  refine lv_iadd hx hb dX9_comes_60 ?_
  refine lv_iconst (v := 0) hx hb dX9_comes_61 (by decide) ?_
  obtain ⟨g_11, hf⟩ := ht_gd_ob hf
  obtain ⟨vM_s_12, evM_s_12, hf⟩ := ht_nm_ob hf
  refine ht_iast (w2 := (wMo K jM aM vM_s_12 RM.held RM.aside RM.before RM.isHeld RM.tape RM.taped RM.token RM.frm RM.to RM.value RM.isWrong RM.unpaired RM.bestSound RM.bestWay RM.rows RM.rowN RM.sortOf RM.sizeOf RM.numbers RM.holdsWhat RM.holdsWhich RM.holdsMany RM.bodies RM.ran RM.actKind RM.actN RM.actA RM.isParted)) hx hb hK hP hD hS 1 1 rfl rfl g_11 dX9_comes_62 evM_s_12 rfl (fun H locs hP hD hS => ?_)
  refine lv_aload_n hx hb dX9_comes_63 rfl (lv_at hl 1 rfl) ?_
  refine va_get (D := D) (ci := 9) (v := .ref (aM 0)) (C := RX9) (T := TX9) (N := 29) hx hb hts iw9 hown hK hP 0 rfl rfl 0 (by decide) kw1 (fun _ h9 => h9) rfl dX9_comes_64 ?_
  refine lv_iload hx hb dX9_comes_67 (lv_at hl 0 rfl) ?_
  refine lv_iconst (v := 5) hx hb dX9_comes_69 (by decide) ?_
  refine lv_iadd hx hb dX9_comes_70 ?_
  refine lv_iconst (v := 1) hx hb dX9_comes_71 (by decide) ?_
  obtain ⟨g_13, hf⟩ := ht_gd_ob hf
  obtain ⟨vM_s_14, evM_s_14, hf⟩ := ht_nm_ob hf
  refine ht_iast (w2 := (wMo K jM aM vM_s_14 RM.held RM.aside RM.before RM.isHeld RM.tape RM.taped RM.token RM.frm RM.to RM.value RM.isWrong RM.unpaired RM.bestSound RM.bestWay RM.rows RM.rowN RM.sortOf RM.sizeOf RM.numbers RM.holdsWhat RM.holdsWhich RM.holdsMany RM.bodies RM.ran RM.actKind RM.actN RM.actA RM.isParted)) hx hb hK hP hD hS 1 1 rfl rfl g_13 dX9_comes_72 evM_s_14 rfl (fun H locs hP hD hS => ?_)
  refine lv_aload_n hx hb dX9_comes_73 rfl (lv_at hl 1 rfl) ?_
  refine va_get (D := D) (ci := 9) (v := .ref (aM 0)) (C := RX9) (T := TX9) (N := 29) hx hb hts iw9 hown hK hP 0 rfl rfl 0 (by decide) kw1 (fun _ h9 => h9) rfl dX9_comes_74 ?_
  refine lv_iconst (v := 0) hx hb dX9_comes_77 (by decide) ?_
  refine lv_dup2_11 hx hb dX9_comes_78 rfl rfl ?_
  obtain ⟨g_15, hf⟩ := ht_gd_ob hf
  refine va_iald hx hb hK hP 1 1 rfl rfl (ht_ix_in g_15) dX9_comes_79 ?_
  refine lv_iconst (v := 1) hx hb dX9_comes_80 (by decide) ?_
  refine lv_iadd hx hb dX9_comes_81 ?_
  obtain ⟨g_16, hf⟩ := ht_gd_ob hf
  obtain ⟨vM_s_17, evM_s_17, hf⟩ := ht_nm_ob hf
  refine ht_iast (w2 := (wMo K jM aM vM_s_17 RM.held RM.aside RM.before RM.isHeld RM.tape RM.taped RM.token RM.frm RM.to RM.value RM.isWrong RM.unpaired RM.bestSound RM.bestWay RM.rows RM.rowN RM.sortOf RM.sizeOf RM.numbers RM.holdsWhat RM.holdsWhich RM.holdsMany RM.bodies RM.ran RM.actKind RM.actN RM.actA RM.isParted)) hx hb hK hP hD hS 1 1 rfl rfl g_16 dX9_comes_82 evM_s_17 rfl (fun H locs hP hD hS => ?_)
  have ho := Option.some.inj hf
  subst ho; subst hQ
  exact ht_vret hx hb hr hlk hK hP hD hS dX9_comes_83
abbrev rmX9_leaves : Room := { frames := 1, cells := 0, slots := 0, locals := 22 }
theorem hdX9_leaves : yX9_leaves.cls = RX9 ∧ yX9_leaves.cls ≠ "java/lang/invoke/MethodHandle" ∧ yX9_leaves.cls ≠ "java/lang/invoke/VarHandle" ∧ (parseMethodDescriptor yX9_leaves.desc).map (fun d => d.parameters.length) = some 1 := by decide +kernel
def fX9_leaves_b45 (RM : ModV) (x1 : Int32) (vM_s : AI) : Option AI := ht_gd (ht_ix (((9 : Int32) + ((6 : Int32) * x1)) + (4 : Int32)) 57) (ht_nm (upd vM_s (((9 : Int32) + ((6 : Int32) * x1)) + (4 : Int32)).toNatClampNeg (0 : Int32)) (fun vM_s_2 => ht_gd (ht_ix (((9 : Int32) + ((6 : Int32) * x1)) + (5 : Int32)) 57) (ht_nm (upd vM_s_2 (((9 : Int32) + ((6 : Int32) * x1)) + (5 : Int32)).toNatClampNeg (1 : Int32)) (fun vM_s_4 => some vM_s_4))))
def fX9_leaves (RM : ModV) (p0 : Int32) : Option AI := ht_bn (fX9_its RM p0 (4 : Int32)) (fun o_5 => if o_5 ≤ 0 then (fX9_leaves_b45 RM p0 RM.s) else (ht_gd (ht_ix (((9 : Int32) + ((6 : Int32) * (o_5 - (1 : Int32)))) + (4 : Int32)) 57) (ht_nm (upd RM.s (((9 : Int32) + ((6 : Int32) * (o_5 - (1 : Int32)))) + (4 : Int32)).toNatClampNeg (0 : Int32)) (fun vM_s_8 => ht_gd (ht_ix (((9 : Int32) + ((6 : Int32) * (o_5 - (1 : Int32)))) + (5 : Int32)) 57) (ht_nm (upd vM_s_8 (((9 : Int32) + ((6 : Int32) * (o_5 - (1 : Int32)))) + (5 : Int32)).toNatClampNeg (1 : Int32)) (fun vM_s_10 => fX9_leaves_b45 RM p0 vM_s_10))))))
set_option maxHeartbeats 1000000 in
set_option maxRecDepth 100000 in
theorem ctX9_leaves (l : Launch) (D : va_G) (K : Nat → ClassId) (jM : Nat) (aM : Nat → Nat) (RM : ModV) (p0 : Int32) (o : AI) (hf : fX9_leaves RM p0 = some o) (sz : Nat) : Met l yX9_leaves wsX9_leaves rmX9_leaves (ht_Pre D K [.ref jM, .int p0] (wMo K jM aM RM.s RM.held RM.aside RM.before RM.isHeld RM.tape RM.taped RM.token RM.frm RM.to RM.value RM.isWrong RM.unpaired RM.bestSound RM.bestWay RM.rows RM.rowN RM.sortOf RM.sizeOf RM.numbers RM.holdsWhat RM.holdsWhich RM.holdsMany RM.bodies RM.ran RM.actKind RM.actN RM.actA RM.isParted) sz) (ht_Qv D K (wMo K jM aM o RM.held RM.aside RM.before RM.isHeld RM.tape RM.taped RM.token RM.frm RM.to RM.value RM.isWrong RM.unpaired RM.bestSound RM.bestWay RM.rows RM.rowN RM.sortOf RM.sizeOf RM.numbers RM.holdsWhat RM.holdsWhich RM.holdsMany RM.bodies RM.ran RM.actKind RM.actN RM.actA RM.isParted) (va_A (wMo K jM aM RM.s RM.held RM.aside RM.before RM.isHeld RM.tape RM.taped RM.token RM.frm RM.to RM.value RM.isWrong RM.unpaired RM.bestSound RM.bestWay RM.rows RM.rowN RM.sortOf RM.sizeOf RM.numbers RM.holdsWhat RM.holdsWhich RM.holdsMany RM.bodies RM.ran RM.actKind RM.actN RM.actA RM.isParted) sz)) 0 0 (va_A (wMo K jM aM RM.s RM.held RM.aside RM.before RM.isHeld RM.tape RM.taped RM.token RM.frm RM.to RM.value RM.isWrong RM.unpaired RM.bestSound RM.bestWay RM.rows RM.rowN RM.sortOf RM.sizeOf RM.numbers RM.holdsWhat RM.holdsWhich RM.holdsMany RM.bodies RM.ran RM.actKind RM.actN RM.actA RM.isParted) sz) := by
  refine ht_enter (Qf := ht_Qv D K (wMo K jM aM o RM.held RM.aside RM.before RM.isHeld RM.tape RM.taped RM.token RM.frm RM.to RM.value RM.isWrong RM.unpaired RM.bestSound RM.bestWay RM.rows RM.rowN RM.sortOf RM.sizeOf RM.numbers RM.holdsWhat RM.holdsWhich RM.holdsMany RM.bodies RM.ran RM.actKind RM.actN RM.actA RM.isParted)) (cc := cX9_leaves) (maxL := 3) (rt := none) (by decide) rfl (Nat.le_of_ble_eq_true rfl) ?_ sz
  intro p e s m below meth c A Q H locs ls hQ hx hb hr hlk hmn hml hown hts hA hK hP hD hS hl
  have hown : s.vm.findClass RX9 = some m.cls := hown
  have hF : CallFix p m c cX9_leaves 3 s ([.ref jM, .int p0] : List Value).toArray wsX9_leaves RX9 := ⟨hx, hb, hml, hown, hts⟩
  have hl : lv_has ls 3 [(0, .ref jM), (1, .int p0)] := hl
  have iw9 : ∀ w ∈ u_ws RX9 TX9 29, w ∈ wsX9_leaves := by decide +kernel
  have kw1 := hts (.fieldLink RX9 7 "HeldTonguesModel" "s" "[I") (by decide +kernel)
  have b45 : ∀ (x1 : Int32) (vM_s : AI) (H : Heap) (locs : List Loc) (ls : Array Slot), fX9_leaves_b45 RM x1 vM_s = some o → va_P D vwCl (wMo K jM aM vM_s RM.held RM.aside RM.before RM.isHeld RM.tape RM.taped RM.token RM.frm RM.to RM.value RM.isWrong RM.unpaired RM.bestSound RM.bestWay RM.rows RM.rowN RM.sortOf RM.sizeOf RM.numbers RM.holdsWhat RM.holdsWhich RM.holdsMany RM.bodies RM.ran RM.actKind RM.actN RM.actA RM.isParted) H → va_D A (wMo K jM aM vM_s RM.held RM.aside RM.before RM.isHeld RM.tape RM.taped RM.token RM.frm RM.to RM.value RM.isWrong RM.unpaired RM.bestSound RM.bestWay RM.rows RM.rowN RM.sortOf RM.sizeOf RM.numbers RM.holdsWhat RM.holdsWhich RM.holdsMany RM.bodies RM.ran RM.actKind RM.actN RM.actA RM.isParted) → va_S A s.heap H locs → lv_has ls 3 [(0, .ref jM), (1, .int x1)] → W p l e (headSpec wsX9_leaves rmX9_leaves).room s m ([.ref jM, .int p0] : List Value).toArray below meth c H locs 0 0 Q (F0 m 45 ls []) := by
    intro x1 vM_s H locs ls hf hP hD hS hl
    delta fX9_leaves_b45 at hf
    refine lv_aload_n hx hb dX9_leaves_45 rfl (lv_at hl 0 rfl) ?_
    refine va_get (D := D) (ci := 9) (v := .ref (aM 0)) (C := RX9) (T := TX9) (N := 29) hx hb hts iw9 hown hK hP 0 rfl rfl 0 (by decide) kw1 (fun _ h9 => h9) rfl dX9_leaves_46 ?_
    refine lv_bipush (v := 9) hx hb dX9_leaves_49 (by decide) ?_
    refine lv_bipush (v := 6) hx hb dX9_leaves_51 (by decide) ?_
    refine lv_iload_n hx hb dX9_leaves_53 rfl (lv_at hl 1 rfl) ?_
    refine lv_imul hx hb dX9_leaves_54 ?_
    refine lv_iadd hx hb dX9_leaves_55 ?_
    refine lv_iconst (v := 4) hx hb dX9_leaves_56 (by decide) ?_
    refine lv_iadd hx hb dX9_leaves_57 ?_
    refine lv_iconst (v := 0) hx hb dX9_leaves_58 (by decide) ?_
    obtain ⟨g_1, hf⟩ := ht_gd_ob hf
    obtain ⟨vM_s_2, evM_s_2, hf⟩ := ht_nm_ob hf
    refine ht_iast (w2 := (wMo K jM aM vM_s_2 RM.held RM.aside RM.before RM.isHeld RM.tape RM.taped RM.token RM.frm RM.to RM.value RM.isWrong RM.unpaired RM.bestSound RM.bestWay RM.rows RM.rowN RM.sortOf RM.sizeOf RM.numbers RM.holdsWhat RM.holdsWhich RM.holdsMany RM.bodies RM.ran RM.actKind RM.actN RM.actA RM.isParted)) hx hb hK hP hD hS 1 1 rfl rfl g_1 dX9_leaves_59 evM_s_2 rfl (fun H locs hP hD hS => ?_)
    refine lv_aload_n hx hb dX9_leaves_60 rfl (lv_at hl 0 rfl) ?_
    refine va_get (D := D) (ci := 9) (v := .ref (aM 0)) (C := RX9) (T := TX9) (N := 29) hx hb hts iw9 hown hK hP 0 rfl rfl 0 (by decide) kw1 (fun _ h9 => h9) rfl dX9_leaves_61 ?_
    refine lv_bipush (v := 9) hx hb dX9_leaves_64 (by decide) ?_
    refine lv_bipush (v := 6) hx hb dX9_leaves_66 (by decide) ?_
    refine lv_iload_n hx hb dX9_leaves_68 rfl (lv_at hl 1 rfl) ?_
    refine lv_imul hx hb dX9_leaves_69 ?_
    refine lv_iadd hx hb dX9_leaves_70 ?_
    refine lv_iconst (v := 5) hx hb dX9_leaves_71 (by decide) ?_
    refine lv_iadd hx hb dX9_leaves_72 ?_
    refine lv_iconst (v := 1) hx hb dX9_leaves_73 (by decide) ?_
    obtain ⟨g_3, hf⟩ := ht_gd_ob hf
    obtain ⟨vM_s_4, evM_s_4, hf⟩ := ht_nm_ob hf
    refine ht_iast (w2 := (wMo K jM aM vM_s_4 RM.held RM.aside RM.before RM.isHeld RM.tape RM.taped RM.token RM.frm RM.to RM.value RM.isWrong RM.unpaired RM.bestSound RM.bestWay RM.rows RM.rowN RM.sortOf RM.sizeOf RM.numbers RM.holdsWhat RM.holdsWhich RM.holdsMany RM.bodies RM.ran RM.actKind RM.actN RM.actA RM.isParted)) hx hb hK hP hD hS 1 1 rfl rfl g_3 dX9_leaves_74 evM_s_4 rfl (fun H locs hP hD hS => ?_)
    have ho := Option.some.inj hf
    subst ho; subst hQ
    exact ht_vret hx hb hr hlk hK hP hD hS dX9_leaves_75
  delta fX9_leaves at hf
  refine lv_aload_n hx hb dX9_leaves_0 rfl (lv_at hl 0 rfl) ?_
  refine lv_iload_n hx hb dX9_leaves_1 rfl (lv_at hl 1 rfl) ?_
  refine lv_iconst (v := 4) hx hb dX9_leaves_2 (by decide) ?_
  obtain ⟨o_5, ho_5, hf⟩ := ht_bn_ob hf
  refine ht_callVi (r := o_5) (rest := []) (As := [.int p0, .int (4 : Int32)]) (wc := (wMo K jM aM RM.s RM.held RM.aside RM.before RM.isHeld RM.tape RM.taped RM.token RM.frm RM.to RM.value RM.isWrong RM.unpaired RM.bestSound RM.bestWay RM.rows RM.rowN RM.sortOf RM.sizeOf RM.numbers RM.holdsWhat RM.holdsWhich RM.holdsMany RM.bodies RM.ran RM.actKind RM.actN RM.actA RM.isParted)) (wr := []) (w1 := (wMo K jM aM RM.s RM.held RM.aside RM.before RM.isHeld RM.tape RM.taped RM.token RM.frm RM.to RM.value RM.isWrong RM.unpaired RM.bestSound RM.bestWay RM.rows RM.rowN RM.sortOf RM.sizeOf RM.numbers RM.holdsWhat RM.holdsWhich RM.holdsMany RM.bodies RM.ran RM.actKind RM.actN RM.actA RM.isParted)) (w2 := (wMo K jM aM RM.s RM.held RM.aside RM.before RM.isHeld RM.tape RM.taped RM.token RM.frm RM.to RM.value RM.isWrong RM.unpaired RM.bestSound RM.bestWay RM.rows RM.rowN RM.sortOf RM.sizeOf RM.numbers RM.holdsWhat RM.holdsWhich RM.holdsMany RM.bodies RM.ran RM.actKind RM.actN RM.actA RM.isParted)) hF (ctX9_its l D K jM aM RM p0 (4 : Int32) o_5 ho_5 H.size) (cwV 2 hts gX9_leaves_X9_its rfl rfl rfl hdX9_its ⟨Nat.le_of_ble_eq_true rfl, Nat.le_of_ble_eq_true rfl⟩) hK hP hD hS hA [0, 1, 2, 3, 4, 5, 6, 7, 8, 9, 10, 11, 12, 13, 14, 15] [] rfl rfl (by decide) (by decide) (by decide) [0, 1, 2, 3, 4, 5, 6, 7, 8, 9, 10, 11, 12, 13, 14, 15] rfl (by decide) (va_recv hK hP (ci := 9) (q0 := 0) rfl rfl) rfl hl.1 rfl (Nat.le_of_ble_eq_true rfl) dX9_leaves_3 ⟨Nat.zero_le _, Nat.zero_le _⟩ (fun H locs hP hD hS => ?_)
  refine lv_istore_n (lv' := [(2, .int o_5), (0, .ref jM), (1, .int p0)]) hx hb dX9_leaves_6 rfl hl (by decide) rfl (fun ls hl => ?_)
  refine lv_iload_n hx hb dX9_leaves_7 rfl (lv_at hl 0 rfl) ?_
  refine lv_if_le (tgt := 45) hx hb dX9_leaves_8 (by decide) (fun c_6 => ?_) (fun c_6 => ?_)
  · replace hf := ht_t c_6 hf
    exact b45  p0 RM.s _ _ _ hf hP hD hS (lv_sub hl [1, 2] rfl)
  · replace hf := ht_f c_6 hf
    refine lv_aload_n hx hb dX9_leaves_11 rfl (lv_at hl 1 rfl) ?_
    refine va_get (D := D) (ci := 9) (v := .ref (aM 0)) (C := RX9) (T := TX9) (N := 29) hx hb hts iw9 hown hK hP 0 rfl rfl 0 (by decide) kw1 (fun _ h9 => h9) rfl dX9_leaves_12 ?_
    refine lv_bipush (v := 9) hx hb dX9_leaves_15 (by decide) ?_
    refine lv_bipush (v := 6) hx hb dX9_leaves_17 (by decide) ?_
    refine lv_iload_n hx hb dX9_leaves_19 rfl (lv_at hl 0 rfl) ?_
    refine lv_iconst (v := 1) hx hb dX9_leaves_20 (by decide) ?_
    refine lv_isub hx hb dX9_leaves_21 ?_
    refine lv_imul hx hb dX9_leaves_22 ?_
    refine lv_iadd hx hb dX9_leaves_23 ?_
    refine lv_iconst (v := 4) hx hb dX9_leaves_24 (by decide) ?_
    refine lv_iadd hx hb dX9_leaves_25 ?_
    refine lv_iconst (v := 0) hx hb dX9_leaves_26 (by decide) ?_
    obtain ⟨g_7, hf⟩ := ht_gd_ob hf
    obtain ⟨vM_s_8, evM_s_8, hf⟩ := ht_nm_ob hf
    refine ht_iast (w2 := (wMo K jM aM vM_s_8 RM.held RM.aside RM.before RM.isHeld RM.tape RM.taped RM.token RM.frm RM.to RM.value RM.isWrong RM.unpaired RM.bestSound RM.bestWay RM.rows RM.rowN RM.sortOf RM.sizeOf RM.numbers RM.holdsWhat RM.holdsWhich RM.holdsMany RM.bodies RM.ran RM.actKind RM.actN RM.actA RM.isParted)) hx hb hK hP hD hS 1 1 rfl rfl g_7 dX9_leaves_27 evM_s_8 rfl (fun H locs hP hD hS => ?_)
    refine lv_aload_n hx hb dX9_leaves_28 rfl (lv_at hl 1 rfl) ?_
    refine va_get (D := D) (ci := 9) (v := .ref (aM 0)) (C := RX9) (T := TX9) (N := 29) hx hb hts iw9 hown hK hP 0 rfl rfl 0 (by decide) kw1 (fun _ h9 => h9) rfl dX9_leaves_29 ?_
    refine lv_bipush (v := 9) hx hb dX9_leaves_32 (by decide) ?_
    refine lv_bipush (v := 6) hx hb dX9_leaves_34 (by decide) ?_
    refine lv_iload_n hx hb dX9_leaves_36 rfl (lv_at hl 0 rfl) ?_
    refine lv_iconst (v := 1) hx hb dX9_leaves_37 (by decide) ?_
    refine lv_isub hx hb dX9_leaves_38 ?_
    refine lv_imul hx hb dX9_leaves_39 ?_
    refine lv_iadd hx hb dX9_leaves_40 ?_
    refine lv_iconst (v := 5) hx hb dX9_leaves_41 (by decide) ?_
    refine lv_iadd hx hb dX9_leaves_42 ?_
    refine lv_iconst (v := 1) hx hb dX9_leaves_43 (by decide) ?_
    obtain ⟨g_9, hf⟩ := ht_gd_ob hf
    obtain ⟨vM_s_10, evM_s_10, hf⟩ := ht_nm_ob hf
    refine ht_iast (w2 := (wMo K jM aM vM_s_10 RM.held RM.aside RM.before RM.isHeld RM.tape RM.taped RM.token RM.frm RM.to RM.value RM.isWrong RM.unpaired RM.bestSound RM.bestWay RM.rows RM.rowN RM.sortOf RM.sizeOf RM.numbers RM.holdsWhat RM.holdsWhich RM.holdsMany RM.bodies RM.ran RM.actKind RM.actN RM.actA RM.isParted)) hx hb hK hP hD hS 1 1 rfl rfl g_9 dX9_leaves_44 evM_s_10 rfl (fun H locs hP hD hS => ?_)
    exact b45  p0 vM_s_10 _ _ _ hf hP hD hS (lv_sub hl [1, 2] rfl)
abbrev rmX9_pairs : Room := { frames := 2, cells := 0, slots := 0, locals := 44 }
theorem hdX9_pairs : yX9_pairs.cls = RX9 ∧ yX9_pairs.cls ≠ "java/lang/invoke/MethodHandle" ∧ yX9_pairs.cls ≠ "java/lang/invoke/VarHandle" ∧ (parseMethodDescriptor yX9_pairs.desc).map (fun d => d.parameters.length) = some 2 := by decide +kernel
def fX9_pairs (RM : ModV) (p0 : Int32) (p1 : Int32) : Option AI := ht_bn (fX9_leaves RM p0) (fun o_1 => ht_bn (fX9_leaves (o_1, RM.held, RM.aside, RM.before, RM.isHeld, RM.tape, RM.taped, RM.token, RM.frm, RM.to, RM.value, RM.isWrong, RM.unpaired, RM.bestSound, RM.bestWay, RM.rows, RM.rowN, RM.sortOf, RM.sizeOf, RM.numbers, RM.holdsWhat, RM.holdsWhich, RM.holdsMany, RM.bodies, RM.ran, RM.actKind, RM.actN, RM.actA, RM.isParted) p1) (fun o_2 => ht_gd (ht_ix (((9 : Int32) + ((6 : Int32) * p0)) + (4 : Int32)) 57) (ht_nm (upd o_2 (((9 : Int32) + ((6 : Int32) * p0)) + (4 : Int32)).toNatClampNeg ((1 : Int32) + p1)) (fun vM_s_4 => ht_gd (ht_ix (((9 : Int32) + ((6 : Int32) * p1)) + (4 : Int32)) 57) (ht_nm (upd vM_s_4 (((9 : Int32) + ((6 : Int32) * p1)) + (4 : Int32)).toNatClampNeg ((1 : Int32) + p0)) (fun vM_s_6 => ht_gd (ht_ix (((9 : Int32) + ((6 : Int32) * p1)) + (5 : Int32)) 57) (ht_nm (upd vM_s_6 (((9 : Int32) + ((6 : Int32) * p1)) + (5 : Int32)).toNatClampNeg (0 : Int32)) (fun vM_s_8 => some vM_s_8))))))))
set_option maxHeartbeats 1000000 in
set_option maxRecDepth 100000 in
theorem ctX9_pairs (l : Launch) (D : va_G) (K : Nat → ClassId) (jM : Nat) (aM : Nat → Nat) (RM : ModV) (p0 : Int32) (p1 : Int32) (o : AI) (hf : fX9_pairs RM p0 p1 = some o) (sz : Nat) : Met l yX9_pairs wsX9_pairs rmX9_pairs (ht_Pre D K [.ref jM, .int p0, .int p1] (wMo K jM aM RM.s RM.held RM.aside RM.before RM.isHeld RM.tape RM.taped RM.token RM.frm RM.to RM.value RM.isWrong RM.unpaired RM.bestSound RM.bestWay RM.rows RM.rowN RM.sortOf RM.sizeOf RM.numbers RM.holdsWhat RM.holdsWhich RM.holdsMany RM.bodies RM.ran RM.actKind RM.actN RM.actA RM.isParted) sz) (ht_Qv D K (wMo K jM aM o RM.held RM.aside RM.before RM.isHeld RM.tape RM.taped RM.token RM.frm RM.to RM.value RM.isWrong RM.unpaired RM.bestSound RM.bestWay RM.rows RM.rowN RM.sortOf RM.sizeOf RM.numbers RM.holdsWhat RM.holdsWhich RM.holdsMany RM.bodies RM.ran RM.actKind RM.actN RM.actA RM.isParted) (va_A (wMo K jM aM RM.s RM.held RM.aside RM.before RM.isHeld RM.tape RM.taped RM.token RM.frm RM.to RM.value RM.isWrong RM.unpaired RM.bestSound RM.bestWay RM.rows RM.rowN RM.sortOf RM.sizeOf RM.numbers RM.holdsWhat RM.holdsWhich RM.holdsMany RM.bodies RM.ran RM.actKind RM.actN RM.actA RM.isParted) sz)) 0 0 (va_A (wMo K jM aM RM.s RM.held RM.aside RM.before RM.isHeld RM.tape RM.taped RM.token RM.frm RM.to RM.value RM.isWrong RM.unpaired RM.bestSound RM.bestWay RM.rows RM.rowN RM.sortOf RM.sizeOf RM.numbers RM.holdsWhat RM.holdsWhich RM.holdsMany RM.bodies RM.ran RM.actKind RM.actN RM.actA RM.isParted) sz) := by
  refine ht_enter (Qf := ht_Qv D K (wMo K jM aM o RM.held RM.aside RM.before RM.isHeld RM.tape RM.taped RM.token RM.frm RM.to RM.value RM.isWrong RM.unpaired RM.bestSound RM.bestWay RM.rows RM.rowN RM.sortOf RM.sizeOf RM.numbers RM.holdsWhat RM.holdsWhich RM.holdsMany RM.bodies RM.ran RM.actKind RM.actN RM.actA RM.isParted)) (cc := cX9_pairs) (maxL := 3) (rt := none) (by decide) rfl (Nat.le_of_ble_eq_true rfl) ?_ sz
  intro p e s m below meth c A Q H locs ls hQ hx hb hr hlk hmn hml hown hts hA hK hP hD hS hl
  have hown : s.vm.findClass RX9 = some m.cls := hown
  have hF : CallFix p m c cX9_pairs 3 s ([.ref jM, .int p0, .int p1] : List Value).toArray wsX9_pairs RX9 := ⟨hx, hb, hml, hown, hts⟩
  have hl : lv_has ls 3 [(0, .ref jM), (1, .int p0), (2, .int p1)] := hl
  have iw9 : ∀ w ∈ u_ws RX9 TX9 29, w ∈ wsX9_pairs := by decide +kernel
  have kw1 := hts (.fieldLink RX9 7 "HeldTonguesModel" "s" "[I") (by decide +kernel)
  delta fX9_pairs at hf
  refine lv_aload_n hx hb dX9_pairs_0 rfl (lv_at hl 0 rfl) ?_
  refine lv_iload_n hx hb dX9_pairs_1 rfl (lv_at hl 1 rfl) ?_
  obtain ⟨o_1, ho_1, hf⟩ := ht_bn_ob hf
  refine ht_callVv (rest := []) (As := [.int p0]) (wc := (wMo K jM aM RM.s RM.held RM.aside RM.before RM.isHeld RM.tape RM.taped RM.token RM.frm RM.to RM.value RM.isWrong RM.unpaired RM.bestSound RM.bestWay RM.rows RM.rowN RM.sortOf RM.sizeOf RM.numbers RM.holdsWhat RM.holdsWhich RM.holdsMany RM.bodies RM.ran RM.actKind RM.actN RM.actA RM.isParted)) (wr := []) (w1 := (wMo K jM aM o_1 RM.held RM.aside RM.before RM.isHeld RM.tape RM.taped RM.token RM.frm RM.to RM.value RM.isWrong RM.unpaired RM.bestSound RM.bestWay RM.rows RM.rowN RM.sortOf RM.sizeOf RM.numbers RM.holdsWhat RM.holdsWhich RM.holdsMany RM.bodies RM.ran RM.actKind RM.actN RM.actA RM.isParted)) (w2 := (wMo K jM aM o_1 RM.held RM.aside RM.before RM.isHeld RM.tape RM.taped RM.token RM.frm RM.to RM.value RM.isWrong RM.unpaired RM.bestSound RM.bestWay RM.rows RM.rowN RM.sortOf RM.sizeOf RM.numbers RM.holdsWhat RM.holdsWhich RM.holdsMany RM.bodies RM.ran RM.actKind RM.actN RM.actA RM.isParted)) hF (ctX9_leaves l D K jM aM RM p0 o_1 ho_1 H.size) (cwV 1 hts gX9_pairs_X9_leaves rfl rfl rfl hdX9_leaves ⟨Nat.le_of_ble_eq_true rfl, Nat.le_of_ble_eq_true rfl⟩) hK hP hD hS hA [0, 1, 2, 3, 4, 5, 6, 7, 8, 9, 10, 11, 12, 13, 14, 15] [] rfl rfl (by decide) (by decide) (by decide) [0, 1, 2, 3, 4, 5, 6, 7, 8, 9, 10, 11, 12, 13, 14, 15] rfl (by decide) (va_recv hK hP (ci := 9) (q0 := 0) rfl rfl) rfl hl.1 rfl (Nat.le_of_ble_eq_true rfl) dX9_pairs_2 ⟨Nat.zero_le _, Nat.zero_le _⟩ (fun H locs hP hD hS => ?_)
  refine lv_aload_n hx hb dX9_pairs_5 rfl (lv_at hl 0 rfl) ?_
  refine lv_iload_n hx hb dX9_pairs_6 rfl (lv_at hl 2 rfl) ?_
  obtain ⟨o_2, ho_2, hf⟩ := ht_bn_ob hf
  refine ht_callVv (rest := []) (As := [.int p1]) (wc := (wMo K jM aM o_1 RM.held RM.aside RM.before RM.isHeld RM.tape RM.taped RM.token RM.frm RM.to RM.value RM.isWrong RM.unpaired RM.bestSound RM.bestWay RM.rows RM.rowN RM.sortOf RM.sizeOf RM.numbers RM.holdsWhat RM.holdsWhich RM.holdsMany RM.bodies RM.ran RM.actKind RM.actN RM.actA RM.isParted)) (wr := []) (w1 := (wMo K jM aM o_2 RM.held RM.aside RM.before RM.isHeld RM.tape RM.taped RM.token RM.frm RM.to RM.value RM.isWrong RM.unpaired RM.bestSound RM.bestWay RM.rows RM.rowN RM.sortOf RM.sizeOf RM.numbers RM.holdsWhat RM.holdsWhich RM.holdsMany RM.bodies RM.ran RM.actKind RM.actN RM.actA RM.isParted)) (w2 := (wMo K jM aM o_2 RM.held RM.aside RM.before RM.isHeld RM.tape RM.taped RM.token RM.frm RM.to RM.value RM.isWrong RM.unpaired RM.bestSound RM.bestWay RM.rows RM.rowN RM.sortOf RM.sizeOf RM.numbers RM.holdsWhat RM.holdsWhich RM.holdsMany RM.bodies RM.ran RM.actKind RM.actN RM.actA RM.isParted)) hF (ctX9_leaves l D K jM aM (o_1, RM.held, RM.aside, RM.before, RM.isHeld, RM.tape, RM.taped, RM.token, RM.frm, RM.to, RM.value, RM.isWrong, RM.unpaired, RM.bestSound, RM.bestWay, RM.rows, RM.rowN, RM.sortOf, RM.sizeOf, RM.numbers, RM.holdsWhat, RM.holdsWhich, RM.holdsMany, RM.bodies, RM.ran, RM.actKind, RM.actN, RM.actA, RM.isParted) p1 o_2 ho_2 H.size) (cwV 1 hts gX9_pairs_X9_leaves rfl rfl rfl hdX9_leaves ⟨Nat.le_of_ble_eq_true rfl, Nat.le_of_ble_eq_true rfl⟩) hK hP hD hS hA [0, 1, 2, 3, 4, 5, 6, 7, 8, 9, 10, 11, 12, 13, 14, 15] [] rfl rfl (by decide) (by decide) (by decide) [0, 1, 2, 3, 4, 5, 6, 7, 8, 9, 10, 11, 12, 13, 14, 15] rfl (by decide) (va_recv hK hP (ci := 9) (q0 := 0) rfl rfl) rfl hl.1 rfl (Nat.le_of_ble_eq_true rfl) dX9_pairs_7 ⟨Nat.zero_le _, Nat.zero_le _⟩ (fun H locs hP hD hS => ?_)
  refine lv_aload_n hx hb dX9_pairs_10 rfl (lv_at hl 0 rfl) ?_
  refine va_get (D := D) (ci := 9) (v := .ref (aM 0)) (C := RX9) (T := TX9) (N := 29) hx hb hts iw9 hown hK hP 0 rfl rfl 0 (by decide) kw1 (fun _ h9 => h9) rfl dX9_pairs_11 ?_
  refine lv_bipush (v := 9) hx hb dX9_pairs_14 (by decide) ?_
  refine lv_bipush (v := 6) hx hb dX9_pairs_16 (by decide) ?_
  refine lv_iload_n hx hb dX9_pairs_18 rfl (lv_at hl 1 rfl) ?_
  refine lv_imul hx hb dX9_pairs_19 ?_
  refine lv_iadd hx hb dX9_pairs_20 ?_
  refine lv_iconst (v := 4) hx hb dX9_pairs_21 (by decide) ?_
  refine lv_iadd hx hb dX9_pairs_22 ?_
  refine lv_iconst (v := 1) hx hb dX9_pairs_23 (by decide) ?_
  refine lv_iload_n hx hb dX9_pairs_24 rfl (lv_at hl 2 rfl) ?_
  refine lv_iadd hx hb dX9_pairs_25 ?_
  obtain ⟨g_3, hf⟩ := ht_gd_ob hf
  obtain ⟨vM_s_4, evM_s_4, hf⟩ := ht_nm_ob hf
  refine ht_iast (w2 := (wMo K jM aM vM_s_4 RM.held RM.aside RM.before RM.isHeld RM.tape RM.taped RM.token RM.frm RM.to RM.value RM.isWrong RM.unpaired RM.bestSound RM.bestWay RM.rows RM.rowN RM.sortOf RM.sizeOf RM.numbers RM.holdsWhat RM.holdsWhich RM.holdsMany RM.bodies RM.ran RM.actKind RM.actN RM.actA RM.isParted)) hx hb hK hP hD hS 1 1 rfl rfl g_3 dX9_pairs_26 evM_s_4 rfl (fun H locs hP hD hS => ?_)
  refine lv_aload_n hx hb dX9_pairs_27 rfl (lv_at hl 0 rfl) ?_
  refine va_get (D := D) (ci := 9) (v := .ref (aM 0)) (C := RX9) (T := TX9) (N := 29) hx hb hts iw9 hown hK hP 0 rfl rfl 0 (by decide) kw1 (fun _ h9 => h9) rfl dX9_pairs_28 ?_
  refine lv_bipush (v := 9) hx hb dX9_pairs_31 (by decide) ?_
  refine lv_bipush (v := 6) hx hb dX9_pairs_33 (by decide) ?_
  refine lv_iload_n hx hb dX9_pairs_35 rfl (lv_at hl 2 rfl) ?_
  refine lv_imul hx hb dX9_pairs_36 ?_
  refine lv_iadd hx hb dX9_pairs_37 ?_
  refine lv_iconst (v := 4) hx hb dX9_pairs_38 (by decide) ?_
  refine lv_iadd hx hb dX9_pairs_39 ?_
  refine lv_iconst (v := 1) hx hb dX9_pairs_40 (by decide) ?_
  refine lv_iload_n hx hb dX9_pairs_41 rfl (lv_at hl 1 rfl) ?_
  refine lv_iadd hx hb dX9_pairs_42 ?_
  obtain ⟨g_5, hf⟩ := ht_gd_ob hf
  obtain ⟨vM_s_6, evM_s_6, hf⟩ := ht_nm_ob hf
  refine ht_iast (w2 := (wMo K jM aM vM_s_6 RM.held RM.aside RM.before RM.isHeld RM.tape RM.taped RM.token RM.frm RM.to RM.value RM.isWrong RM.unpaired RM.bestSound RM.bestWay RM.rows RM.rowN RM.sortOf RM.sizeOf RM.numbers RM.holdsWhat RM.holdsWhich RM.holdsMany RM.bodies RM.ran RM.actKind RM.actN RM.actA RM.isParted)) hx hb hK hP hD hS 1 1 rfl rfl g_5 dX9_pairs_43 evM_s_6 rfl (fun H locs hP hD hS => ?_)
  refine lv_aload_n hx hb dX9_pairs_44 rfl (lv_at hl 0 rfl) ?_
  refine va_get (D := D) (ci := 9) (v := .ref (aM 0)) (C := RX9) (T := TX9) (N := 29) hx hb hts iw9 hown hK hP 0 rfl rfl 0 (by decide) kw1 (fun _ h9 => h9) rfl dX9_pairs_45 ?_
  refine lv_bipush (v := 9) hx hb dX9_pairs_48 (by decide) ?_
  refine lv_bipush (v := 6) hx hb dX9_pairs_50 (by decide) ?_
  refine lv_iload_n hx hb dX9_pairs_52 rfl (lv_at hl 2 rfl) ?_
  refine lv_imul hx hb dX9_pairs_53 ?_
  refine lv_iadd hx hb dX9_pairs_54 ?_
  refine lv_iconst (v := 5) hx hb dX9_pairs_55 (by decide) ?_
  refine lv_iadd hx hb dX9_pairs_56 ?_
  refine lv_iconst (v := 0) hx hb dX9_pairs_57 (by decide) ?_
  obtain ⟨g_7, hf⟩ := ht_gd_ob hf
  obtain ⟨vM_s_8, evM_s_8, hf⟩ := ht_nm_ob hf
  refine ht_iast (w2 := (wMo K jM aM vM_s_8 RM.held RM.aside RM.before RM.isHeld RM.tape RM.taped RM.token RM.frm RM.to RM.value RM.isWrong RM.unpaired RM.bestSound RM.bestWay RM.rows RM.rowN RM.sortOf RM.sizeOf RM.numbers RM.holdsWhat RM.holdsWhich RM.holdsMany RM.bodies RM.ran RM.actKind RM.actN RM.actA RM.isParted)) hx hb hK hP hD hS 1 1 rfl rfl g_7 dX9_pairs_58 evM_s_8 rfl (fun H locs hP hD hS => ?_)
  have ho := Option.some.inj hf
  subst ho; subst hQ
  exact ht_vret hx hb hr hlk hK hP hD hS dX9_pairs_59
abbrev rmX9_personHere : Room := { frames := 5, cells := 0, slots := 0, locals := 109 }
theorem hdX9_personHere : yX9_personHere.cls = RX9 ∧ yX9_personHere.cls ≠ "java/lang/invoke/MethodHandle" ∧ yX9_personHere.cls ≠ "java/lang/invoke/VarHandle" ∧ (parseMethodDescriptor yX9_personHere.desc).map (fun d => d.parameters.length) = some 1 := by decide +kernel
def fX9_personHere_b48 (RM : ModV) (x2 : Int32) (vM_s : AI) (vM_token : Int32) (vM_from : Int32) (vM_to : Int32) (vM_value : Int32) (vM_isWrong : Int32) : Option (AI × Int32 × Int32 × Int32 × Int32 × Int32) := ht_bn (fX9_isFour (vM_s, RM.held, RM.aside, RM.before, RM.isHeld, RM.tape, RM.taped, vM_token, vM_from, vM_to, vM_value, vM_isWrong, RM.unpaired, RM.bestSound, RM.bestWay, RM.rows, RM.rowN, RM.sortOf, RM.sizeOf, RM.numbers, RM.holdsWhat, RM.holdsWhich, RM.holdsMany, RM.bodies, RM.ran, RM.actKind, RM.actN, RM.actA, RM.isParted) (110 : Int32) (101 : Int32) (101 : Int32) (100 : Int32)) (fun o_1 => ht_bn (fX9_perhaps (vM_s, RM.held, RM.aside, RM.before, RM.isHeld, RM.tape, RM.taped, vM_token, vM_from, vM_to, vM_value, vM_isWrong, RM.unpaired, RM.bestSound, RM.bestWay, RM.rows, RM.rowN, RM.sortOf, RM.sizeOf, RM.numbers, RM.holdsWhat, RM.holdsWhich, RM.holdsMany, RM.bodies, RM.ran, RM.actKind, RM.actN, RM.actA, RM.isParted) o_1 (x2 + (1 : Int32)) (99 : Int32)) (fun o_2 => ht_bn (fX9_isFive (o_2.1, RM.held, RM.aside, RM.before, RM.isHeld, RM.tape, RM.taped, o_2.2.1, o_2.2.2.1, o_2.2.2.2.1, o_2.2.2.2.2.1, o_2.2.2.2.2.2, RM.unpaired, RM.bestSound, RM.bestWay, RM.rows, RM.rowN, RM.sortOf, RM.sizeOf, RM.numbers, RM.holdsWhat, RM.holdsWhich, RM.holdsMany, RM.bodies, RM.ran, RM.actKind, RM.actN, RM.actA, RM.isParted) (115 : Int32) (97 : Int32) (118 : Int32) (101 : Int32) (100 : Int32)) (fun o_3 => ht_bn (fX9_perhaps (o_2.1, RM.held, RM.aside, RM.before, RM.isHeld, RM.tape, RM.taped, o_2.2.1, o_2.2.2.1, o_2.2.2.2.1, o_2.2.2.2.2.1, o_2.2.2.2.2.2, RM.unpaired, RM.bestSound, RM.bestWay, RM.rows, RM.rowN, RM.sortOf, RM.sizeOf, RM.numbers, RM.holdsWhat, RM.holdsWhich, RM.holdsMany, RM.bodies, RM.ran, RM.actKind, RM.actN, RM.actA, RM.isParted) o_3 (x2 + (2 : Int32)) (99 : Int32)) (fun o_4 => ht_bn (fX9_isFive (o_4.1, RM.held, RM.aside, RM.before, RM.isHeld, RM.tape, RM.taped, o_4.2.1, o_4.2.2.1, o_4.2.2.2.1, o_4.2.2.2.2.1, o_4.2.2.2.2.2, RM.unpaired, RM.bestSound, RM.bestWay, RM.rows, RM.rowN, RM.sortOf, RM.sizeOf, RM.numbers, RM.holdsWhat, RM.holdsWhich, RM.holdsMany, RM.bodies, RM.ran, RM.actKind, RM.actN, RM.actA, RM.isParted) (118 : Int32) (111 : Int32) (105 : Int32) (99 : Int32) (101 : Int32)) (fun o_5 => ht_bn (fX9_perhaps (o_4.1, RM.held, RM.aside, RM.before, RM.isHeld, RM.tape, RM.taped, o_4.2.1, o_4.2.2.1, o_4.2.2.2.1, o_4.2.2.2.2.1, o_4.2.2.2.2.2, RM.unpaired, RM.bestSound, RM.bestWay, RM.rows, RM.rowN, RM.sortOf, RM.sizeOf, RM.numbers, RM.holdsWhat, RM.holdsWhich, RM.holdsMany, RM.bodies, RM.ran, RM.actKind, RM.actN, RM.actA, RM.isParted) o_5 (x2 + (3 : Int32)) (9 : Int32)) (fun o_6 => some (o_6.1, o_6.2.1, o_6.2.2.1, o_6.2.2.2.1, o_6.2.2.2.2.1, o_6.2.2.2.2.2)))))))
def fX9_personHere_b30 (RM : ModV) (x1 : Int32) (x2 : Int32) (t1 : Int32) (vM_s : AI) (vM_token : Int32) (vM_from : Int32) (vM_to : Int32) (vM_value : Int32) (vM_isWrong : Int32) : Option (AI × Int32 × Int32 × Int32 × Int32 × Int32) := ht_bn (fX9_needs (vM_s, RM.held, RM.aside, RM.before, RM.isHeld, RM.tape, RM.taped, vM_token, vM_from, vM_to, vM_value, vM_isWrong, RM.unpaired, RM.bestSound, RM.bestWay, RM.rows, RM.rowN, RM.sortOf, RM.sizeOf, RM.numbers, RM.holdsWhat, RM.holdsWhich, RM.holdsMany, RM.bodies, RM.ran, RM.actKind, RM.actN, RM.actA, RM.isParted) t1) (fun o_7 => if o_7.2.2.2.2 = 0 then (ht_bn (fX9_comes (vM_s, RM.held, RM.aside, RM.before, RM.isHeld, RM.tape, RM.taped, o_7.1, o_7.2.1, o_7.2.2.1, o_7.2.2.2.1, o_7.2.2.2.2, RM.unpaired, RM.bestSound, RM.bestWay, RM.rows, RM.rowN, RM.sortOf, RM.sizeOf, RM.numbers, RM.holdsWhat, RM.holdsWhich, RM.holdsMany, RM.bodies, RM.ran, RM.actKind, RM.actN, RM.actA, RM.isParted) x1 (0 : Int32) (0 : Int32) (3 : Int32)) (fun o_9 => fX9_personHere_b48 RM x2 o_9 o_7.1 o_7.2.1 o_7.2.2.1 o_7.2.2.2.1 o_7.2.2.2.2)) else (fX9_personHere_b48 RM x2 vM_s o_7.1 o_7.2.1 o_7.2.2.1 o_7.2.2.2.1 o_7.2.2.2.2))
def fX9_personHere (RM : ModV) (p0 : Int32) : Option (AI × Int32 × Int32 × Int32 × Int32 × Int32) := ht_gd (ht_ix (0 : Int32) 57) (ht_nm ((9 : Int32) + ((6 : Int32) * (RM.s (0 : Int32).toNatClampNeg))) (fun x2_11 => ht_gd (ht_ix (0 : Int32) 57) (if (8 : Int32) ≤ (RM.s (0 : Int32).toNatClampNeg) then (fX9_personHere_b30 RM p0 x2_11 (0 : Int32) RM.s RM.token RM.frm RM.to RM.value RM.isWrong) else (fX9_personHere_b30 RM p0 x2_11 (1 : Int32) RM.s RM.token RM.frm RM.to RM.value RM.isWrong))))
set_option maxHeartbeats 1000000 in
set_option maxRecDepth 100000 in
theorem ctX9_personHere (l : Launch) (D : va_G) (K : Nat → ClassId) (jM : Nat) (aM : Nat → Nat) (RM : ModV) (p0 : Int32) (o : (AI × Int32 × Int32 × Int32 × Int32 × Int32)) (hf : fX9_personHere RM p0 = some o) (sz : Nat) : Met l yX9_personHere wsX9_personHere rmX9_personHere (ht_Pre D K [.ref jM, .int p0] (wMo K jM aM RM.s RM.held RM.aside RM.before RM.isHeld RM.tape RM.taped RM.token RM.frm RM.to RM.value RM.isWrong RM.unpaired RM.bestSound RM.bestWay RM.rows RM.rowN RM.sortOf RM.sizeOf RM.numbers RM.holdsWhat RM.holdsWhich RM.holdsMany RM.bodies RM.ran RM.actKind RM.actN RM.actA RM.isParted) sz) (ht_Qv D K (wMo K jM aM o.1 RM.held RM.aside RM.before RM.isHeld RM.tape RM.taped o.2.1 o.2.2.1 o.2.2.2.1 o.2.2.2.2.1 o.2.2.2.2.2 RM.unpaired RM.bestSound RM.bestWay RM.rows RM.rowN RM.sortOf RM.sizeOf RM.numbers RM.holdsWhat RM.holdsWhich RM.holdsMany RM.bodies RM.ran RM.actKind RM.actN RM.actA RM.isParted) (va_A (wMo K jM aM RM.s RM.held RM.aside RM.before RM.isHeld RM.tape RM.taped RM.token RM.frm RM.to RM.value RM.isWrong RM.unpaired RM.bestSound RM.bestWay RM.rows RM.rowN RM.sortOf RM.sizeOf RM.numbers RM.holdsWhat RM.holdsWhich RM.holdsMany RM.bodies RM.ran RM.actKind RM.actN RM.actA RM.isParted) sz)) 0 0 (va_A (wMo K jM aM RM.s RM.held RM.aside RM.before RM.isHeld RM.tape RM.taped RM.token RM.frm RM.to RM.value RM.isWrong RM.unpaired RM.bestSound RM.bestWay RM.rows RM.rowN RM.sortOf RM.sizeOf RM.numbers RM.holdsWhat RM.holdsWhich RM.holdsMany RM.bodies RM.ran RM.actKind RM.actN RM.actA RM.isParted) sz) := by
  refine ht_enter (Qf := ht_Qv D K (wMo K jM aM o.1 RM.held RM.aside RM.before RM.isHeld RM.tape RM.taped o.2.1 o.2.2.1 o.2.2.2.1 o.2.2.2.2.1 o.2.2.2.2.2 RM.unpaired RM.bestSound RM.bestWay RM.rows RM.rowN RM.sortOf RM.sizeOf RM.numbers RM.holdsWhat RM.holdsWhich RM.holdsMany RM.bodies RM.ran RM.actKind RM.actN RM.actA RM.isParted)) (cc := cX9_personHere) (maxL := 3) (rt := none) (by decide) rfl (Nat.le_of_ble_eq_true rfl) ?_ sz
  intro p e s m below meth c A Q H locs ls hQ hx hb hr hlk hmn hml hown hts hA hK hP hD hS hl
  have hown : s.vm.findClass RX9 = some m.cls := hown
  have hF : CallFix p m c cX9_personHere 3 s ([.ref jM, .int p0] : List Value).toArray wsX9_personHere RX9 := ⟨hx, hb, hml, hown, hts⟩
  have hl : lv_has ls 3 [(0, .ref jM), (1, .int p0)] := hl
  have iw9 : ∀ w ∈ u_ws RX9 TX9 29, w ∈ wsX9_personHere := by decide +kernel
  have kw1 := hts (.fieldLink RX9 93 "HeldTonguesModel" "isWrong" "Z") (by decide +kernel)
  have kw2 := hts (.fieldLink RX9 7 "HeldTonguesModel" "s" "[I") (by decide +kernel)
  have b48 : ∀ (x2 : Int32) (vM_s : AI) (vM_token : Int32) (vM_from : Int32) (vM_to : Int32) (vM_value : Int32) (vM_isWrong : Int32) (H : Heap) (locs : List Loc) (ls : Array Slot), fX9_personHere_b48 RM x2 vM_s vM_token vM_from vM_to vM_value vM_isWrong = some o → va_P D vwCl (wMo K jM aM vM_s RM.held RM.aside RM.before RM.isHeld RM.tape RM.taped vM_token vM_from vM_to vM_value vM_isWrong RM.unpaired RM.bestSound RM.bestWay RM.rows RM.rowN RM.sortOf RM.sizeOf RM.numbers RM.holdsWhat RM.holdsWhich RM.holdsMany RM.bodies RM.ran RM.actKind RM.actN RM.actA RM.isParted) H → va_D A (wMo K jM aM vM_s RM.held RM.aside RM.before RM.isHeld RM.tape RM.taped vM_token vM_from vM_to vM_value vM_isWrong RM.unpaired RM.bestSound RM.bestWay RM.rows RM.rowN RM.sortOf RM.sizeOf RM.numbers RM.holdsWhat RM.holdsWhich RM.holdsMany RM.bodies RM.ran RM.actKind RM.actN RM.actA RM.isParted) → va_S A s.heap H locs → lv_has ls 3 [(0, .ref jM), (2, .int x2)] → W p l e (headSpec wsX9_personHere rmX9_personHere).room s m ([.ref jM, .int p0] : List Value).toArray below meth c H locs 0 0 Q (F0 m 48 ls []) := by
    intro x2 vM_s vM_token vM_from vM_to vM_value vM_isWrong H locs ls hf hP hD hS hl
    delta fX9_personHere_b48 at hf
    refine lv_aload_n hx hb dX9_personHere_48 rfl (lv_at hl 0 rfl) ?_
    refine lv_aload_n hx hb dX9_personHere_49 rfl (lv_at hl 0 rfl) ?_
    refine lv_bipush (v := 110) hx hb dX9_personHere_50 (by decide) ?_
    refine lv_bipush (v := 101) hx hb dX9_personHere_52 (by decide) ?_
    refine lv_bipush (v := 101) hx hb dX9_personHere_54 (by decide) ?_
    refine lv_bipush (v := 100) hx hb dX9_personHere_56 (by decide) ?_
    obtain ⟨o_1, ho_1, hf⟩ := ht_bn_ob hf
    refine ht_callVi (r := o_1) (rest := [.ref jM]) (As := [.int (110 : Int32), .int (101 : Int32), .int (101 : Int32), .int (100 : Int32)]) (wc := (wMo K jM aM vM_s RM.held RM.aside RM.before RM.isHeld RM.tape RM.taped vM_token vM_from vM_to vM_value vM_isWrong RM.unpaired RM.bestSound RM.bestWay RM.rows RM.rowN RM.sortOf RM.sizeOf RM.numbers RM.holdsWhat RM.holdsWhich RM.holdsMany RM.bodies RM.ran RM.actKind RM.actN RM.actA RM.isParted)) (wr := []) (w1 := (wMo K jM aM vM_s RM.held RM.aside RM.before RM.isHeld RM.tape RM.taped vM_token vM_from vM_to vM_value vM_isWrong RM.unpaired RM.bestSound RM.bestWay RM.rows RM.rowN RM.sortOf RM.sizeOf RM.numbers RM.holdsWhat RM.holdsWhich RM.holdsMany RM.bodies RM.ran RM.actKind RM.actN RM.actA RM.isParted)) (w2 := (wMo K jM aM vM_s RM.held RM.aside RM.before RM.isHeld RM.tape RM.taped vM_token vM_from vM_to vM_value vM_isWrong RM.unpaired RM.bestSound RM.bestWay RM.rows RM.rowN RM.sortOf RM.sizeOf RM.numbers RM.holdsWhat RM.holdsWhich RM.holdsMany RM.bodies RM.ran RM.actKind RM.actN RM.actA RM.isParted)) hF (ctX9_isFour l D K jM aM (vM_s, RM.held, RM.aside, RM.before, RM.isHeld, RM.tape, RM.taped, vM_token, vM_from, vM_to, vM_value, vM_isWrong, RM.unpaired, RM.bestSound, RM.bestWay, RM.rows, RM.rowN, RM.sortOf, RM.sizeOf, RM.numbers, RM.holdsWhat, RM.holdsWhich, RM.holdsMany, RM.bodies, RM.ran, RM.actKind, RM.actN, RM.actA, RM.isParted) (110 : Int32) (101 : Int32) (101 : Int32) (100 : Int32) o_1 ho_1 H.size) (cwV 4 hts gX9_personHere_X9_isFour rfl rfl rfl hdX9_isFour ⟨Nat.le_of_ble_eq_true rfl, Nat.le_of_ble_eq_true rfl⟩) hK hP hD hS hA [0, 1, 2, 3, 4, 5, 6, 7, 8, 9, 10, 11, 12, 13, 14, 15] [] rfl rfl (by decide) (by decide) (by decide) [0, 1, 2, 3, 4, 5, 6, 7, 8, 9, 10, 11, 12, 13, 14, 15] rfl (by decide) (va_recv hK hP (ci := 9) (q0 := 0) rfl rfl) rfl hl.1 rfl (Nat.le_of_ble_eq_true rfl) dX9_personHere_58 ⟨Nat.zero_le _, Nat.zero_le _⟩ (fun H locs hP hD hS => ?_)
    refine lv_iload_n hx hb dX9_personHere_61 rfl (lv_at hl 1 rfl) ?_
    refine lv_iconst (v := 1) hx hb dX9_personHere_62 (by decide) ?_
    refine lv_iadd hx hb dX9_personHere_63 ?_
    refine lv_bipush (v := 99) hx hb dX9_personHere_64 (by decide) ?_
    obtain ⟨o_2, ho_2, hf⟩ := ht_bn_ob hf
    refine ht_callVv (rest := []) (As := [.int o_1, .int (x2 + (1 : Int32)), .int (99 : Int32)]) (wc := (wMo K jM aM vM_s RM.held RM.aside RM.before RM.isHeld RM.tape RM.taped vM_token vM_from vM_to vM_value vM_isWrong RM.unpaired RM.bestSound RM.bestWay RM.rows RM.rowN RM.sortOf RM.sizeOf RM.numbers RM.holdsWhat RM.holdsWhich RM.holdsMany RM.bodies RM.ran RM.actKind RM.actN RM.actA RM.isParted)) (wr := []) (w1 := (wMo K jM aM o_2.1 RM.held RM.aside RM.before RM.isHeld RM.tape RM.taped o_2.2.1 o_2.2.2.1 o_2.2.2.2.1 o_2.2.2.2.2.1 o_2.2.2.2.2.2 RM.unpaired RM.bestSound RM.bestWay RM.rows RM.rowN RM.sortOf RM.sizeOf RM.numbers RM.holdsWhat RM.holdsWhich RM.holdsMany RM.bodies RM.ran RM.actKind RM.actN RM.actA RM.isParted)) (w2 := (wMo K jM aM o_2.1 RM.held RM.aside RM.before RM.isHeld RM.tape RM.taped o_2.2.1 o_2.2.2.1 o_2.2.2.2.1 o_2.2.2.2.2.1 o_2.2.2.2.2.2 RM.unpaired RM.bestSound RM.bestWay RM.rows RM.rowN RM.sortOf RM.sizeOf RM.numbers RM.holdsWhat RM.holdsWhich RM.holdsMany RM.bodies RM.ran RM.actKind RM.actN RM.actA RM.isParted)) hF (ctX9_perhaps l D K jM aM (vM_s, RM.held, RM.aside, RM.before, RM.isHeld, RM.tape, RM.taped, vM_token, vM_from, vM_to, vM_value, vM_isWrong, RM.unpaired, RM.bestSound, RM.bestWay, RM.rows, RM.rowN, RM.sortOf, RM.sizeOf, RM.numbers, RM.holdsWhat, RM.holdsWhich, RM.holdsMany, RM.bodies, RM.ran, RM.actKind, RM.actN, RM.actA, RM.isParted) o_1 (x2 + (1 : Int32)) (99 : Int32) o_2 ho_2 H.size) (cwV 3 hts gX9_personHere_X9_perhaps rfl rfl rfl hdX9_perhaps ⟨Nat.le_of_ble_eq_true rfl, Nat.le_of_ble_eq_true rfl⟩) hK hP hD hS hA [0, 1, 2, 3, 4, 5, 6, 7, 8, 9, 10, 11, 12, 13, 14, 15] [] rfl rfl (by decide) (by decide) (by decide) [0, 1, 2, 3, 4, 5, 6, 7, 8, 9, 10, 11, 12, 13, 14, 15] rfl (by decide) (va_recv hK hP (ci := 9) (q0 := 0) rfl rfl) rfl hl.1 rfl (Nat.le_of_ble_eq_true rfl) dX9_personHere_66 ⟨Nat.zero_le _, Nat.zero_le _⟩ (fun H locs hP hD hS => ?_)
    refine lv_aload_n hx hb dX9_personHere_69 rfl (lv_at hl 0 rfl) ?_
    refine lv_aload_n hx hb dX9_personHere_70 rfl (lv_at hl 0 rfl) ?_
    refine lv_bipush (v := 115) hx hb dX9_personHere_71 (by decide) ?_
    refine lv_bipush (v := 97) hx hb dX9_personHere_73 (by decide) ?_
    refine lv_bipush (v := 118) hx hb dX9_personHere_75 (by decide) ?_
    refine lv_bipush (v := 101) hx hb dX9_personHere_77 (by decide) ?_
    refine lv_bipush (v := 100) hx hb dX9_personHere_79 (by decide) ?_
    obtain ⟨o_3, ho_3, hf⟩ := ht_bn_ob hf
    refine ht_callVi (r := o_3) (rest := [.ref jM]) (As := [.int (115 : Int32), .int (97 : Int32), .int (118 : Int32), .int (101 : Int32), .int (100 : Int32)]) (wc := (wMo K jM aM o_2.1 RM.held RM.aside RM.before RM.isHeld RM.tape RM.taped o_2.2.1 o_2.2.2.1 o_2.2.2.2.1 o_2.2.2.2.2.1 o_2.2.2.2.2.2 RM.unpaired RM.bestSound RM.bestWay RM.rows RM.rowN RM.sortOf RM.sizeOf RM.numbers RM.holdsWhat RM.holdsWhich RM.holdsMany RM.bodies RM.ran RM.actKind RM.actN RM.actA RM.isParted)) (wr := []) (w1 := (wMo K jM aM o_2.1 RM.held RM.aside RM.before RM.isHeld RM.tape RM.taped o_2.2.1 o_2.2.2.1 o_2.2.2.2.1 o_2.2.2.2.2.1 o_2.2.2.2.2.2 RM.unpaired RM.bestSound RM.bestWay RM.rows RM.rowN RM.sortOf RM.sizeOf RM.numbers RM.holdsWhat RM.holdsWhich RM.holdsMany RM.bodies RM.ran RM.actKind RM.actN RM.actA RM.isParted)) (w2 := (wMo K jM aM o_2.1 RM.held RM.aside RM.before RM.isHeld RM.tape RM.taped o_2.2.1 o_2.2.2.1 o_2.2.2.2.1 o_2.2.2.2.2.1 o_2.2.2.2.2.2 RM.unpaired RM.bestSound RM.bestWay RM.rows RM.rowN RM.sortOf RM.sizeOf RM.numbers RM.holdsWhat RM.holdsWhich RM.holdsMany RM.bodies RM.ran RM.actKind RM.actN RM.actA RM.isParted)) hF (ctX9_isFive l D K jM aM (o_2.1, RM.held, RM.aside, RM.before, RM.isHeld, RM.tape, RM.taped, o_2.2.1, o_2.2.2.1, o_2.2.2.2.1, o_2.2.2.2.2.1, o_2.2.2.2.2.2, RM.unpaired, RM.bestSound, RM.bestWay, RM.rows, RM.rowN, RM.sortOf, RM.sizeOf, RM.numbers, RM.holdsWhat, RM.holdsWhich, RM.holdsMany, RM.bodies, RM.ran, RM.actKind, RM.actN, RM.actA, RM.isParted) (115 : Int32) (97 : Int32) (118 : Int32) (101 : Int32) (100 : Int32) o_3 ho_3 H.size) (cwV 5 hts gX9_personHere_X9_isFive rfl rfl rfl hdX9_isFive ⟨Nat.le_of_ble_eq_true rfl, Nat.le_of_ble_eq_true rfl⟩) hK hP hD hS hA [0, 1, 2, 3, 4, 5, 6, 7, 8, 9, 10, 11, 12, 13, 14, 15] [] rfl rfl (by decide) (by decide) (by decide) [0, 1, 2, 3, 4, 5, 6, 7, 8, 9, 10, 11, 12, 13, 14, 15] rfl (by decide) (va_recv hK hP (ci := 9) (q0 := 0) rfl rfl) rfl hl.1 rfl (Nat.le_of_ble_eq_true rfl) dX9_personHere_81 ⟨Nat.zero_le _, Nat.zero_le _⟩ (fun H locs hP hD hS => ?_)
    refine lv_iload_n hx hb dX9_personHere_84 rfl (lv_at hl 1 rfl) ?_
    refine lv_iconst (v := 2) hx hb dX9_personHere_85 (by decide) ?_
    refine lv_iadd hx hb dX9_personHere_86 ?_
    refine lv_bipush (v := 99) hx hb dX9_personHere_87 (by decide) ?_
    obtain ⟨o_4, ho_4, hf⟩ := ht_bn_ob hf
    refine ht_callVv (rest := []) (As := [.int o_3, .int (x2 + (2 : Int32)), .int (99 : Int32)]) (wc := (wMo K jM aM o_2.1 RM.held RM.aside RM.before RM.isHeld RM.tape RM.taped o_2.2.1 o_2.2.2.1 o_2.2.2.2.1 o_2.2.2.2.2.1 o_2.2.2.2.2.2 RM.unpaired RM.bestSound RM.bestWay RM.rows RM.rowN RM.sortOf RM.sizeOf RM.numbers RM.holdsWhat RM.holdsWhich RM.holdsMany RM.bodies RM.ran RM.actKind RM.actN RM.actA RM.isParted)) (wr := []) (w1 := (wMo K jM aM o_4.1 RM.held RM.aside RM.before RM.isHeld RM.tape RM.taped o_4.2.1 o_4.2.2.1 o_4.2.2.2.1 o_4.2.2.2.2.1 o_4.2.2.2.2.2 RM.unpaired RM.bestSound RM.bestWay RM.rows RM.rowN RM.sortOf RM.sizeOf RM.numbers RM.holdsWhat RM.holdsWhich RM.holdsMany RM.bodies RM.ran RM.actKind RM.actN RM.actA RM.isParted)) (w2 := (wMo K jM aM o_4.1 RM.held RM.aside RM.before RM.isHeld RM.tape RM.taped o_4.2.1 o_4.2.2.1 o_4.2.2.2.1 o_4.2.2.2.2.1 o_4.2.2.2.2.2 RM.unpaired RM.bestSound RM.bestWay RM.rows RM.rowN RM.sortOf RM.sizeOf RM.numbers RM.holdsWhat RM.holdsWhich RM.holdsMany RM.bodies RM.ran RM.actKind RM.actN RM.actA RM.isParted)) hF (ctX9_perhaps l D K jM aM (o_2.1, RM.held, RM.aside, RM.before, RM.isHeld, RM.tape, RM.taped, o_2.2.1, o_2.2.2.1, o_2.2.2.2.1, o_2.2.2.2.2.1, o_2.2.2.2.2.2, RM.unpaired, RM.bestSound, RM.bestWay, RM.rows, RM.rowN, RM.sortOf, RM.sizeOf, RM.numbers, RM.holdsWhat, RM.holdsWhich, RM.holdsMany, RM.bodies, RM.ran, RM.actKind, RM.actN, RM.actA, RM.isParted) o_3 (x2 + (2 : Int32)) (99 : Int32) o_4 ho_4 H.size) (cwV 3 hts gX9_personHere_X9_perhaps rfl rfl rfl hdX9_perhaps ⟨Nat.le_of_ble_eq_true rfl, Nat.le_of_ble_eq_true rfl⟩) hK hP hD hS hA [0, 1, 2, 3, 4, 5, 6, 7, 8, 9, 10, 11, 12, 13, 14, 15] [] rfl rfl (by decide) (by decide) (by decide) [0, 1, 2, 3, 4, 5, 6, 7, 8, 9, 10, 11, 12, 13, 14, 15] rfl (by decide) (va_recv hK hP (ci := 9) (q0 := 0) rfl rfl) rfl hl.1 rfl (Nat.le_of_ble_eq_true rfl) dX9_personHere_89 ⟨Nat.zero_le _, Nat.zero_le _⟩ (fun H locs hP hD hS => ?_)
    refine lv_aload_n hx hb dX9_personHere_92 rfl (lv_at hl 0 rfl) ?_
    refine lv_aload_n hx hb dX9_personHere_93 rfl (lv_at hl 0 rfl) ?_
    refine lv_bipush (v := 118) hx hb dX9_personHere_94 (by decide) ?_
    refine lv_bipush (v := 111) hx hb dX9_personHere_96 (by decide) ?_
    refine lv_bipush (v := 105) hx hb dX9_personHere_98 (by decide) ?_
    refine lv_bipush (v := 99) hx hb dX9_personHere_100 (by decide) ?_
    refine lv_bipush (v := 101) hx hb dX9_personHere_102 (by decide) ?_
    obtain ⟨o_5, ho_5, hf⟩ := ht_bn_ob hf
    refine ht_callVi (r := o_5) (rest := [.ref jM]) (As := [.int (118 : Int32), .int (111 : Int32), .int (105 : Int32), .int (99 : Int32), .int (101 : Int32)]) (wc := (wMo K jM aM o_4.1 RM.held RM.aside RM.before RM.isHeld RM.tape RM.taped o_4.2.1 o_4.2.2.1 o_4.2.2.2.1 o_4.2.2.2.2.1 o_4.2.2.2.2.2 RM.unpaired RM.bestSound RM.bestWay RM.rows RM.rowN RM.sortOf RM.sizeOf RM.numbers RM.holdsWhat RM.holdsWhich RM.holdsMany RM.bodies RM.ran RM.actKind RM.actN RM.actA RM.isParted)) (wr := []) (w1 := (wMo K jM aM o_4.1 RM.held RM.aside RM.before RM.isHeld RM.tape RM.taped o_4.2.1 o_4.2.2.1 o_4.2.2.2.1 o_4.2.2.2.2.1 o_4.2.2.2.2.2 RM.unpaired RM.bestSound RM.bestWay RM.rows RM.rowN RM.sortOf RM.sizeOf RM.numbers RM.holdsWhat RM.holdsWhich RM.holdsMany RM.bodies RM.ran RM.actKind RM.actN RM.actA RM.isParted)) (w2 := (wMo K jM aM o_4.1 RM.held RM.aside RM.before RM.isHeld RM.tape RM.taped o_4.2.1 o_4.2.2.1 o_4.2.2.2.1 o_4.2.2.2.2.1 o_4.2.2.2.2.2 RM.unpaired RM.bestSound RM.bestWay RM.rows RM.rowN RM.sortOf RM.sizeOf RM.numbers RM.holdsWhat RM.holdsWhich RM.holdsMany RM.bodies RM.ran RM.actKind RM.actN RM.actA RM.isParted)) hF (ctX9_isFive l D K jM aM (o_4.1, RM.held, RM.aside, RM.before, RM.isHeld, RM.tape, RM.taped, o_4.2.1, o_4.2.2.1, o_4.2.2.2.1, o_4.2.2.2.2.1, o_4.2.2.2.2.2, RM.unpaired, RM.bestSound, RM.bestWay, RM.rows, RM.rowN, RM.sortOf, RM.sizeOf, RM.numbers, RM.holdsWhat, RM.holdsWhich, RM.holdsMany, RM.bodies, RM.ran, RM.actKind, RM.actN, RM.actA, RM.isParted) (118 : Int32) (111 : Int32) (105 : Int32) (99 : Int32) (101 : Int32) o_5 ho_5 H.size) (cwV 5 hts gX9_personHere_X9_isFive rfl rfl rfl hdX9_isFive ⟨Nat.le_of_ble_eq_true rfl, Nat.le_of_ble_eq_true rfl⟩) hK hP hD hS hA [0, 1, 2, 3, 4, 5, 6, 7, 8, 9, 10, 11, 12, 13, 14, 15] [] rfl rfl (by decide) (by decide) (by decide) [0, 1, 2, 3, 4, 5, 6, 7, 8, 9, 10, 11, 12, 13, 14, 15] rfl (by decide) (va_recv hK hP (ci := 9) (q0 := 0) rfl rfl) rfl hl.1 rfl (Nat.le_of_ble_eq_true rfl) dX9_personHere_104 ⟨Nat.zero_le _, Nat.zero_le _⟩ (fun H locs hP hD hS => ?_)
    refine lv_iload_n hx hb dX9_personHere_107 rfl (lv_at hl 1 rfl) ?_
    refine lv_iconst (v := 3) hx hb dX9_personHere_108 (by decide) ?_
    refine lv_iadd hx hb dX9_personHere_109 ?_
    refine lv_bipush (v := 9) hx hb dX9_personHere_110 (by decide) ?_
    obtain ⟨o_6, ho_6, hf⟩ := ht_bn_ob hf
    refine ht_callVv (rest := []) (As := [.int o_5, .int (x2 + (3 : Int32)), .int (9 : Int32)]) (wc := (wMo K jM aM o_4.1 RM.held RM.aside RM.before RM.isHeld RM.tape RM.taped o_4.2.1 o_4.2.2.1 o_4.2.2.2.1 o_4.2.2.2.2.1 o_4.2.2.2.2.2 RM.unpaired RM.bestSound RM.bestWay RM.rows RM.rowN RM.sortOf RM.sizeOf RM.numbers RM.holdsWhat RM.holdsWhich RM.holdsMany RM.bodies RM.ran RM.actKind RM.actN RM.actA RM.isParted)) (wr := []) (w1 := (wMo K jM aM o_6.1 RM.held RM.aside RM.before RM.isHeld RM.tape RM.taped o_6.2.1 o_6.2.2.1 o_6.2.2.2.1 o_6.2.2.2.2.1 o_6.2.2.2.2.2 RM.unpaired RM.bestSound RM.bestWay RM.rows RM.rowN RM.sortOf RM.sizeOf RM.numbers RM.holdsWhat RM.holdsWhich RM.holdsMany RM.bodies RM.ran RM.actKind RM.actN RM.actA RM.isParted)) (w2 := (wMo K jM aM o_6.1 RM.held RM.aside RM.before RM.isHeld RM.tape RM.taped o_6.2.1 o_6.2.2.1 o_6.2.2.2.1 o_6.2.2.2.2.1 o_6.2.2.2.2.2 RM.unpaired RM.bestSound RM.bestWay RM.rows RM.rowN RM.sortOf RM.sizeOf RM.numbers RM.holdsWhat RM.holdsWhich RM.holdsMany RM.bodies RM.ran RM.actKind RM.actN RM.actA RM.isParted)) hF (ctX9_perhaps l D K jM aM (o_4.1, RM.held, RM.aside, RM.before, RM.isHeld, RM.tape, RM.taped, o_4.2.1, o_4.2.2.1, o_4.2.2.2.1, o_4.2.2.2.2.1, o_4.2.2.2.2.2, RM.unpaired, RM.bestSound, RM.bestWay, RM.rows, RM.rowN, RM.sortOf, RM.sizeOf, RM.numbers, RM.holdsWhat, RM.holdsWhich, RM.holdsMany, RM.bodies, RM.ran, RM.actKind, RM.actN, RM.actA, RM.isParted) o_5 (x2 + (3 : Int32)) (9 : Int32) o_6 ho_6 H.size) (cwV 3 hts gX9_personHere_X9_perhaps rfl rfl rfl hdX9_perhaps ⟨Nat.le_of_ble_eq_true rfl, Nat.le_of_ble_eq_true rfl⟩) hK hP hD hS hA [0, 1, 2, 3, 4, 5, 6, 7, 8, 9, 10, 11, 12, 13, 14, 15] [] rfl rfl (by decide) (by decide) (by decide) [0, 1, 2, 3, 4, 5, 6, 7, 8, 9, 10, 11, 12, 13, 14, 15] rfl (by decide) (va_recv hK hP (ci := 9) (q0 := 0) rfl rfl) rfl hl.1 rfl (Nat.le_of_ble_eq_true rfl) dX9_personHere_112 ⟨Nat.zero_le _, Nat.zero_le _⟩ (fun H locs hP hD hS => ?_)
    have ho := Option.some.inj hf
    subst ho; subst hQ
    exact ht_vret hx hb hr hlk hK hP hD hS dX9_personHere_115
  have b30 : ∀ (x1 : Int32) (x2 : Int32) (t1 : Int32) (vM_s : AI) (vM_token : Int32) (vM_from : Int32) (vM_to : Int32) (vM_value : Int32) (vM_isWrong : Int32) (H : Heap) (locs : List Loc) (ls : Array Slot), fX9_personHere_b30 RM x1 x2 t1 vM_s vM_token vM_from vM_to vM_value vM_isWrong = some o → va_P D vwCl (wMo K jM aM vM_s RM.held RM.aside RM.before RM.isHeld RM.tape RM.taped vM_token vM_from vM_to vM_value vM_isWrong RM.unpaired RM.bestSound RM.bestWay RM.rows RM.rowN RM.sortOf RM.sizeOf RM.numbers RM.holdsWhat RM.holdsWhich RM.holdsMany RM.bodies RM.ran RM.actKind RM.actN RM.actA RM.isParted) H → va_D A (wMo K jM aM vM_s RM.held RM.aside RM.before RM.isHeld RM.tape RM.taped vM_token vM_from vM_to vM_value vM_isWrong RM.unpaired RM.bestSound RM.bestWay RM.rows RM.rowN RM.sortOf RM.sizeOf RM.numbers RM.holdsWhat RM.holdsWhich RM.holdsMany RM.bodies RM.ran RM.actKind RM.actN RM.actA RM.isParted) → va_S A s.heap H locs → lv_has ls 3 [(0, .ref jM), (1, .int x1), (2, .int x2)] → W p l e (headSpec wsX9_personHere rmX9_personHere).room s m ([.ref jM, .int p0] : List Value).toArray below meth c H locs 0 0 Q (F0 m 30 ls [.int t1, .ref jM]) := by
    intro x1 x2 t1 vM_s vM_token vM_from vM_to vM_value vM_isWrong H locs ls hf hP hD hS hl
    delta fX9_personHere_b30 at hf
    obtain ⟨o_7, ho_7, hf⟩ := ht_bn_ob hf
    refine ht_callVv (rest := []) (As := [.int t1]) (wc := (wMo K jM aM vM_s RM.held RM.aside RM.before RM.isHeld RM.tape RM.taped vM_token vM_from vM_to vM_value vM_isWrong RM.unpaired RM.bestSound RM.bestWay RM.rows RM.rowN RM.sortOf RM.sizeOf RM.numbers RM.holdsWhat RM.holdsWhich RM.holdsMany RM.bodies RM.ran RM.actKind RM.actN RM.actA RM.isParted)) (wr := []) (w1 := (wMo K jM aM vM_s RM.held RM.aside RM.before RM.isHeld RM.tape RM.taped o_7.1 o_7.2.1 o_7.2.2.1 o_7.2.2.2.1 o_7.2.2.2.2 RM.unpaired RM.bestSound RM.bestWay RM.rows RM.rowN RM.sortOf RM.sizeOf RM.numbers RM.holdsWhat RM.holdsWhich RM.holdsMany RM.bodies RM.ran RM.actKind RM.actN RM.actA RM.isParted)) (w2 := (wMo K jM aM vM_s RM.held RM.aside RM.before RM.isHeld RM.tape RM.taped o_7.1 o_7.2.1 o_7.2.2.1 o_7.2.2.2.1 o_7.2.2.2.2 RM.unpaired RM.bestSound RM.bestWay RM.rows RM.rowN RM.sortOf RM.sizeOf RM.numbers RM.holdsWhat RM.holdsWhich RM.holdsMany RM.bodies RM.ran RM.actKind RM.actN RM.actA RM.isParted)) hF (ctX9_needs l D K jM aM (vM_s, RM.held, RM.aside, RM.before, RM.isHeld, RM.tape, RM.taped, vM_token, vM_from, vM_to, vM_value, vM_isWrong, RM.unpaired, RM.bestSound, RM.bestWay, RM.rows, RM.rowN, RM.sortOf, RM.sizeOf, RM.numbers, RM.holdsWhat, RM.holdsWhich, RM.holdsMany, RM.bodies, RM.ran, RM.actKind, RM.actN, RM.actA, RM.isParted) t1 o_7 ho_7 H.size) (cwV 1 hts gX9_personHere_X9_needs rfl rfl rfl hdX9_needs ⟨Nat.le_of_ble_eq_true rfl, Nat.le_of_ble_eq_true rfl⟩) hK hP hD hS hA [0, 1, 2, 3, 4, 5, 6, 7, 8, 9, 10, 11, 12, 13, 14, 15] [] rfl rfl (by decide) (by decide) (by decide) [0, 1, 2, 3, 4, 5, 6, 7, 8, 9, 10, 11, 12, 13, 14, 15] rfl (by decide) (va_recv hK hP (ci := 9) (q0 := 0) rfl rfl) rfl hl.1 rfl (Nat.le_of_ble_eq_true rfl) dX9_personHere_30 ⟨Nat.zero_le _, Nat.zero_le _⟩ (fun H locs hP hD hS => ?_)
    refine lv_aload_n hx hb dX9_personHere_33 rfl (lv_at hl 0 rfl) ?_
    refine va_get (D := D) (ci := 9) (v := .int o_7.2.2.2.2) (C := RX9) (T := TX9) (N := 29) hx hb hts iw9 hown hK hP 0 rfl rfl 11 (by decide) kw1 (fun _ h9 => h9) rfl dX9_personHere_34 ?_
    refine lv_if_ne (tgt := 48) hx hb dX9_personHere_37 (by decide) (fun c_8 => ?_) (fun c_8 => ?_)
    · replace hf := ht_f c_8 hf
      exact b48  x2 vM_s o_7.1 o_7.2.1 o_7.2.2.1 o_7.2.2.2.1 o_7.2.2.2.2 _ _ _ hf hP hD hS (lv_sub hl [0, 2] rfl)
    · replace hf := ht_t c_8 hf
      refine lv_aload_n hx hb dX9_personHere_40 rfl (lv_at hl 0 rfl) ?_
      refine lv_iload_n hx hb dX9_personHere_41 rfl (lv_at hl 1 rfl) ?_
      refine lv_iconst (v := 0) hx hb dX9_personHere_42 (by decide) ?_
      refine lv_iconst (v := 0) hx hb dX9_personHere_43 (by decide) ?_
      refine lv_iconst (v := 3) hx hb dX9_personHere_44 (by decide) ?_
      obtain ⟨o_9, ho_9, hf⟩ := ht_bn_ob hf
      refine ht_callVv (rest := []) (As := [.int x1, .int (0 : Int32), .int (0 : Int32), .int (3 : Int32)]) (wc := (wMo K jM aM vM_s RM.held RM.aside RM.before RM.isHeld RM.tape RM.taped o_7.1 o_7.2.1 o_7.2.2.1 o_7.2.2.2.1 o_7.2.2.2.2 RM.unpaired RM.bestSound RM.bestWay RM.rows RM.rowN RM.sortOf RM.sizeOf RM.numbers RM.holdsWhat RM.holdsWhich RM.holdsMany RM.bodies RM.ran RM.actKind RM.actN RM.actA RM.isParted)) (wr := []) (w1 := (wMo K jM aM o_9 RM.held RM.aside RM.before RM.isHeld RM.tape RM.taped o_7.1 o_7.2.1 o_7.2.2.1 o_7.2.2.2.1 o_7.2.2.2.2 RM.unpaired RM.bestSound RM.bestWay RM.rows RM.rowN RM.sortOf RM.sizeOf RM.numbers RM.holdsWhat RM.holdsWhich RM.holdsMany RM.bodies RM.ran RM.actKind RM.actN RM.actA RM.isParted)) (w2 := (wMo K jM aM o_9 RM.held RM.aside RM.before RM.isHeld RM.tape RM.taped o_7.1 o_7.2.1 o_7.2.2.1 o_7.2.2.2.1 o_7.2.2.2.2 RM.unpaired RM.bestSound RM.bestWay RM.rows RM.rowN RM.sortOf RM.sizeOf RM.numbers RM.holdsWhat RM.holdsWhich RM.holdsMany RM.bodies RM.ran RM.actKind RM.actN RM.actA RM.isParted)) hF (ctX9_comes l D K jM aM (vM_s, RM.held, RM.aside, RM.before, RM.isHeld, RM.tape, RM.taped, o_7.1, o_7.2.1, o_7.2.2.1, o_7.2.2.2.1, o_7.2.2.2.2, RM.unpaired, RM.bestSound, RM.bestWay, RM.rows, RM.rowN, RM.sortOf, RM.sizeOf, RM.numbers, RM.holdsWhat, RM.holdsWhich, RM.holdsMany, RM.bodies, RM.ran, RM.actKind, RM.actN, RM.actA, RM.isParted) x1 (0 : Int32) (0 : Int32) (3 : Int32) o_9 ho_9 H.size) (cwV 4 hts gX9_personHere_X9_comes rfl rfl rfl hdX9_comes ⟨Nat.le_of_ble_eq_true rfl, Nat.le_of_ble_eq_true rfl⟩) hK hP hD hS hA [0, 1, 2, 3, 4, 5, 6, 7, 8, 9, 10, 11, 12, 13, 14, 15] [] rfl rfl (by decide) (by decide) (by decide) [0, 1, 2, 3, 4, 5, 6, 7, 8, 9, 10, 11, 12, 13, 14, 15] rfl (by decide) (va_recv hK hP (ci := 9) (q0 := 0) rfl rfl) rfl hl.1 rfl (Nat.le_of_ble_eq_true rfl) dX9_personHere_45 ⟨Nat.zero_le _, Nat.zero_le _⟩ (fun H locs hP hD hS => ?_)
      exact b48  x2 o_9 o_7.1 o_7.2.1 o_7.2.2.1 o_7.2.2.2.1 o_7.2.2.2.2 _ _ _ hf hP hD hS (lv_sub hl [0, 2] rfl)
  delta fX9_personHere at hf
  refine lv_bipush (v := 9) hx hb dX9_personHere_0 (by decide) ?_
  refine lv_bipush (v := 6) hx hb dX9_personHere_2 (by decide) ?_
  refine lv_aload_n hx hb dX9_personHere_4 rfl (lv_at hl 0 rfl) ?_
  refine va_get (D := D) (ci := 9) (v := .ref (aM 0)) (C := RX9) (T := TX9) (N := 29) hx hb hts iw9 hown hK hP 0 rfl rfl 0 (by decide) kw2 (fun _ h9 => h9) rfl dX9_personHere_5 ?_
  refine lv_iconst (v := 0) hx hb dX9_personHere_8 (by decide) ?_
  obtain ⟨g_10, hf⟩ := ht_gd_ob hf
  refine va_iald hx hb hK hP 1 1 rfl rfl (ht_ix_in g_10) dX9_personHere_9 ?_
  refine lv_imul hx hb dX9_personHere_10 ?_
  refine lv_iadd hx hb dX9_personHere_11 ?_
  obtain ⟨x2_11, ex2_11, hf⟩ := ht_nm_ob hf
  rw [← ex2_11]
  refine lv_istore_n (lv' := [(2, .int x2_11), (0, .ref jM), (1, .int p0)]) hx hb dX9_personHere_12 rfl hl (by decide) rfl (fun ls hl => ?_)
  refine lv_aload_n hx hb dX9_personHere_13 rfl (lv_at hl 1 rfl) ?_
  refine lv_aload_n hx hb dX9_personHere_14 rfl (lv_at hl 1 rfl) ?_
  refine va_get (D := D) (ci := 9) (v := .ref (aM 0)) (C := RX9) (T := TX9) (N := 29) hx hb hts iw9 hown hK hP 0 rfl rfl 0 (by decide) kw2 (fun _ h9 => h9) rfl dX9_personHere_15 ?_
  refine lv_iconst (v := 0) hx hb dX9_personHere_18 (by decide) ?_
  obtain ⟨g_12, hf⟩ := ht_gd_ob hf
  refine va_iald hx hb hK hP 1 1 rfl rfl (ht_ix_in g_12) dX9_personHere_19 ?_
  refine lv_bipush (v := 8) hx hb dX9_personHere_20 (by decide) ?_
  refine lv_icmp_ge (tgt := 29) hx hb dX9_personHere_22 (by decide) (fun c_13 => ?_) (fun c_13 => ?_)
  · replace hf := ht_t c_13 hf
    refine lv_iconst (v := 0) hx hb dX9_personHere_29 (by decide) ?_
    exact b30  p0 x2_11 (0 : Int32) RM.s RM.token RM.frm RM.to RM.value RM.isWrong _ _ _ hf hP hD hS (lv_sub hl [1, 2, 0] rfl)
  · replace hf := ht_f c_13 hf
    refine lv_iconst (v := 1) hx hb dX9_personHere_25 (by decide) ?_
    refine lv_goto (tgt := 30) hx hb dX9_personHere_26 (by decide) ?_
    exact b30  p0 x2_11 (1 : Int32) RM.s RM.token RM.frm RM.to RM.value RM.isWrong _ _ _ hf hP hD hS (lv_sub hl [1, 2, 0] rfl)
abbrev rmX9_pairHere : Room := { frames := 3, cells := 0, slots := 0, locals := 70 }
theorem hdX9_pairHere : yX9_pairHere.cls = RX9 ∧ yX9_pairHere.cls ≠ "java/lang/invoke/MethodHandle" ∧ yX9_pairHere.cls ≠ "java/lang/invoke/VarHandle" ∧ (parseMethodDescriptor yX9_pairHere.desc).map (fun d => d.parameters.length) = some 0 := by decide +kernel
def fX9_pairHere_b117 (RM : ModV) (x1 : Int32) (x2 : Int32) (t1 : Int32) (vM_s : AI) (vM_token : Int32) (vM_from : Int32) (vM_to : Int32) (vM_value : Int32) (vM_isWrong : Int32) : Option (AI × Int32 × Int32 × Int32 × Int32 × Int32) := ht_bn (fX9_needs (vM_s, RM.held, RM.aside, RM.before, RM.isHeld, RM.tape, RM.taped, vM_token, vM_from, vM_to, vM_value, vM_isWrong, RM.unpaired, RM.bestSound, RM.bestWay, RM.rows, RM.rowN, RM.sortOf, RM.sizeOf, RM.numbers, RM.holdsWhat, RM.holdsWhich, RM.holdsMany, RM.bodies, RM.ran, RM.actKind, RM.actN, RM.actA, RM.isParted) t1) (fun o_1 => if o_1.2.2.2.2 = 0 then (ht_bn (fX9_pairs (vM_s, RM.held, RM.aside, RM.before, RM.isHeld, RM.tape, RM.taped, o_1.1, o_1.2.1, o_1.2.2.1, o_1.2.2.2.1, o_1.2.2.2.2, RM.unpaired, RM.bestSound, RM.bestWay, RM.rows, RM.rowN, RM.sortOf, RM.sizeOf, RM.numbers, RM.holdsWhat, RM.holdsWhich, RM.holdsMany, RM.bodies, RM.ran, RM.actKind, RM.actN, RM.actA, RM.isParted) x1 x2) (fun o_3 => some (o_3, o_1.1, o_1.2.1, o_1.2.2.1, o_1.2.2.2.1, o_1.2.2.2.2))) else (some (vM_s, o_1.1, o_1.2.1, o_1.2.2.1, o_1.2.2.2.1, o_1.2.2.2.2)))
def fX9_pairHere_b116 (RM : ModV) (x1 : Int32) (x2 : Int32) (vM_s : AI) (vM_token : Int32) (vM_from : Int32) (vM_to : Int32) (vM_value : Int32) (vM_isWrong : Int32) : Option (AI × Int32 × Int32 × Int32 × Int32 × Int32) := fX9_pairHere_b117 RM x1 x2 (0 : Int32) vM_s vM_token vM_from vM_to vM_value vM_isWrong
def fX9_pairHere_b47 (RM : ModV) (x1 : Int32) (t1 : Int32) (vM_s : AI) (vM_token : Int32) (vM_from : Int32) (vM_to : Int32) (vM_value : Int32) (vM_isWrong : Int32) : Option (AI × Int32 × Int32 × Int32 × Int32 × Int32) := ht_bn (fX9_needs (vM_s, RM.held, RM.aside, RM.before, RM.isHeld, RM.tape, RM.taped, vM_token, vM_from, vM_to, vM_value, vM_isWrong, RM.unpaired, RM.bestSound, RM.bestWay, RM.rows, RM.rowN, RM.sortOf, RM.sizeOf, RM.numbers, RM.holdsWhat, RM.holdsWhich, RM.holdsMany, RM.bodies, RM.ran, RM.actKind, RM.actN, RM.actA, RM.isParted) t1) (fun o_4 => ht_bn (fX9_isFour (vM_s, RM.held, RM.aside, RM.before, RM.isHeld, RM.tape, RM.taped, o_4.1, o_4.2.1, o_4.2.2.1, o_4.2.2.2.1, o_4.2.2.2.2, RM.unpaired, RM.bestSound, RM.bestWay, RM.rows, RM.rowN, RM.sortOf, RM.sizeOf, RM.numbers, RM.holdsWhat, RM.holdsWhich, RM.holdsMany, RM.bodies, RM.ran, RM.actKind, RM.actN, RM.actA, RM.isParted) (119 : Int32) (105 : Int32) (116 : Int32) (104 : Int32)) (fun o_5 => ht_bn (fX9_needs (vM_s, RM.held, RM.aside, RM.before, RM.isHeld, RM.tape, RM.taped, o_4.1, o_4.2.1, o_4.2.2.1, o_4.2.2.2.1, o_4.2.2.2.2, RM.unpaired, RM.bestSound, RM.bestWay, RM.rows, RM.rowN, RM.sortOf, RM.sizeOf, RM.numbers, RM.holdsWhat, RM.holdsWhich, RM.holdsMany, RM.bodies, RM.ran, RM.actKind, RM.actN, RM.actA, RM.isParted) o_5) (fun o_6 => ht_nm o_6.2.2.2.1 (fun x2_7 => if o_6.1 = (2 : Int32) then (if (3 : Int32) < (o_6.2.2.1 - o_6.2.1) then (fX9_pairHere_b116 RM x1 x2_7 vM_s o_6.1 o_6.2.1 o_6.2.2.1 o_6.2.2.2.1 o_6.2.2.2.2) else (ht_bn (fX9_isOne (vM_s, RM.held, RM.aside, RM.before, RM.isHeld, RM.tape, RM.taped, o_6.1, o_6.2.1, o_6.2.2.1, o_6.2.2.2.1, o_6.2.2.2.2, RM.unpaired, RM.bestSound, RM.bestWay, RM.rows, RM.rowN, RM.sortOf, RM.sizeOf, RM.numbers, RM.holdsWhat, RM.holdsWhich, RM.holdsMany, RM.bodies, RM.ran, RM.actKind, RM.actN, RM.actA, RM.isParted) o_6.2.2.2.1) (fun o_10 => if o_10 = 0 then (fX9_pairHere_b116 RM x1 x2_7 vM_s o_6.1 o_6.2.1 o_6.2.2.1 o_6.2.2.2.1 o_6.2.2.2.2) else (if o_6.2.2.2.1 = x1 then (fX9_pairHere_b116 RM x1 x2_7 vM_s o_6.1 o_6.2.1 o_6.2.2.1 o_6.2.2.2.1 o_6.2.2.2.2) else (fX9_pairHere_b117 RM x1 x2_7 (1 : Int32) vM_s o_6.1 o_6.2.1 o_6.2.2.1 o_6.2.2.2.1 o_6.2.2.2.2))))) else (fX9_pairHere_b116 RM x1 x2_7 vM_s o_6.1 o_6.2.1 o_6.2.2.1 o_6.2.2.2.1 o_6.2.2.2.2)))))
def fX9_pairHere_b46 (RM : ModV) (x1 : Int32) (vM_s : AI) (vM_token : Int32) (vM_from : Int32) (vM_to : Int32) (vM_value : Int32) (vM_isWrong : Int32) : Option (AI × Int32 × Int32 × Int32 × Int32 × Int32) := fX9_pairHere_b47 RM x1 (0 : Int32) vM_s vM_token vM_from vM_to vM_value vM_isWrong
def fX9_pairHere (RM : ModV) : Option (AI × Int32 × Int32 × Int32 × Int32 × Int32) := ht_bn (fX9_nextToken RM) (fun o_13 => ht_nm o_13.2.2.2 (fun x1_14 => if o_13.1 = (2 : Int32) then (if (3 : Int32) < (o_13.2.2.1 - o_13.2.1) then (fX9_pairHere_b46 RM x1_14 RM.s o_13.1 o_13.2.1 o_13.2.2.1 o_13.2.2.2 RM.isWrong) else (ht_bn (fX9_isOne (RM.s, RM.held, RM.aside, RM.before, RM.isHeld, RM.tape, RM.taped, o_13.1, o_13.2.1, o_13.2.2.1, o_13.2.2.2, RM.isWrong, RM.unpaired, RM.bestSound, RM.bestWay, RM.rows, RM.rowN, RM.sortOf, RM.sizeOf, RM.numbers, RM.holdsWhat, RM.holdsWhich, RM.holdsMany, RM.bodies, RM.ran, RM.actKind, RM.actN, RM.actA, RM.isParted) o_13.2.2.2) (fun o_17 => if o_17 = 0 then (fX9_pairHere_b46 RM x1_14 RM.s o_13.1 o_13.2.1 o_13.2.2.1 o_13.2.2.2 RM.isWrong) else (fX9_pairHere_b47 RM x1_14 (1 : Int32) RM.s o_13.1 o_13.2.1 o_13.2.2.1 o_13.2.2.2 RM.isWrong)))) else (fX9_pairHere_b46 RM x1_14 RM.s o_13.1 o_13.2.1 o_13.2.2.1 o_13.2.2.2 RM.isWrong)))
set_option maxHeartbeats 1000000 in
set_option maxRecDepth 100000 in
theorem ctX9_pairHere (l : Launch) (D : va_G) (K : Nat → ClassId) (jM : Nat) (aM : Nat → Nat) (RM : ModV) (o : (AI × Int32 × Int32 × Int32 × Int32 × Int32)) (hf : fX9_pairHere RM = some o) (sz : Nat) : Met l yX9_pairHere wsX9_pairHere rmX9_pairHere (ht_Pre D K [.ref jM] (wMo K jM aM RM.s RM.held RM.aside RM.before RM.isHeld RM.tape RM.taped RM.token RM.frm RM.to RM.value RM.isWrong RM.unpaired RM.bestSound RM.bestWay RM.rows RM.rowN RM.sortOf RM.sizeOf RM.numbers RM.holdsWhat RM.holdsWhich RM.holdsMany RM.bodies RM.ran RM.actKind RM.actN RM.actA RM.isParted) sz) (ht_Qv D K (wMo K jM aM o.1 RM.held RM.aside RM.before RM.isHeld RM.tape RM.taped o.2.1 o.2.2.1 o.2.2.2.1 o.2.2.2.2.1 o.2.2.2.2.2 RM.unpaired RM.bestSound RM.bestWay RM.rows RM.rowN RM.sortOf RM.sizeOf RM.numbers RM.holdsWhat RM.holdsWhich RM.holdsMany RM.bodies RM.ran RM.actKind RM.actN RM.actA RM.isParted) (va_A (wMo K jM aM RM.s RM.held RM.aside RM.before RM.isHeld RM.tape RM.taped RM.token RM.frm RM.to RM.value RM.isWrong RM.unpaired RM.bestSound RM.bestWay RM.rows RM.rowN RM.sortOf RM.sizeOf RM.numbers RM.holdsWhat RM.holdsWhich RM.holdsMany RM.bodies RM.ran RM.actKind RM.actN RM.actA RM.isParted) sz)) 0 0 (va_A (wMo K jM aM RM.s RM.held RM.aside RM.before RM.isHeld RM.tape RM.taped RM.token RM.frm RM.to RM.value RM.isWrong RM.unpaired RM.bestSound RM.bestWay RM.rows RM.rowN RM.sortOf RM.sizeOf RM.numbers RM.holdsWhat RM.holdsWhich RM.holdsMany RM.bodies RM.ran RM.actKind RM.actN RM.actA RM.isParted) sz) := by
  refine ht_enter (Qf := ht_Qv D K (wMo K jM aM o.1 RM.held RM.aside RM.before RM.isHeld RM.tape RM.taped o.2.1 o.2.2.1 o.2.2.2.1 o.2.2.2.2.1 o.2.2.2.2.2 RM.unpaired RM.bestSound RM.bestWay RM.rows RM.rowN RM.sortOf RM.sizeOf RM.numbers RM.holdsWhat RM.holdsWhich RM.holdsMany RM.bodies RM.ran RM.actKind RM.actN RM.actA RM.isParted)) (cc := cX9_pairHere) (maxL := 3) (rt := none) (by decide) rfl (Nat.le_of_ble_eq_true rfl) ?_ sz
  intro p e s m below meth c A Q H locs ls hQ hx hb hr hlk hmn hml hown hts hA hK hP hD hS hl
  have hown : s.vm.findClass RX9 = some m.cls := hown
  have hF : CallFix p m c cX9_pairHere 3 s ([.ref jM] : List Value).toArray wsX9_pairHere RX9 := ⟨hx, hb, hml, hown, hts⟩
  have hl : lv_has ls 3 [(0, .ref jM)] := hl
  have iw9 : ∀ w ∈ u_ws RX9 TX9 29, w ∈ wsX9_pairHere := by decide +kernel
  have kw1 := hts (.fieldLink RX9 93 "HeldTonguesModel" "isWrong" "Z") (by decide +kernel)
  have kw2 := hts (.fieldLink RX9 90 "HeldTonguesModel" "value" "I") (by decide +kernel)
  have kw3 := hts (.fieldLink RX9 87 "HeldTonguesModel" "token" "I") (by decide +kernel)
  have kw4 := hts (.fieldLink RX9 70 "HeldTonguesModel" "to" "I") (by decide +kernel)
  have kw5 := hts (.fieldLink RX9 73 "HeldTonguesModel" "from" "I") (by decide +kernel)
  have b117 : ∀ (x1 : Int32) (x2 : Int32) (t1 : Int32) (vM_s : AI) (vM_token : Int32) (vM_from : Int32) (vM_to : Int32) (vM_value : Int32) (vM_isWrong : Int32) (H : Heap) (locs : List Loc) (ls : Array Slot), fX9_pairHere_b117 RM x1 x2 t1 vM_s vM_token vM_from vM_to vM_value vM_isWrong = some o → va_P D vwCl (wMo K jM aM vM_s RM.held RM.aside RM.before RM.isHeld RM.tape RM.taped vM_token vM_from vM_to vM_value vM_isWrong RM.unpaired RM.bestSound RM.bestWay RM.rows RM.rowN RM.sortOf RM.sizeOf RM.numbers RM.holdsWhat RM.holdsWhich RM.holdsMany RM.bodies RM.ran RM.actKind RM.actN RM.actA RM.isParted) H → va_D A (wMo K jM aM vM_s RM.held RM.aside RM.before RM.isHeld RM.tape RM.taped vM_token vM_from vM_to vM_value vM_isWrong RM.unpaired RM.bestSound RM.bestWay RM.rows RM.rowN RM.sortOf RM.sizeOf RM.numbers RM.holdsWhat RM.holdsWhich RM.holdsMany RM.bodies RM.ran RM.actKind RM.actN RM.actA RM.isParted) → va_S A s.heap H locs → lv_has ls 3 [(0, .ref jM), (1, .int x1), (2, .int x2)] → W p l e (headSpec wsX9_pairHere rmX9_pairHere).room s m ([.ref jM] : List Value).toArray below meth c H locs 0 0 Q (F0 m 117 ls [.int t1, .ref jM]) := by
    intro x1 x2 t1 vM_s vM_token vM_from vM_to vM_value vM_isWrong H locs ls hf hP hD hS hl
    delta fX9_pairHere_b117 at hf
    obtain ⟨o_1, ho_1, hf⟩ := ht_bn_ob hf
    refine ht_callVv (rest := []) (As := [.int t1]) (wc := (wMo K jM aM vM_s RM.held RM.aside RM.before RM.isHeld RM.tape RM.taped vM_token vM_from vM_to vM_value vM_isWrong RM.unpaired RM.bestSound RM.bestWay RM.rows RM.rowN RM.sortOf RM.sizeOf RM.numbers RM.holdsWhat RM.holdsWhich RM.holdsMany RM.bodies RM.ran RM.actKind RM.actN RM.actA RM.isParted)) (wr := []) (w1 := (wMo K jM aM vM_s RM.held RM.aside RM.before RM.isHeld RM.tape RM.taped o_1.1 o_1.2.1 o_1.2.2.1 o_1.2.2.2.1 o_1.2.2.2.2 RM.unpaired RM.bestSound RM.bestWay RM.rows RM.rowN RM.sortOf RM.sizeOf RM.numbers RM.holdsWhat RM.holdsWhich RM.holdsMany RM.bodies RM.ran RM.actKind RM.actN RM.actA RM.isParted)) (w2 := (wMo K jM aM vM_s RM.held RM.aside RM.before RM.isHeld RM.tape RM.taped o_1.1 o_1.2.1 o_1.2.2.1 o_1.2.2.2.1 o_1.2.2.2.2 RM.unpaired RM.bestSound RM.bestWay RM.rows RM.rowN RM.sortOf RM.sizeOf RM.numbers RM.holdsWhat RM.holdsWhich RM.holdsMany RM.bodies RM.ran RM.actKind RM.actN RM.actA RM.isParted)) hF (ctX9_needs l D K jM aM (vM_s, RM.held, RM.aside, RM.before, RM.isHeld, RM.tape, RM.taped, vM_token, vM_from, vM_to, vM_value, vM_isWrong, RM.unpaired, RM.bestSound, RM.bestWay, RM.rows, RM.rowN, RM.sortOf, RM.sizeOf, RM.numbers, RM.holdsWhat, RM.holdsWhich, RM.holdsMany, RM.bodies, RM.ran, RM.actKind, RM.actN, RM.actA, RM.isParted) t1 o_1 ho_1 H.size) (cwV 1 hts gX9_pairHere_X9_needs rfl rfl rfl hdX9_needs ⟨Nat.le_of_ble_eq_true rfl, Nat.le_of_ble_eq_true rfl⟩) hK hP hD hS hA [0, 1, 2, 3, 4, 5, 6, 7, 8, 9, 10, 11, 12, 13, 14, 15] [] rfl rfl (by decide) (by decide) (by decide) [0, 1, 2, 3, 4, 5, 6, 7, 8, 9, 10, 11, 12, 13, 14, 15] rfl (by decide) (va_recv hK hP (ci := 9) (q0 := 0) rfl rfl) rfl hl.1 rfl (Nat.le_of_ble_eq_true rfl) dX9_pairHere_117 ⟨Nat.zero_le _, Nat.zero_le _⟩ (fun H locs hP hD hS => ?_)
    refine lv_aload_n hx hb dX9_pairHere_120 rfl (lv_at hl 0 rfl) ?_
    refine va_get (D := D) (ci := 9) (v := .int o_1.2.2.2.2) (C := RX9) (T := TX9) (N := 29) hx hb hts iw9 hown hK hP 0 rfl rfl 11 (by decide) kw1 (fun _ h9 => h9) rfl dX9_pairHere_121 ?_
    refine lv_if_ne (tgt := 133) hx hb dX9_pairHere_124 (by decide) (fun c_2 => ?_) (fun c_2 => ?_)
    · replace hf := ht_f c_2 hf
      have ho := Option.some.inj hf
      subst ho; subst hQ
      exact ht_vret hx hb hr hlk hK hP hD hS dX9_pairHere_133
    · replace hf := ht_t c_2 hf
      refine lv_aload_n hx hb dX9_pairHere_127 rfl (lv_at hl 0 rfl) ?_
      refine lv_iload_n hx hb dX9_pairHere_128 rfl (lv_at hl 1 rfl) ?_
      refine lv_iload_n hx hb dX9_pairHere_129 rfl (lv_at hl 2 rfl) ?_
      obtain ⟨o_3, ho_3, hf⟩ := ht_bn_ob hf
      refine ht_callVv (rest := []) (As := [.int x1, .int x2]) (wc := (wMo K jM aM vM_s RM.held RM.aside RM.before RM.isHeld RM.tape RM.taped o_1.1 o_1.2.1 o_1.2.2.1 o_1.2.2.2.1 o_1.2.2.2.2 RM.unpaired RM.bestSound RM.bestWay RM.rows RM.rowN RM.sortOf RM.sizeOf RM.numbers RM.holdsWhat RM.holdsWhich RM.holdsMany RM.bodies RM.ran RM.actKind RM.actN RM.actA RM.isParted)) (wr := []) (w1 := (wMo K jM aM o_3 RM.held RM.aside RM.before RM.isHeld RM.tape RM.taped o_1.1 o_1.2.1 o_1.2.2.1 o_1.2.2.2.1 o_1.2.2.2.2 RM.unpaired RM.bestSound RM.bestWay RM.rows RM.rowN RM.sortOf RM.sizeOf RM.numbers RM.holdsWhat RM.holdsWhich RM.holdsMany RM.bodies RM.ran RM.actKind RM.actN RM.actA RM.isParted)) (w2 := (wMo K jM aM o_3 RM.held RM.aside RM.before RM.isHeld RM.tape RM.taped o_1.1 o_1.2.1 o_1.2.2.1 o_1.2.2.2.1 o_1.2.2.2.2 RM.unpaired RM.bestSound RM.bestWay RM.rows RM.rowN RM.sortOf RM.sizeOf RM.numbers RM.holdsWhat RM.holdsWhich RM.holdsMany RM.bodies RM.ran RM.actKind RM.actN RM.actA RM.isParted)) hF (ctX9_pairs l D K jM aM (vM_s, RM.held, RM.aside, RM.before, RM.isHeld, RM.tape, RM.taped, o_1.1, o_1.2.1, o_1.2.2.1, o_1.2.2.2.1, o_1.2.2.2.2, RM.unpaired, RM.bestSound, RM.bestWay, RM.rows, RM.rowN, RM.sortOf, RM.sizeOf, RM.numbers, RM.holdsWhat, RM.holdsWhich, RM.holdsMany, RM.bodies, RM.ran, RM.actKind, RM.actN, RM.actA, RM.isParted) x1 x2 o_3 ho_3 H.size) (cwV 2 hts gX9_pairHere_X9_pairs rfl rfl rfl hdX9_pairs ⟨Nat.le_of_ble_eq_true rfl, Nat.le_of_ble_eq_true rfl⟩) hK hP hD hS hA [0, 1, 2, 3, 4, 5, 6, 7, 8, 9, 10, 11, 12, 13, 14, 15] [] rfl rfl (by decide) (by decide) (by decide) [0, 1, 2, 3, 4, 5, 6, 7, 8, 9, 10, 11, 12, 13, 14, 15] rfl (by decide) (va_recv hK hP (ci := 9) (q0 := 0) rfl rfl) rfl hl.1 rfl (Nat.le_of_ble_eq_true rfl) dX9_pairHere_130 ⟨Nat.zero_le _, Nat.zero_le _⟩ (fun H locs hP hD hS => ?_)
      have ho := Option.some.inj hf
      subst ho; subst hQ
      exact ht_vret hx hb hr hlk hK hP hD hS dX9_pairHere_133
  have b116 : ∀ (x1 : Int32) (x2 : Int32) (vM_s : AI) (vM_token : Int32) (vM_from : Int32) (vM_to : Int32) (vM_value : Int32) (vM_isWrong : Int32) (H : Heap) (locs : List Loc) (ls : Array Slot), fX9_pairHere_b116 RM x1 x2 vM_s vM_token vM_from vM_to vM_value vM_isWrong = some o → va_P D vwCl (wMo K jM aM vM_s RM.held RM.aside RM.before RM.isHeld RM.tape RM.taped vM_token vM_from vM_to vM_value vM_isWrong RM.unpaired RM.bestSound RM.bestWay RM.rows RM.rowN RM.sortOf RM.sizeOf RM.numbers RM.holdsWhat RM.holdsWhich RM.holdsMany RM.bodies RM.ran RM.actKind RM.actN RM.actA RM.isParted) H → va_D A (wMo K jM aM vM_s RM.held RM.aside RM.before RM.isHeld RM.tape RM.taped vM_token vM_from vM_to vM_value vM_isWrong RM.unpaired RM.bestSound RM.bestWay RM.rows RM.rowN RM.sortOf RM.sizeOf RM.numbers RM.holdsWhat RM.holdsWhich RM.holdsMany RM.bodies RM.ran RM.actKind RM.actN RM.actA RM.isParted) → va_S A s.heap H locs → lv_has ls 3 [(0, .ref jM), (1, .int x1), (2, .int x2)] → W p l e (headSpec wsX9_pairHere rmX9_pairHere).room s m ([.ref jM] : List Value).toArray below meth c H locs 0 0 Q (F0 m 116 ls [.ref jM]) := by
    intro x1 x2 vM_s vM_token vM_from vM_to vM_value vM_isWrong H locs ls hf hP hD hS hl
    delta fX9_pairHere_b116 at hf
    refine lv_iconst (v := 0) hx hb dX9_pairHere_116 (by decide) ?_
    exact b117  x1 x2 (0 : Int32) vM_s vM_token vM_from vM_to vM_value vM_isWrong _ _ _ hf hP hD hS hl
  have b47 : ∀ (x1 : Int32) (t1 : Int32) (vM_s : AI) (vM_token : Int32) (vM_from : Int32) (vM_to : Int32) (vM_value : Int32) (vM_isWrong : Int32) (H : Heap) (locs : List Loc) (ls : Array Slot), fX9_pairHere_b47 RM x1 t1 vM_s vM_token vM_from vM_to vM_value vM_isWrong = some o → va_P D vwCl (wMo K jM aM vM_s RM.held RM.aside RM.before RM.isHeld RM.tape RM.taped vM_token vM_from vM_to vM_value vM_isWrong RM.unpaired RM.bestSound RM.bestWay RM.rows RM.rowN RM.sortOf RM.sizeOf RM.numbers RM.holdsWhat RM.holdsWhich RM.holdsMany RM.bodies RM.ran RM.actKind RM.actN RM.actA RM.isParted) H → va_D A (wMo K jM aM vM_s RM.held RM.aside RM.before RM.isHeld RM.tape RM.taped vM_token vM_from vM_to vM_value vM_isWrong RM.unpaired RM.bestSound RM.bestWay RM.rows RM.rowN RM.sortOf RM.sizeOf RM.numbers RM.holdsWhat RM.holdsWhich RM.holdsMany RM.bodies RM.ran RM.actKind RM.actN RM.actA RM.isParted) → va_S A s.heap H locs → lv_has ls 3 [(0, .ref jM), (1, .int x1)] → W p l e (headSpec wsX9_pairHere rmX9_pairHere).room s m ([.ref jM] : List Value).toArray below meth c H locs 0 0 Q (F0 m 47 ls [.int t1, .ref jM]) := by
    intro x1 t1 vM_s vM_token vM_from vM_to vM_value vM_isWrong H locs ls hf hP hD hS hl
    delta fX9_pairHere_b47 at hf
    obtain ⟨o_4, ho_4, hf⟩ := ht_bn_ob hf
    refine ht_callVv (rest := []) (As := [.int t1]) (wc := (wMo K jM aM vM_s RM.held RM.aside RM.before RM.isHeld RM.tape RM.taped vM_token vM_from vM_to vM_value vM_isWrong RM.unpaired RM.bestSound RM.bestWay RM.rows RM.rowN RM.sortOf RM.sizeOf RM.numbers RM.holdsWhat RM.holdsWhich RM.holdsMany RM.bodies RM.ran RM.actKind RM.actN RM.actA RM.isParted)) (wr := []) (w1 := (wMo K jM aM vM_s RM.held RM.aside RM.before RM.isHeld RM.tape RM.taped o_4.1 o_4.2.1 o_4.2.2.1 o_4.2.2.2.1 o_4.2.2.2.2 RM.unpaired RM.bestSound RM.bestWay RM.rows RM.rowN RM.sortOf RM.sizeOf RM.numbers RM.holdsWhat RM.holdsWhich RM.holdsMany RM.bodies RM.ran RM.actKind RM.actN RM.actA RM.isParted)) (w2 := (wMo K jM aM vM_s RM.held RM.aside RM.before RM.isHeld RM.tape RM.taped o_4.1 o_4.2.1 o_4.2.2.1 o_4.2.2.2.1 o_4.2.2.2.2 RM.unpaired RM.bestSound RM.bestWay RM.rows RM.rowN RM.sortOf RM.sizeOf RM.numbers RM.holdsWhat RM.holdsWhich RM.holdsMany RM.bodies RM.ran RM.actKind RM.actN RM.actA RM.isParted)) hF (ctX9_needs l D K jM aM (vM_s, RM.held, RM.aside, RM.before, RM.isHeld, RM.tape, RM.taped, vM_token, vM_from, vM_to, vM_value, vM_isWrong, RM.unpaired, RM.bestSound, RM.bestWay, RM.rows, RM.rowN, RM.sortOf, RM.sizeOf, RM.numbers, RM.holdsWhat, RM.holdsWhich, RM.holdsMany, RM.bodies, RM.ran, RM.actKind, RM.actN, RM.actA, RM.isParted) t1 o_4 ho_4 H.size) (cwV 1 hts gX9_pairHere_X9_needs rfl rfl rfl hdX9_needs ⟨Nat.le_of_ble_eq_true rfl, Nat.le_of_ble_eq_true rfl⟩) hK hP hD hS hA [0, 1, 2, 3, 4, 5, 6, 7, 8, 9, 10, 11, 12, 13, 14, 15] [] rfl rfl (by decide) (by decide) (by decide) [0, 1, 2, 3, 4, 5, 6, 7, 8, 9, 10, 11, 12, 13, 14, 15] rfl (by decide) (va_recv hK hP (ci := 9) (q0 := 0) rfl rfl) rfl hl.1 rfl (Nat.le_of_ble_eq_true rfl) dX9_pairHere_47 ⟨Nat.zero_le _, Nat.zero_le _⟩ (fun H locs hP hD hS => ?_)
    refine lv_aload_n hx hb dX9_pairHere_50 rfl (lv_at hl 0 rfl) ?_
    refine lv_aload_n hx hb dX9_pairHere_51 rfl (lv_at hl 0 rfl) ?_
    refine lv_bipush (v := 119) hx hb dX9_pairHere_52 (by decide) ?_
    refine lv_bipush (v := 105) hx hb dX9_pairHere_54 (by decide) ?_
    refine lv_bipush (v := 116) hx hb dX9_pairHere_56 (by decide) ?_
    refine lv_bipush (v := 104) hx hb dX9_pairHere_58 (by decide) ?_
    obtain ⟨o_5, ho_5, hf⟩ := ht_bn_ob hf
    refine ht_callVi (r := o_5) (rest := [.ref jM]) (As := [.int (119 : Int32), .int (105 : Int32), .int (116 : Int32), .int (104 : Int32)]) (wc := (wMo K jM aM vM_s RM.held RM.aside RM.before RM.isHeld RM.tape RM.taped o_4.1 o_4.2.1 o_4.2.2.1 o_4.2.2.2.1 o_4.2.2.2.2 RM.unpaired RM.bestSound RM.bestWay RM.rows RM.rowN RM.sortOf RM.sizeOf RM.numbers RM.holdsWhat RM.holdsWhich RM.holdsMany RM.bodies RM.ran RM.actKind RM.actN RM.actA RM.isParted)) (wr := []) (w1 := (wMo K jM aM vM_s RM.held RM.aside RM.before RM.isHeld RM.tape RM.taped o_4.1 o_4.2.1 o_4.2.2.1 o_4.2.2.2.1 o_4.2.2.2.2 RM.unpaired RM.bestSound RM.bestWay RM.rows RM.rowN RM.sortOf RM.sizeOf RM.numbers RM.holdsWhat RM.holdsWhich RM.holdsMany RM.bodies RM.ran RM.actKind RM.actN RM.actA RM.isParted)) (w2 := (wMo K jM aM vM_s RM.held RM.aside RM.before RM.isHeld RM.tape RM.taped o_4.1 o_4.2.1 o_4.2.2.1 o_4.2.2.2.1 o_4.2.2.2.2 RM.unpaired RM.bestSound RM.bestWay RM.rows RM.rowN RM.sortOf RM.sizeOf RM.numbers RM.holdsWhat RM.holdsWhich RM.holdsMany RM.bodies RM.ran RM.actKind RM.actN RM.actA RM.isParted)) hF (ctX9_isFour l D K jM aM (vM_s, RM.held, RM.aside, RM.before, RM.isHeld, RM.tape, RM.taped, o_4.1, o_4.2.1, o_4.2.2.1, o_4.2.2.2.1, o_4.2.2.2.2, RM.unpaired, RM.bestSound, RM.bestWay, RM.rows, RM.rowN, RM.sortOf, RM.sizeOf, RM.numbers, RM.holdsWhat, RM.holdsWhich, RM.holdsMany, RM.bodies, RM.ran, RM.actKind, RM.actN, RM.actA, RM.isParted) (119 : Int32) (105 : Int32) (116 : Int32) (104 : Int32) o_5 ho_5 H.size) (cwV 4 hts gX9_pairHere_X9_isFour rfl rfl rfl hdX9_isFour ⟨Nat.le_of_ble_eq_true rfl, Nat.le_of_ble_eq_true rfl⟩) hK hP hD hS hA [0, 1, 2, 3, 4, 5, 6, 7, 8, 9, 10, 11, 12, 13, 14, 15] [] rfl rfl (by decide) (by decide) (by decide) [0, 1, 2, 3, 4, 5, 6, 7, 8, 9, 10, 11, 12, 13, 14, 15] rfl (by decide) (va_recv hK hP (ci := 9) (q0 := 0) rfl rfl) rfl hl.1 rfl (Nat.le_of_ble_eq_true rfl) dX9_pairHere_60 ⟨Nat.zero_le _, Nat.zero_le _⟩ (fun H locs hP hD hS => ?_)
    obtain ⟨o_6, ho_6, hf⟩ := ht_bn_ob hf
    refine ht_callVv (rest := []) (As := [.int o_5]) (wc := (wMo K jM aM vM_s RM.held RM.aside RM.before RM.isHeld RM.tape RM.taped o_4.1 o_4.2.1 o_4.2.2.1 o_4.2.2.2.1 o_4.2.2.2.2 RM.unpaired RM.bestSound RM.bestWay RM.rows RM.rowN RM.sortOf RM.sizeOf RM.numbers RM.holdsWhat RM.holdsWhich RM.holdsMany RM.bodies RM.ran RM.actKind RM.actN RM.actA RM.isParted)) (wr := []) (w1 := (wMo K jM aM vM_s RM.held RM.aside RM.before RM.isHeld RM.tape RM.taped o_6.1 o_6.2.1 o_6.2.2.1 o_6.2.2.2.1 o_6.2.2.2.2 RM.unpaired RM.bestSound RM.bestWay RM.rows RM.rowN RM.sortOf RM.sizeOf RM.numbers RM.holdsWhat RM.holdsWhich RM.holdsMany RM.bodies RM.ran RM.actKind RM.actN RM.actA RM.isParted)) (w2 := (wMo K jM aM vM_s RM.held RM.aside RM.before RM.isHeld RM.tape RM.taped o_6.1 o_6.2.1 o_6.2.2.1 o_6.2.2.2.1 o_6.2.2.2.2 RM.unpaired RM.bestSound RM.bestWay RM.rows RM.rowN RM.sortOf RM.sizeOf RM.numbers RM.holdsWhat RM.holdsWhich RM.holdsMany RM.bodies RM.ran RM.actKind RM.actN RM.actA RM.isParted)) hF (ctX9_needs l D K jM aM (vM_s, RM.held, RM.aside, RM.before, RM.isHeld, RM.tape, RM.taped, o_4.1, o_4.2.1, o_4.2.2.1, o_4.2.2.2.1, o_4.2.2.2.2, RM.unpaired, RM.bestSound, RM.bestWay, RM.rows, RM.rowN, RM.sortOf, RM.sizeOf, RM.numbers, RM.holdsWhat, RM.holdsWhich, RM.holdsMany, RM.bodies, RM.ran, RM.actKind, RM.actN, RM.actA, RM.isParted) o_5 o_6 ho_6 H.size) (cwV 1 hts gX9_pairHere_X9_needs rfl rfl rfl hdX9_needs ⟨Nat.le_of_ble_eq_true rfl, Nat.le_of_ble_eq_true rfl⟩) hK hP hD hS hA [0, 1, 2, 3, 4, 5, 6, 7, 8, 9, 10, 11, 12, 13, 14, 15] [] rfl rfl (by decide) (by decide) (by decide) [0, 1, 2, 3, 4, 5, 6, 7, 8, 9, 10, 11, 12, 13, 14, 15] rfl (by decide) (va_recv hK hP (ci := 9) (q0 := 0) rfl rfl) rfl hl.1 rfl (Nat.le_of_ble_eq_true rfl) dX9_pairHere_63 ⟨Nat.zero_le _, Nat.zero_le _⟩ (fun H locs hP hD hS => ?_)
    refine lv_aload_n hx hb dX9_pairHere_66 rfl (lv_at hl 0 rfl) ?_
    refine va_get (D := D) (ci := 9) (v := .int o_6.2.2.2.1) (C := RX9) (T := TX9) (N := 29) hx hb hts iw9 hown hK hP 0 rfl rfl 10 (by decide) kw2 (fun _ h9 => h9) rfl dX9_pairHere_67 ?_
    obtain ⟨x2_7, ex2_7, hf⟩ := ht_nm_ob hf
    rw [← ex2_7]
    refine lv_istore_n (lv' := [(2, .int x2_7), (0, .ref jM), (1, .int x1)]) hx hb dX9_pairHere_70 rfl hl (by decide) rfl (fun ls hl => ?_)
    refine lv_aload_n hx hb dX9_pairHere_71 rfl (lv_at hl 1 rfl) ?_
    refine lv_aload_n hx hb dX9_pairHere_72 rfl (lv_at hl 1 rfl) ?_
    refine va_get (D := D) (ci := 9) (v := .int o_6.1) (C := RX9) (T := TX9) (N := 29) hx hb hts iw9 hown hK hP 0 rfl rfl 7 (by decide) kw3 (fun _ h9 => h9) rfl dX9_pairHere_73 ?_
    refine lv_iconst (v := 2) hx hb dX9_pairHere_76 (by decide) ?_
    refine lv_icmp_ne (tgt := 116) hx hb dX9_pairHere_77 (by decide) (fun c_8 => ?_) (fun c_8 => ?_)
    · replace hf := ht_f c_8 hf
      exact b116  x1 x2_7 vM_s o_6.1 o_6.2.1 o_6.2.2.1 o_6.2.2.2.1 o_6.2.2.2.2 _ _ _ hf hP hD hS (lv_sub hl [1, 2, 0] rfl)
    · replace hf := ht_t c_8 hf
      refine lv_aload_n hx hb dX9_pairHere_80 rfl (lv_at hl 1 rfl) ?_
      refine va_get (D := D) (ci := 9) (v := .int o_6.2.2.1) (C := RX9) (T := TX9) (N := 29) hx hb hts iw9 hown hK hP 0 rfl rfl 9 (by decide) kw4 (fun _ h9 => h9) rfl dX9_pairHere_81 ?_
      refine lv_aload_n hx hb dX9_pairHere_84 rfl (lv_at hl 1 rfl) ?_
      refine va_get (D := D) (ci := 9) (v := .int o_6.2.1) (C := RX9) (T := TX9) (N := 29) hx hb hts iw9 hown hK hP 0 rfl rfl 8 (by decide) kw5 (fun _ h9 => h9) rfl dX9_pairHere_85 ?_
      refine lv_isub hx hb dX9_pairHere_88 ?_
      refine lv_iconst (v := 3) hx hb dX9_pairHere_89 (by decide) ?_
      refine lv_icmp_gt (tgt := 116) hx hb dX9_pairHere_90 (by decide) (fun c_9 => ?_) (fun c_9 => ?_)
      · replace hf := ht_t c_9 hf
        exact b116  x1 x2_7 vM_s o_6.1 o_6.2.1 o_6.2.2.1 o_6.2.2.2.1 o_6.2.2.2.2 _ _ _ hf hP hD hS (lv_sub hl [1, 2, 0] rfl)
      · replace hf := ht_f c_9 hf
        refine lv_aload_n hx hb dX9_pairHere_93 rfl (lv_at hl 1 rfl) ?_
        refine lv_aload_n hx hb dX9_pairHere_94 rfl (lv_at hl 1 rfl) ?_
        refine va_get (D := D) (ci := 9) (v := .int o_6.2.2.2.1) (C := RX9) (T := TX9) (N := 29) hx hb hts iw9 hown hK hP 0 rfl rfl 10 (by decide) kw2 (fun _ h9 => h9) rfl dX9_pairHere_95 ?_
        obtain ⟨o_10, ho_10, hf⟩ := ht_bn_ob hf
        refine ht_callVi (r := o_10) (rest := [.ref jM]) (As := [.int o_6.2.2.2.1]) (wc := (wMo K jM aM vM_s RM.held RM.aside RM.before RM.isHeld RM.tape RM.taped o_6.1 o_6.2.1 o_6.2.2.1 o_6.2.2.2.1 o_6.2.2.2.2 RM.unpaired RM.bestSound RM.bestWay RM.rows RM.rowN RM.sortOf RM.sizeOf RM.numbers RM.holdsWhat RM.holdsWhich RM.holdsMany RM.bodies RM.ran RM.actKind RM.actN RM.actA RM.isParted)) (wr := []) (w1 := (wMo K jM aM vM_s RM.held RM.aside RM.before RM.isHeld RM.tape RM.taped o_6.1 o_6.2.1 o_6.2.2.1 o_6.2.2.2.1 o_6.2.2.2.2 RM.unpaired RM.bestSound RM.bestWay RM.rows RM.rowN RM.sortOf RM.sizeOf RM.numbers RM.holdsWhat RM.holdsWhich RM.holdsMany RM.bodies RM.ran RM.actKind RM.actN RM.actA RM.isParted)) (w2 := (wMo K jM aM vM_s RM.held RM.aside RM.before RM.isHeld RM.tape RM.taped o_6.1 o_6.2.1 o_6.2.2.1 o_6.2.2.2.1 o_6.2.2.2.2 RM.unpaired RM.bestSound RM.bestWay RM.rows RM.rowN RM.sortOf RM.sizeOf RM.numbers RM.holdsWhat RM.holdsWhich RM.holdsMany RM.bodies RM.ran RM.actKind RM.actN RM.actA RM.isParted)) hF (ctX9_isOne l D K jM aM (vM_s, RM.held, RM.aside, RM.before, RM.isHeld, RM.tape, RM.taped, o_6.1, o_6.2.1, o_6.2.2.1, o_6.2.2.2.1, o_6.2.2.2.2, RM.unpaired, RM.bestSound, RM.bestWay, RM.rows, RM.rowN, RM.sortOf, RM.sizeOf, RM.numbers, RM.holdsWhat, RM.holdsWhich, RM.holdsMany, RM.bodies, RM.ran, RM.actKind, RM.actN, RM.actA, RM.isParted) o_6.2.2.2.1 o_10 ho_10 H.size) (cwV 1 hts gX9_pairHere_X9_isOne rfl rfl rfl hdX9_isOne ⟨Nat.le_of_ble_eq_true rfl, Nat.le_of_ble_eq_true rfl⟩) hK hP hD hS hA [0, 1, 2, 3, 4, 5, 6, 7, 8, 9, 10, 11, 12, 13, 14, 15] [] rfl rfl (by decide) (by decide) (by decide) [0, 1, 2, 3, 4, 5, 6, 7, 8, 9, 10, 11, 12, 13, 14, 15] rfl (by decide) (va_recv hK hP (ci := 9) (q0 := 0) rfl rfl) rfl hl.1 rfl (Nat.le_of_ble_eq_true rfl) dX9_pairHere_98 ⟨Nat.zero_le _, Nat.zero_le _⟩ (fun H locs hP hD hS => ?_)
        refine lv_if_eq (tgt := 116) hx hb dX9_pairHere_101 (by decide) (fun c_11 => ?_) (fun c_11 => ?_)
        · replace hf := ht_t c_11 hf
          exact b116  x1 x2_7 vM_s o_6.1 o_6.2.1 o_6.2.2.1 o_6.2.2.2.1 o_6.2.2.2.2 _ _ _ hf hP hD hS (lv_sub hl [1, 2, 0] rfl)
        · replace hf := ht_f c_11 hf
          refine lv_aload_n hx hb dX9_pairHere_104 rfl (lv_at hl 1 rfl) ?_
          refine va_get (D := D) (ci := 9) (v := .int o_6.2.2.2.1) (C := RX9) (T := TX9) (N := 29) hx hb hts iw9 hown hK hP 0 rfl rfl 10 (by decide) kw2 (fun _ h9 => h9) rfl dX9_pairHere_105 ?_
          refine lv_iload_n hx hb dX9_pairHere_108 rfl (lv_at hl 2 rfl) ?_
          refine lv_icmp_eq (tgt := 116) hx hb dX9_pairHere_109 (by decide) (fun c_12 => ?_) (fun c_12 => ?_)
          · replace hf := ht_t c_12 hf
            exact b116  x1 x2_7 vM_s o_6.1 o_6.2.1 o_6.2.2.1 o_6.2.2.2.1 o_6.2.2.2.2 _ _ _ hf hP hD hS (lv_sub hl [1, 2, 0] rfl)
          · replace hf := ht_f c_12 hf
            refine lv_iconst (v := 1) hx hb dX9_pairHere_112 (by decide) ?_
            refine lv_goto (tgt := 117) hx hb dX9_pairHere_113 (by decide) ?_
            exact b117  x1 x2_7 (1 : Int32) vM_s o_6.1 o_6.2.1 o_6.2.2.1 o_6.2.2.2.1 o_6.2.2.2.2 _ _ _ hf hP hD hS (lv_sub hl [1, 2, 0] rfl)
  have b46 : ∀ (x1 : Int32) (vM_s : AI) (vM_token : Int32) (vM_from : Int32) (vM_to : Int32) (vM_value : Int32) (vM_isWrong : Int32) (H : Heap) (locs : List Loc) (ls : Array Slot), fX9_pairHere_b46 RM x1 vM_s vM_token vM_from vM_to vM_value vM_isWrong = some o → va_P D vwCl (wMo K jM aM vM_s RM.held RM.aside RM.before RM.isHeld RM.tape RM.taped vM_token vM_from vM_to vM_value vM_isWrong RM.unpaired RM.bestSound RM.bestWay RM.rows RM.rowN RM.sortOf RM.sizeOf RM.numbers RM.holdsWhat RM.holdsWhich RM.holdsMany RM.bodies RM.ran RM.actKind RM.actN RM.actA RM.isParted) H → va_D A (wMo K jM aM vM_s RM.held RM.aside RM.before RM.isHeld RM.tape RM.taped vM_token vM_from vM_to vM_value vM_isWrong RM.unpaired RM.bestSound RM.bestWay RM.rows RM.rowN RM.sortOf RM.sizeOf RM.numbers RM.holdsWhat RM.holdsWhich RM.holdsMany RM.bodies RM.ran RM.actKind RM.actN RM.actA RM.isParted) → va_S A s.heap H locs → lv_has ls 3 [(0, .ref jM), (1, .int x1)] → W p l e (headSpec wsX9_pairHere rmX9_pairHere).room s m ([.ref jM] : List Value).toArray below meth c H locs 0 0 Q (F0 m 46 ls [.ref jM]) := by
    intro x1 vM_s vM_token vM_from vM_to vM_value vM_isWrong H locs ls hf hP hD hS hl
    delta fX9_pairHere_b46 at hf
    refine lv_iconst (v := 0) hx hb dX9_pairHere_46 (by decide) ?_
    exact b47  x1 (0 : Int32) vM_s vM_token vM_from vM_to vM_value vM_isWrong _ _ _ hf hP hD hS hl
  delta fX9_pairHere at hf
  refine lv_aload_n hx hb dX9_pairHere_0 rfl (lv_at hl 0 rfl) ?_
  obtain ⟨o_13, ho_13, hf⟩ := ht_bn_ob hf
  refine ht_callVv (rest := []) (As := []) (wc := (wMo K jM aM RM.s RM.held RM.aside RM.before RM.isHeld RM.tape RM.taped RM.token RM.frm RM.to RM.value RM.isWrong RM.unpaired RM.bestSound RM.bestWay RM.rows RM.rowN RM.sortOf RM.sizeOf RM.numbers RM.holdsWhat RM.holdsWhich RM.holdsMany RM.bodies RM.ran RM.actKind RM.actN RM.actA RM.isParted)) (wr := []) (w1 := (wMo K jM aM RM.s RM.held RM.aside RM.before RM.isHeld RM.tape RM.taped o_13.1 o_13.2.1 o_13.2.2.1 o_13.2.2.2 RM.isWrong RM.unpaired RM.bestSound RM.bestWay RM.rows RM.rowN RM.sortOf RM.sizeOf RM.numbers RM.holdsWhat RM.holdsWhich RM.holdsMany RM.bodies RM.ran RM.actKind RM.actN RM.actA RM.isParted)) (w2 := (wMo K jM aM RM.s RM.held RM.aside RM.before RM.isHeld RM.tape RM.taped o_13.1 o_13.2.1 o_13.2.2.1 o_13.2.2.2 RM.isWrong RM.unpaired RM.bestSound RM.bestWay RM.rows RM.rowN RM.sortOf RM.sizeOf RM.numbers RM.holdsWhat RM.holdsWhich RM.holdsMany RM.bodies RM.ran RM.actKind RM.actN RM.actA RM.isParted)) hF (ctX9_nextToken l D K jM aM RM o_13 ho_13 H.size) (cwV 0 hts gX9_pairHere_X9_nextToken rfl rfl rfl hdX9_nextToken ⟨Nat.le_of_ble_eq_true rfl, Nat.le_of_ble_eq_true rfl⟩) hK hP hD hS hA [0, 1, 2, 3, 4, 5, 6, 7, 8, 9, 10, 11, 12, 13, 14, 15] [] rfl rfl (by decide) (by decide) (by decide) [0, 1, 2, 3, 4, 5, 6, 7, 8, 9, 10, 11, 12, 13, 14, 15] rfl (by decide) (va_recv hK hP (ci := 9) (q0 := 0) rfl rfl) rfl hl.1 rfl (Nat.le_of_ble_eq_true rfl) dX9_pairHere_1 ⟨Nat.zero_le _, Nat.zero_le _⟩ (fun H locs hP hD hS => ?_)
  refine lv_aload_n hx hb dX9_pairHere_4 rfl (lv_at hl 0 rfl) ?_
  refine va_get (D := D) (ci := 9) (v := .int o_13.2.2.2) (C := RX9) (T := TX9) (N := 29) hx hb hts iw9 hown hK hP 0 rfl rfl 10 (by decide) kw2 (fun _ h9 => h9) rfl dX9_pairHere_5 ?_
  obtain ⟨x1_14, ex1_14, hf⟩ := ht_nm_ob hf
  rw [← ex1_14]
  refine lv_istore_n (lv' := [(1, .int x1_14), (0, .ref jM)]) hx hb dX9_pairHere_8 rfl hl (by decide) rfl (fun ls hl => ?_)
  refine lv_aload_n hx hb dX9_pairHere_9 rfl (lv_at hl 1 rfl) ?_
  refine lv_aload_n hx hb dX9_pairHere_10 rfl (lv_at hl 1 rfl) ?_
  refine va_get (D := D) (ci := 9) (v := .int o_13.1) (C := RX9) (T := TX9) (N := 29) hx hb hts iw9 hown hK hP 0 rfl rfl 7 (by decide) kw3 (fun _ h9 => h9) rfl dX9_pairHere_11 ?_
  refine lv_iconst (v := 2) hx hb dX9_pairHere_14 (by decide) ?_
  refine lv_icmp_ne (tgt := 46) hx hb dX9_pairHere_15 (by decide) (fun c_15 => ?_) (fun c_15 => ?_)
  · replace hf := ht_f c_15 hf
    exact b46  x1_14 RM.s o_13.1 o_13.2.1 o_13.2.2.1 o_13.2.2.2 RM.isWrong _ _ _ hf hP hD hS (lv_sub hl [1, 0] rfl)
  · replace hf := ht_t c_15 hf
    refine lv_aload_n hx hb dX9_pairHere_18 rfl (lv_at hl 1 rfl) ?_
    refine va_get (D := D) (ci := 9) (v := .int o_13.2.2.1) (C := RX9) (T := TX9) (N := 29) hx hb hts iw9 hown hK hP 0 rfl rfl 9 (by decide) kw4 (fun _ h9 => h9) rfl dX9_pairHere_19 ?_
    refine lv_aload_n hx hb dX9_pairHere_22 rfl (lv_at hl 1 rfl) ?_
    refine va_get (D := D) (ci := 9) (v := .int o_13.2.1) (C := RX9) (T := TX9) (N := 29) hx hb hts iw9 hown hK hP 0 rfl rfl 8 (by decide) kw5 (fun _ h9 => h9) rfl dX9_pairHere_23 ?_
    refine lv_isub hx hb dX9_pairHere_26 ?_
    refine lv_iconst (v := 3) hx hb dX9_pairHere_27 (by decide) ?_
    refine lv_icmp_gt (tgt := 46) hx hb dX9_pairHere_28 (by decide) (fun c_16 => ?_) (fun c_16 => ?_)
    · replace hf := ht_t c_16 hf
      exact b46  x1_14 RM.s o_13.1 o_13.2.1 o_13.2.2.1 o_13.2.2.2 RM.isWrong _ _ _ hf hP hD hS (lv_sub hl [1, 0] rfl)
    · replace hf := ht_f c_16 hf
      refine lv_aload_n hx hb dX9_pairHere_31 rfl (lv_at hl 1 rfl) ?_
      refine lv_aload_n hx hb dX9_pairHere_32 rfl (lv_at hl 1 rfl) ?_
      refine va_get (D := D) (ci := 9) (v := .int o_13.2.2.2) (C := RX9) (T := TX9) (N := 29) hx hb hts iw9 hown hK hP 0 rfl rfl 10 (by decide) kw2 (fun _ h9 => h9) rfl dX9_pairHere_33 ?_
      obtain ⟨o_17, ho_17, hf⟩ := ht_bn_ob hf
      refine ht_callVi (r := o_17) (rest := [.ref jM]) (As := [.int o_13.2.2.2]) (wc := (wMo K jM aM RM.s RM.held RM.aside RM.before RM.isHeld RM.tape RM.taped o_13.1 o_13.2.1 o_13.2.2.1 o_13.2.2.2 RM.isWrong RM.unpaired RM.bestSound RM.bestWay RM.rows RM.rowN RM.sortOf RM.sizeOf RM.numbers RM.holdsWhat RM.holdsWhich RM.holdsMany RM.bodies RM.ran RM.actKind RM.actN RM.actA RM.isParted)) (wr := []) (w1 := (wMo K jM aM RM.s RM.held RM.aside RM.before RM.isHeld RM.tape RM.taped o_13.1 o_13.2.1 o_13.2.2.1 o_13.2.2.2 RM.isWrong RM.unpaired RM.bestSound RM.bestWay RM.rows RM.rowN RM.sortOf RM.sizeOf RM.numbers RM.holdsWhat RM.holdsWhich RM.holdsMany RM.bodies RM.ran RM.actKind RM.actN RM.actA RM.isParted)) (w2 := (wMo K jM aM RM.s RM.held RM.aside RM.before RM.isHeld RM.tape RM.taped o_13.1 o_13.2.1 o_13.2.2.1 o_13.2.2.2 RM.isWrong RM.unpaired RM.bestSound RM.bestWay RM.rows RM.rowN RM.sortOf RM.sizeOf RM.numbers RM.holdsWhat RM.holdsWhich RM.holdsMany RM.bodies RM.ran RM.actKind RM.actN RM.actA RM.isParted)) hF (ctX9_isOne l D K jM aM (RM.s, RM.held, RM.aside, RM.before, RM.isHeld, RM.tape, RM.taped, o_13.1, o_13.2.1, o_13.2.2.1, o_13.2.2.2, RM.isWrong, RM.unpaired, RM.bestSound, RM.bestWay, RM.rows, RM.rowN, RM.sortOf, RM.sizeOf, RM.numbers, RM.holdsWhat, RM.holdsWhich, RM.holdsMany, RM.bodies, RM.ran, RM.actKind, RM.actN, RM.actA, RM.isParted) o_13.2.2.2 o_17 ho_17 H.size) (cwV 1 hts gX9_pairHere_X9_isOne rfl rfl rfl hdX9_isOne ⟨Nat.le_of_ble_eq_true rfl, Nat.le_of_ble_eq_true rfl⟩) hK hP hD hS hA [0, 1, 2, 3, 4, 5, 6, 7, 8, 9, 10, 11, 12, 13, 14, 15] [] rfl rfl (by decide) (by decide) (by decide) [0, 1, 2, 3, 4, 5, 6, 7, 8, 9, 10, 11, 12, 13, 14, 15] rfl (by decide) (va_recv hK hP (ci := 9) (q0 := 0) rfl rfl) rfl hl.1 rfl (Nat.le_of_ble_eq_true rfl) dX9_pairHere_36 ⟨Nat.zero_le _, Nat.zero_le _⟩ (fun H locs hP hD hS => ?_)
      refine lv_if_eq (tgt := 46) hx hb dX9_pairHere_39 (by decide) (fun c_18 => ?_) (fun c_18 => ?_)
      · replace hf := ht_t c_18 hf
        exact b46  x1_14 RM.s o_13.1 o_13.2.1 o_13.2.2.1 o_13.2.2.2 RM.isWrong _ _ _ hf hP hD hS (lv_sub hl [1, 0] rfl)
      · replace hf := ht_f c_18 hf
        refine lv_iconst (v := 1) hx hb dX9_pairHere_42 (by decide) ?_
        refine lv_goto (tgt := 47) hx hb dX9_pairHere_43 (by decide) ?_
        exact b47  x1_14 (1 : Int32) RM.s o_13.1 o_13.2.1 o_13.2.2.1 o_13.2.2.2 RM.isWrong _ _ _ hf hP hD hS (lv_sub hl [1, 0] rfl)
abbrev rmX9_lawHere : Room := { frames := 3, cells := 0, slots := 0, locals := 71 }
theorem hdX9_lawHere : yX9_lawHere.cls = RX9 ∧ yX9_lawHere.cls ≠ "java/lang/invoke/MethodHandle" ∧ yX9_lawHere.cls ≠ "java/lang/invoke/VarHandle" ∧ (parseMethodDescriptor yX9_lawHere.desc).map (fun d => d.parameters.length) = some 0 := by decide +kernel
def fX9_lawHere_b71 (RM : ModV) : Option Int32 := ht_bn (fX9_isName RM (3 : Int32) (108 : Int32) (111 : Int32) (116 : Int32) (116 : Int32)) (fun o_1 => if o_1 = 0 then (some (-1 : Int32)) else (some (8 : Int32)))
def fX9_lawHere (RM : ModV) : Option Int32 := ht_bn (fX9_isFour RM (108 : Int32) (111 : Int32) (117 : Int32) (100 : Int32)) (fun o_3 => if o_3 = 0 then (ht_bn (fX9_isFive RM (113 : Int32) (117 : Int32) (105 : Int32) (101 : Int32) (116 : Int32)) (fun o_5 => if o_5 = 0 then (ht_bn (fX9_isName RM (6 : Int32) (103 : Int32) (114 : Int32) (111 : Int32) (104 : Int32)) (fun o_7 => if o_7 = 0 then (fX9_lawHere_b71 RM ) else (ht_bn (fX9_isSame RM (2 : Int32) (111 : Int32) (119 : Int32) (116 : Int32)) (fun o_9 => if o_9 = 0 then (fX9_lawHere_b71 RM ) else (some (7 : Int32)))))) else (some (6 : Int32)))) else (some (5 : Int32)))
set_option maxHeartbeats 1000000 in
set_option maxRecDepth 100000 in
theorem ctX9_lawHere (l : Launch) (D : va_G) (K : Nat → ClassId) (jM : Nat) (aM : Nat → Nat) (RM : ModV) (o : Int32) (hf : fX9_lawHere RM = some o) (sz : Nat) : Met l yX9_lawHere wsX9_lawHere rmX9_lawHere (ht_Pre D K [.ref jM] (wMo K jM aM RM.s RM.held RM.aside RM.before RM.isHeld RM.tape RM.taped RM.token RM.frm RM.to RM.value RM.isWrong RM.unpaired RM.bestSound RM.bestWay RM.rows RM.rowN RM.sortOf RM.sizeOf RM.numbers RM.holdsWhat RM.holdsWhich RM.holdsMany RM.bodies RM.ran RM.actKind RM.actN RM.actA RM.isParted) sz) (ht_Qi D K (wMo K jM aM RM.s RM.held RM.aside RM.before RM.isHeld RM.tape RM.taped RM.token RM.frm RM.to RM.value RM.isWrong RM.unpaired RM.bestSound RM.bestWay RM.rows RM.rowN RM.sortOf RM.sizeOf RM.numbers RM.holdsWhat RM.holdsWhich RM.holdsMany RM.bodies RM.ran RM.actKind RM.actN RM.actA RM.isParted) o (va_A (wMo K jM aM RM.s RM.held RM.aside RM.before RM.isHeld RM.tape RM.taped RM.token RM.frm RM.to RM.value RM.isWrong RM.unpaired RM.bestSound RM.bestWay RM.rows RM.rowN RM.sortOf RM.sizeOf RM.numbers RM.holdsWhat RM.holdsWhich RM.holdsMany RM.bodies RM.ran RM.actKind RM.actN RM.actA RM.isParted) sz)) 0 0 (va_A (wMo K jM aM RM.s RM.held RM.aside RM.before RM.isHeld RM.tape RM.taped RM.token RM.frm RM.to RM.value RM.isWrong RM.unpaired RM.bestSound RM.bestWay RM.rows RM.rowN RM.sortOf RM.sizeOf RM.numbers RM.holdsWhat RM.holdsWhich RM.holdsMany RM.bodies RM.ran RM.actKind RM.actN RM.actA RM.isParted) sz) := by
  refine ht_enter (Qf := ht_Qi D K (wMo K jM aM RM.s RM.held RM.aside RM.before RM.isHeld RM.tape RM.taped RM.token RM.frm RM.to RM.value RM.isWrong RM.unpaired RM.bestSound RM.bestWay RM.rows RM.rowN RM.sortOf RM.sizeOf RM.numbers RM.holdsWhat RM.holdsWhich RM.holdsMany RM.bodies RM.ran RM.actKind RM.actN RM.actA RM.isParted) o) (cc := cX9_lawHere) (maxL := 1) (rt := (some .int)) (by decide) rfl (Nat.le_of_ble_eq_true rfl) ?_ sz
  intro p e s m below meth c A Q H locs ls hQ hx hb hr hlk hmn hml hown hts hA hK hP hD hS hl
  have hown : s.vm.findClass RX9 = some m.cls := hown
  have hF : CallFix p m c cX9_lawHere 1 s ([.ref jM] : List Value).toArray wsX9_lawHere RX9 := ⟨hx, hb, hml, hown, hts⟩
  have hl : lv_has ls 1 [(0, .ref jM)] := hl
  have b71 : ∀ (H : Heap) (locs : List Loc) (ls : Array Slot), fX9_lawHere_b71 RM  = some o → va_P D vwCl (wMo K jM aM RM.s RM.held RM.aside RM.before RM.isHeld RM.tape RM.taped RM.token RM.frm RM.to RM.value RM.isWrong RM.unpaired RM.bestSound RM.bestWay RM.rows RM.rowN RM.sortOf RM.sizeOf RM.numbers RM.holdsWhat RM.holdsWhich RM.holdsMany RM.bodies RM.ran RM.actKind RM.actN RM.actA RM.isParted) H → va_D A (wMo K jM aM RM.s RM.held RM.aside RM.before RM.isHeld RM.tape RM.taped RM.token RM.frm RM.to RM.value RM.isWrong RM.unpaired RM.bestSound RM.bestWay RM.rows RM.rowN RM.sortOf RM.sizeOf RM.numbers RM.holdsWhat RM.holdsWhich RM.holdsMany RM.bodies RM.ran RM.actKind RM.actN RM.actA RM.isParted) → va_S A s.heap H locs → lv_has ls 1 [(0, .ref jM)] → W p l e (headSpec wsX9_lawHere rmX9_lawHere).room s m ([.ref jM] : List Value).toArray below meth c H locs 0 0 Q (F0 m 71 ls []) := by
    intro  H locs ls hf hP hD hS hl
    delta fX9_lawHere_b71 at hf
    refine lv_aload_n hx hb dX9_lawHere_71 rfl (lv_at hl 0 rfl) ?_
    refine lv_iconst (v := 3) hx hb dX9_lawHere_72 (by decide) ?_
    refine lv_bipush (v := 108) hx hb dX9_lawHere_73 (by decide) ?_
    refine lv_bipush (v := 111) hx hb dX9_lawHere_75 (by decide) ?_
    refine lv_bipush (v := 116) hx hb dX9_lawHere_77 (by decide) ?_
    refine lv_bipush (v := 116) hx hb dX9_lawHere_79 (by decide) ?_
    obtain ⟨o_1, ho_1, hf⟩ := ht_bn_ob hf
    refine ht_callVi (r := o_1) (rest := []) (As := [.int (3 : Int32), .int (108 : Int32), .int (111 : Int32), .int (116 : Int32), .int (116 : Int32)]) (wc := (wMo K jM aM RM.s RM.held RM.aside RM.before RM.isHeld RM.tape RM.taped RM.token RM.frm RM.to RM.value RM.isWrong RM.unpaired RM.bestSound RM.bestWay RM.rows RM.rowN RM.sortOf RM.sizeOf RM.numbers RM.holdsWhat RM.holdsWhich RM.holdsMany RM.bodies RM.ran RM.actKind RM.actN RM.actA RM.isParted)) (wr := []) (w1 := (wMo K jM aM RM.s RM.held RM.aside RM.before RM.isHeld RM.tape RM.taped RM.token RM.frm RM.to RM.value RM.isWrong RM.unpaired RM.bestSound RM.bestWay RM.rows RM.rowN RM.sortOf RM.sizeOf RM.numbers RM.holdsWhat RM.holdsWhich RM.holdsMany RM.bodies RM.ran RM.actKind RM.actN RM.actA RM.isParted)) (w2 := (wMo K jM aM RM.s RM.held RM.aside RM.before RM.isHeld RM.tape RM.taped RM.token RM.frm RM.to RM.value RM.isWrong RM.unpaired RM.bestSound RM.bestWay RM.rows RM.rowN RM.sortOf RM.sizeOf RM.numbers RM.holdsWhat RM.holdsWhich RM.holdsMany RM.bodies RM.ran RM.actKind RM.actN RM.actA RM.isParted)) hF (ctX9_isName l D K jM aM RM (3 : Int32) (108 : Int32) (111 : Int32) (116 : Int32) (116 : Int32) o_1 ho_1 H.size) (cwV 5 hts gX9_lawHere_X9_isName rfl rfl rfl hdX9_isName ⟨Nat.le_of_ble_eq_true rfl, Nat.le_of_ble_eq_true rfl⟩) hK hP hD hS hA [0, 1, 2, 3, 4, 5, 6, 7, 8, 9, 10, 11, 12, 13, 14, 15] [] rfl rfl (by decide) (by decide) (by decide) [0, 1, 2, 3, 4, 5, 6, 7, 8, 9, 10, 11, 12, 13, 14, 15] rfl (by decide) (va_recv hK hP (ci := 9) (q0 := 0) rfl rfl) rfl hl.1 rfl (Nat.le_of_ble_eq_true rfl) dX9_lawHere_81 ⟨Nat.zero_le _, Nat.zero_le _⟩ (fun H locs hP hD hS => ?_)
    refine lv_if_eq (tgt := 92) hx hb dX9_lawHere_84 (by decide) (fun c_2 => ?_) (fun c_2 => ?_)
    · replace hf := ht_t c_2 hf
      refine lv_iconst (v := -1) hx hb dX9_lawHere_92 (by decide) ?_
      have ho := Option.some.inj hf
      subst ho; subst hQ
      exact ht_iret hx hb hr hlk rfl hK hP hD hS dX9_lawHere_93
    · replace hf := ht_f c_2 hf
      refine lv_bipush (v := 8) hx hb dX9_lawHere_87 (by decide) ?_
      refine lv_goto (tgt := 93) hx hb dX9_lawHere_89 (by decide) ?_
      have ho := Option.some.inj hf
      subst ho; subst hQ
      exact ht_iret hx hb hr hlk rfl hK hP hD hS dX9_lawHere_93
  delta fX9_lawHere at hf
  refine lv_aload_n hx hb dX9_lawHere_0 rfl (lv_at hl 0 rfl) ?_
  refine lv_bipush (v := 108) hx hb dX9_lawHere_1 (by decide) ?_
  refine lv_bipush (v := 111) hx hb dX9_lawHere_3 (by decide) ?_
  refine lv_bipush (v := 117) hx hb dX9_lawHere_5 (by decide) ?_
  refine lv_bipush (v := 100) hx hb dX9_lawHere_7 (by decide) ?_
  obtain ⟨o_3, ho_3, hf⟩ := ht_bn_ob hf
  refine ht_callVi (r := o_3) (rest := []) (As := [.int (108 : Int32), .int (111 : Int32), .int (117 : Int32), .int (100 : Int32)]) (wc := (wMo K jM aM RM.s RM.held RM.aside RM.before RM.isHeld RM.tape RM.taped RM.token RM.frm RM.to RM.value RM.isWrong RM.unpaired RM.bestSound RM.bestWay RM.rows RM.rowN RM.sortOf RM.sizeOf RM.numbers RM.holdsWhat RM.holdsWhich RM.holdsMany RM.bodies RM.ran RM.actKind RM.actN RM.actA RM.isParted)) (wr := []) (w1 := (wMo K jM aM RM.s RM.held RM.aside RM.before RM.isHeld RM.tape RM.taped RM.token RM.frm RM.to RM.value RM.isWrong RM.unpaired RM.bestSound RM.bestWay RM.rows RM.rowN RM.sortOf RM.sizeOf RM.numbers RM.holdsWhat RM.holdsWhich RM.holdsMany RM.bodies RM.ran RM.actKind RM.actN RM.actA RM.isParted)) (w2 := (wMo K jM aM RM.s RM.held RM.aside RM.before RM.isHeld RM.tape RM.taped RM.token RM.frm RM.to RM.value RM.isWrong RM.unpaired RM.bestSound RM.bestWay RM.rows RM.rowN RM.sortOf RM.sizeOf RM.numbers RM.holdsWhat RM.holdsWhich RM.holdsMany RM.bodies RM.ran RM.actKind RM.actN RM.actA RM.isParted)) hF (ctX9_isFour l D K jM aM RM (108 : Int32) (111 : Int32) (117 : Int32) (100 : Int32) o_3 ho_3 H.size) (cwV 4 hts gX9_lawHere_X9_isFour rfl rfl rfl hdX9_isFour ⟨Nat.le_of_ble_eq_true rfl, Nat.le_of_ble_eq_true rfl⟩) hK hP hD hS hA [0, 1, 2, 3, 4, 5, 6, 7, 8, 9, 10, 11, 12, 13, 14, 15] [] rfl rfl (by decide) (by decide) (by decide) [0, 1, 2, 3, 4, 5, 6, 7, 8, 9, 10, 11, 12, 13, 14, 15] rfl (by decide) (va_recv hK hP (ci := 9) (q0 := 0) rfl rfl) rfl hl.1 rfl (Nat.le_of_ble_eq_true rfl) dX9_lawHere_9 ⟨Nat.zero_le _, Nat.zero_le _⟩ (fun H locs hP hD hS => ?_)
  refine lv_if_eq (tgt := 17) hx hb dX9_lawHere_12 (by decide) (fun c_4 => ?_) (fun c_4 => ?_)
  · replace hf := ht_t c_4 hf
    refine lv_aload_n hx hb dX9_lawHere_17 rfl (lv_at hl 0 rfl) ?_
    refine lv_bipush (v := 113) hx hb dX9_lawHere_18 (by decide) ?_
    refine lv_bipush (v := 117) hx hb dX9_lawHere_20 (by decide) ?_
    refine lv_bipush (v := 105) hx hb dX9_lawHere_22 (by decide) ?_
    refine lv_bipush (v := 101) hx hb dX9_lawHere_24 (by decide) ?_
    refine lv_bipush (v := 116) hx hb dX9_lawHere_26 (by decide) ?_
    obtain ⟨o_5, ho_5, hf⟩ := ht_bn_ob hf
    refine ht_callVi (r := o_5) (rest := []) (As := [.int (113 : Int32), .int (117 : Int32), .int (105 : Int32), .int (101 : Int32), .int (116 : Int32)]) (wc := (wMo K jM aM RM.s RM.held RM.aside RM.before RM.isHeld RM.tape RM.taped RM.token RM.frm RM.to RM.value RM.isWrong RM.unpaired RM.bestSound RM.bestWay RM.rows RM.rowN RM.sortOf RM.sizeOf RM.numbers RM.holdsWhat RM.holdsWhich RM.holdsMany RM.bodies RM.ran RM.actKind RM.actN RM.actA RM.isParted)) (wr := []) (w1 := (wMo K jM aM RM.s RM.held RM.aside RM.before RM.isHeld RM.tape RM.taped RM.token RM.frm RM.to RM.value RM.isWrong RM.unpaired RM.bestSound RM.bestWay RM.rows RM.rowN RM.sortOf RM.sizeOf RM.numbers RM.holdsWhat RM.holdsWhich RM.holdsMany RM.bodies RM.ran RM.actKind RM.actN RM.actA RM.isParted)) (w2 := (wMo K jM aM RM.s RM.held RM.aside RM.before RM.isHeld RM.tape RM.taped RM.token RM.frm RM.to RM.value RM.isWrong RM.unpaired RM.bestSound RM.bestWay RM.rows RM.rowN RM.sortOf RM.sizeOf RM.numbers RM.holdsWhat RM.holdsWhich RM.holdsMany RM.bodies RM.ran RM.actKind RM.actN RM.actA RM.isParted)) hF (ctX9_isFive l D K jM aM RM (113 : Int32) (117 : Int32) (105 : Int32) (101 : Int32) (116 : Int32) o_5 ho_5 H.size) (cwV 5 hts gX9_lawHere_X9_isFive rfl rfl rfl hdX9_isFive ⟨Nat.le_of_ble_eq_true rfl, Nat.le_of_ble_eq_true rfl⟩) hK hP hD hS hA [0, 1, 2, 3, 4, 5, 6, 7, 8, 9, 10, 11, 12, 13, 14, 15] [] rfl rfl (by decide) (by decide) (by decide) [0, 1, 2, 3, 4, 5, 6, 7, 8, 9, 10, 11, 12, 13, 14, 15] rfl (by decide) (va_recv hK hP (ci := 9) (q0 := 0) rfl rfl) rfl hl.1 rfl (Nat.le_of_ble_eq_true rfl) dX9_lawHere_28 ⟨Nat.zero_le _, Nat.zero_le _⟩ (fun H locs hP hD hS => ?_)
    refine lv_if_eq (tgt := 37) hx hb dX9_lawHere_31 (by decide) (fun c_6 => ?_) (fun c_6 => ?_)
    · replace hf := ht_t c_6 hf
      refine lv_aload_n hx hb dX9_lawHere_37 rfl (lv_at hl 0 rfl) ?_
      refine lv_bipush (v := 6) hx hb dX9_lawHere_38 (by decide) ?_
      refine lv_bipush (v := 103) hx hb dX9_lawHere_40 (by decide) ?_
      refine lv_bipush (v := 114) hx hb dX9_lawHere_42 (by decide) ?_
      refine lv_bipush (v := 111) hx hb dX9_lawHere_44 (by decide) ?_
      refine lv_bipush (v := 104) hx hb dX9_lawHere_46 (by decide) ?_
      obtain ⟨o_7, ho_7, hf⟩ := ht_bn_ob hf
      refine ht_callVi (r := o_7) (rest := []) (As := [.int (6 : Int32), .int (103 : Int32), .int (114 : Int32), .int (111 : Int32), .int (104 : Int32)]) (wc := (wMo K jM aM RM.s RM.held RM.aside RM.before RM.isHeld RM.tape RM.taped RM.token RM.frm RM.to RM.value RM.isWrong RM.unpaired RM.bestSound RM.bestWay RM.rows RM.rowN RM.sortOf RM.sizeOf RM.numbers RM.holdsWhat RM.holdsWhich RM.holdsMany RM.bodies RM.ran RM.actKind RM.actN RM.actA RM.isParted)) (wr := []) (w1 := (wMo K jM aM RM.s RM.held RM.aside RM.before RM.isHeld RM.tape RM.taped RM.token RM.frm RM.to RM.value RM.isWrong RM.unpaired RM.bestSound RM.bestWay RM.rows RM.rowN RM.sortOf RM.sizeOf RM.numbers RM.holdsWhat RM.holdsWhich RM.holdsMany RM.bodies RM.ran RM.actKind RM.actN RM.actA RM.isParted)) (w2 := (wMo K jM aM RM.s RM.held RM.aside RM.before RM.isHeld RM.tape RM.taped RM.token RM.frm RM.to RM.value RM.isWrong RM.unpaired RM.bestSound RM.bestWay RM.rows RM.rowN RM.sortOf RM.sizeOf RM.numbers RM.holdsWhat RM.holdsWhich RM.holdsMany RM.bodies RM.ran RM.actKind RM.actN RM.actA RM.isParted)) hF (ctX9_isName l D K jM aM RM (6 : Int32) (103 : Int32) (114 : Int32) (111 : Int32) (104 : Int32) o_7 ho_7 H.size) (cwV 5 hts gX9_lawHere_X9_isName rfl rfl rfl hdX9_isName ⟨Nat.le_of_ble_eq_true rfl, Nat.le_of_ble_eq_true rfl⟩) hK hP hD hS hA [0, 1, 2, 3, 4, 5, 6, 7, 8, 9, 10, 11, 12, 13, 14, 15] [] rfl rfl (by decide) (by decide) (by decide) [0, 1, 2, 3, 4, 5, 6, 7, 8, 9, 10, 11, 12, 13, 14, 15] rfl (by decide) (va_recv hK hP (ci := 9) (q0 := 0) rfl rfl) rfl hl.1 rfl (Nat.le_of_ble_eq_true rfl) dX9_lawHere_48 ⟨Nat.zero_le _, Nat.zero_le _⟩ (fun H locs hP hD hS => ?_)
      refine lv_if_eq (tgt := 71) hx hb dX9_lawHere_51 (by decide) (fun c_8 => ?_) (fun c_8 => ?_)
      · replace hf := ht_t c_8 hf
        exact b71  _ _ _ hf hP hD hS hl
      · replace hf := ht_f c_8 hf
        refine lv_aload_n hx hb dX9_lawHere_54 rfl (lv_at hl 0 rfl) ?_
        refine lv_iconst (v := 2) hx hb dX9_lawHere_55 (by decide) ?_
        refine lv_bipush (v := 111) hx hb dX9_lawHere_56 (by decide) ?_
        refine lv_bipush (v := 119) hx hb dX9_lawHere_58 (by decide) ?_
        refine lv_bipush (v := 116) hx hb dX9_lawHere_60 (by decide) ?_
        obtain ⟨o_9, ho_9, hf⟩ := ht_bn_ob hf
        refine ht_callVi (r := o_9) (rest := []) (As := [.int (2 : Int32), .int (111 : Int32), .int (119 : Int32), .int (116 : Int32)]) (wc := (wMo K jM aM RM.s RM.held RM.aside RM.before RM.isHeld RM.tape RM.taped RM.token RM.frm RM.to RM.value RM.isWrong RM.unpaired RM.bestSound RM.bestWay RM.rows RM.rowN RM.sortOf RM.sizeOf RM.numbers RM.holdsWhat RM.holdsWhich RM.holdsMany RM.bodies RM.ran RM.actKind RM.actN RM.actA RM.isParted)) (wr := []) (w1 := (wMo K jM aM RM.s RM.held RM.aside RM.before RM.isHeld RM.tape RM.taped RM.token RM.frm RM.to RM.value RM.isWrong RM.unpaired RM.bestSound RM.bestWay RM.rows RM.rowN RM.sortOf RM.sizeOf RM.numbers RM.holdsWhat RM.holdsWhich RM.holdsMany RM.bodies RM.ran RM.actKind RM.actN RM.actA RM.isParted)) (w2 := (wMo K jM aM RM.s RM.held RM.aside RM.before RM.isHeld RM.tape RM.taped RM.token RM.frm RM.to RM.value RM.isWrong RM.unpaired RM.bestSound RM.bestWay RM.rows RM.rowN RM.sortOf RM.sizeOf RM.numbers RM.holdsWhat RM.holdsWhich RM.holdsMany RM.bodies RM.ran RM.actKind RM.actN RM.actA RM.isParted)) hF (ctX9_isSame l D K jM aM RM (2 : Int32) (111 : Int32) (119 : Int32) (116 : Int32) o_9 ho_9 H.size) (cwV 4 hts gX9_lawHere_X9_isSame rfl rfl rfl hdX9_isSame ⟨Nat.le_of_ble_eq_true rfl, Nat.le_of_ble_eq_true rfl⟩) hK hP hD hS hA [0, 1, 2, 3, 4, 5, 6, 7, 8, 9, 10, 11, 12, 13, 14, 15] [] rfl rfl (by decide) (by decide) (by decide) [0, 1, 2, 3, 4, 5, 6, 7, 8, 9, 10, 11, 12, 13, 14, 15] rfl (by decide) (va_recv hK hP (ci := 9) (q0 := 0) rfl rfl) rfl hl.1 rfl (Nat.le_of_ble_eq_true rfl) dX9_lawHere_62 ⟨Nat.zero_le _, Nat.zero_le _⟩ (fun H locs hP hD hS => ?_)
        refine lv_if_eq (tgt := 71) hx hb dX9_lawHere_65 (by decide) (fun c_10 => ?_) (fun c_10 => ?_)
        · replace hf := ht_t c_10 hf
          exact b71  _ _ _ hf hP hD hS hl
        · replace hf := ht_f c_10 hf
          refine lv_bipush (v := 7) hx hb dX9_lawHere_68 (by decide) ?_
          have ho := Option.some.inj hf
          subst ho; subst hQ
          exact ht_iret hx hb hr hlk rfl hK hP hD hS dX9_lawHere_70
    · replace hf := ht_f c_6 hf
      refine lv_bipush (v := 6) hx hb dX9_lawHere_34 (by decide) ?_
      have ho := Option.some.inj hf
      subst ho; subst hQ
      exact ht_iret hx hb hr hlk rfl hK hP hD hS dX9_lawHere_36
  · replace hf := ht_f c_4 hf
    refine lv_iconst (v := 5) hx hb dX9_lawHere_15 (by decide) ?_
    have ho := Option.some.inj hf
    subst ho; subst hQ
    exact ht_iret hx hb hr hlk rfl hK hP hD hS dX9_lawHere_16
abbrev rmX9_itemHere : Room := { frames := 6, cells := 0, slots := 0, locals := 131 }
theorem hdX9_itemHere : yX9_itemHere.cls = RX9 ∧ yX9_itemHere.cls ≠ "java/lang/invoke/MethodHandle" ∧ yX9_itemHere.cls ≠ "java/lang/invoke/VarHandle" ∧ (parseMethodDescriptor yX9_itemHere.desc).map (fun d => d.parameters.length) = some 0 := by decide +kernel
def fX9_itemHere_b105 (RM : ModV) (t1 : Int32) (vM_s : AI) (vM_token : Int32) (vM_from : Int32) (vM_to : Int32) (vM_value : Int32) (vM_isWrong : Int32) : Option (AI × Int32 × Int32 × Int32 × Int32 × Int32) := ht_bn (fX9_needs (vM_s, RM.held, RM.aside, RM.before, RM.isHeld, RM.tape, RM.taped, vM_token, vM_from, vM_to, vM_value, vM_isWrong, RM.unpaired, RM.bestSound, RM.bestWay, RM.rows, RM.rowN, RM.sortOf, RM.sizeOf, RM.numbers, RM.holdsWhat, RM.holdsWhich, RM.holdsMany, RM.bodies, RM.ran, RM.actKind, RM.actN, RM.actA, RM.isParted) t1) (fun o_1 => some (vM_s, o_1.1, o_1.2.1, o_1.2.2.1, o_1.2.2.2.1, o_1.2.2.2.2))
def fX9_itemHere_b104 (RM : ModV) (vM_s : AI) (vM_token : Int32) (vM_from : Int32) (vM_to : Int32) (vM_value : Int32) (vM_isWrong : Int32) : Option (AI × Int32 × Int32 × Int32 × Int32 × Int32) := fX9_itemHere_b105 RM (0 : Int32) vM_s vM_token vM_from vM_to vM_value vM_isWrong
def fX9_itemHere_b78 (RM : ModV) (vM_s : AI) (vM_token : Int32) (vM_from : Int32) (vM_to : Int32) (vM_value : Int32) (vM_isWrong : Int32) : Option (AI × Int32 × Int32 × Int32 × Int32 × Int32) := if vM_token = (3 : Int32) then (ht_bn (fX9_byteAt (vM_s, RM.held, RM.aside, RM.before, RM.isHeld, RM.tape, RM.taped, vM_token, vM_from, vM_to, vM_value, vM_isWrong, RM.unpaired, RM.bestSound, RM.bestWay, RM.rows, RM.rowN, RM.sortOf, RM.sizeOf, RM.numbers, RM.holdsWhat, RM.holdsWhich, RM.holdsMany, RM.bodies, RM.ran, RM.actKind, RM.actN, RM.actA, RM.isParted) vM_from) (fun o_3 => if o_3 = (59 : Int32) then (fX9_itemHere_b105 RM (1 : Int32) vM_s vM_token vM_from vM_to vM_value vM_isWrong) else (fX9_itemHere_b104 RM vM_s vM_token vM_from vM_to vM_value vM_isWrong))) else (fX9_itemHere_b104 RM vM_s vM_token vM_from vM_to vM_value vM_isWrong)
def fX9_itemHere_b45 (RM : ModV) (t1 : Int32) (t2 : Int32) (vM_s : AI) (vM_token : Int32) (vM_from : Int32) (vM_to : Int32) (vM_value : Int32) (vM_isWrong : Int32) : Option (AI × Int32 × Int32 × Int32 × Int32 × Int32) := ht_bn (fX9_numberTo (vM_s, RM.held, RM.aside, RM.before, RM.isHeld, RM.tape, RM.taped, vM_token, vM_from, vM_to, vM_value, vM_isWrong, RM.unpaired, RM.bestSound, RM.bestWay, RM.rows, RM.rowN, RM.sortOf, RM.sizeOf, RM.numbers, RM.holdsWhat, RM.holdsWhich, RM.holdsMany, RM.bodies, RM.ran, RM.actKind, RM.actN, RM.actA, RM.isParted) t1 t2) (fun o_5 => fX9_itemHere_b78 RM o_5.1 o_5.2.1 o_5.2.2.1 o_5.2.2.2.1 o_5.2.2.2.2.1 o_5.2.2.2.2.2)
def fX9_itemHere (RM : ModV) : Option (AI × Int32 × Int32 × Int32 × Int32 × Int32) := ht_bn (fX9_kindHere RM) (fun o_6 => ht_bn (fX9_lawHere RM) (fun o_7 => if o_6 < 0 then (if o_7 < 0 then (ht_bn (fX9_isFour RM (112 : Int32) (97 : Int32) (105 : Int32) (114 : Int32)) (fun o_10 => if o_10 = 0 then (ht_bn (fX9_needs RM (0 : Int32)) (fun o_12 => fX9_itemHere_b78 RM RM.s o_12.1 o_12.2.1 o_12.2.2.1 o_12.2.2.2.1 o_12.2.2.2.2)) else (ht_bn (fX9_pairHere RM) (fun o_13 => fX9_itemHere_b78 RM o_13.1 o_13.2.1 o_13.2.2.1 o_13.2.2.2.1 o_13.2.2.2.2.1 o_13.2.2.2.2.2)))) else (ht_bn (fX9_nextToken RM) (fun o_14 => if o_7 = (8 : Int32) then (fX9_itemHere_b45 RM o_7 (99 : Int32) RM.s o_14.1 o_14.2.1 o_14.2.2.1 o_14.2.2.2 RM.isWrong) else (fX9_itemHere_b45 RM o_7 (9 : Int32) RM.s o_14.1 o_14.2.1 o_14.2.2.1 o_14.2.2.2 RM.isWrong)))) else (ht_bn (fX9_personHere RM o_6) (fun o_16 => fX9_itemHere_b78 RM o_16.1 o_16.2.1 o_16.2.2.1 o_16.2.2.2.1 o_16.2.2.2.2.1 o_16.2.2.2.2.2))))
set_option maxHeartbeats 1000000 in
set_option maxRecDepth 100000 in
theorem ctX9_itemHere (l : Launch) (D : va_G) (K : Nat → ClassId) (jM : Nat) (aM : Nat → Nat) (RM : ModV) (o : (AI × Int32 × Int32 × Int32 × Int32 × Int32)) (hf : fX9_itemHere RM = some o) (sz : Nat) : Met l yX9_itemHere wsX9_itemHere rmX9_itemHere (ht_Pre D K [.ref jM] (wMo K jM aM RM.s RM.held RM.aside RM.before RM.isHeld RM.tape RM.taped RM.token RM.frm RM.to RM.value RM.isWrong RM.unpaired RM.bestSound RM.bestWay RM.rows RM.rowN RM.sortOf RM.sizeOf RM.numbers RM.holdsWhat RM.holdsWhich RM.holdsMany RM.bodies RM.ran RM.actKind RM.actN RM.actA RM.isParted) sz) (ht_Qv D K (wMo K jM aM o.1 RM.held RM.aside RM.before RM.isHeld RM.tape RM.taped o.2.1 o.2.2.1 o.2.2.2.1 o.2.2.2.2.1 o.2.2.2.2.2 RM.unpaired RM.bestSound RM.bestWay RM.rows RM.rowN RM.sortOf RM.sizeOf RM.numbers RM.holdsWhat RM.holdsWhich RM.holdsMany RM.bodies RM.ran RM.actKind RM.actN RM.actA RM.isParted) (va_A (wMo K jM aM RM.s RM.held RM.aside RM.before RM.isHeld RM.tape RM.taped RM.token RM.frm RM.to RM.value RM.isWrong RM.unpaired RM.bestSound RM.bestWay RM.rows RM.rowN RM.sortOf RM.sizeOf RM.numbers RM.holdsWhat RM.holdsWhich RM.holdsMany RM.bodies RM.ran RM.actKind RM.actN RM.actA RM.isParted) sz)) 0 0 (va_A (wMo K jM aM RM.s RM.held RM.aside RM.before RM.isHeld RM.tape RM.taped RM.token RM.frm RM.to RM.value RM.isWrong RM.unpaired RM.bestSound RM.bestWay RM.rows RM.rowN RM.sortOf RM.sizeOf RM.numbers RM.holdsWhat RM.holdsWhich RM.holdsMany RM.bodies RM.ran RM.actKind RM.actN RM.actA RM.isParted) sz) := by
  refine ht_enter (Qf := ht_Qv D K (wMo K jM aM o.1 RM.held RM.aside RM.before RM.isHeld RM.tape RM.taped o.2.1 o.2.2.1 o.2.2.2.1 o.2.2.2.2.1 o.2.2.2.2.2 RM.unpaired RM.bestSound RM.bestWay RM.rows RM.rowN RM.sortOf RM.sizeOf RM.numbers RM.holdsWhat RM.holdsWhich RM.holdsMany RM.bodies RM.ran RM.actKind RM.actN RM.actA RM.isParted)) (cc := cX9_itemHere) (maxL := 3) (rt := none) (by decide) rfl (Nat.le_of_ble_eq_true rfl) ?_ sz
  intro p e s m below meth c A Q H locs ls hQ hx hb hr hlk hmn hml hown hts hA hK hP hD hS hl
  have hown : s.vm.findClass RX9 = some m.cls := hown
  have hF : CallFix p m c cX9_itemHere 3 s ([.ref jM] : List Value).toArray wsX9_itemHere RX9 := ⟨hx, hb, hml, hown, hts⟩
  have hl : lv_has ls 3 [(0, .ref jM)] := hl
  have iw9 : ∀ w ∈ u_ws RX9 TX9 29, w ∈ wsX9_itemHere := by decide +kernel
  have kw1 := hts (.fieldLink RX9 87 "HeldTonguesModel" "token" "I") (by decide +kernel)
  have kw2 := hts (.fieldLink RX9 73 "HeldTonguesModel" "from" "I") (by decide +kernel)
  have b105 : ∀ (t1 : Int32) (vM_s : AI) (vM_token : Int32) (vM_from : Int32) (vM_to : Int32) (vM_value : Int32) (vM_isWrong : Int32) (H : Heap) (locs : List Loc) (ls : Array Slot), fX9_itemHere_b105 RM t1 vM_s vM_token vM_from vM_to vM_value vM_isWrong = some o → va_P D vwCl (wMo K jM aM vM_s RM.held RM.aside RM.before RM.isHeld RM.tape RM.taped vM_token vM_from vM_to vM_value vM_isWrong RM.unpaired RM.bestSound RM.bestWay RM.rows RM.rowN RM.sortOf RM.sizeOf RM.numbers RM.holdsWhat RM.holdsWhich RM.holdsMany RM.bodies RM.ran RM.actKind RM.actN RM.actA RM.isParted) H → va_D A (wMo K jM aM vM_s RM.held RM.aside RM.before RM.isHeld RM.tape RM.taped vM_token vM_from vM_to vM_value vM_isWrong RM.unpaired RM.bestSound RM.bestWay RM.rows RM.rowN RM.sortOf RM.sizeOf RM.numbers RM.holdsWhat RM.holdsWhich RM.holdsMany RM.bodies RM.ran RM.actKind RM.actN RM.actA RM.isParted) → va_S A s.heap H locs → lv_has ls 3 [] → W p l e (headSpec wsX9_itemHere rmX9_itemHere).room s m ([.ref jM] : List Value).toArray below meth c H locs 0 0 Q (F0 m 105 ls [.int t1, .ref jM]) := by
    intro t1 vM_s vM_token vM_from vM_to vM_value vM_isWrong H locs ls hf hP hD hS hl
    delta fX9_itemHere_b105 at hf
    obtain ⟨o_1, ho_1, hf⟩ := ht_bn_ob hf
    refine ht_callVv (rest := []) (As := [.int t1]) (wc := (wMo K jM aM vM_s RM.held RM.aside RM.before RM.isHeld RM.tape RM.taped vM_token vM_from vM_to vM_value vM_isWrong RM.unpaired RM.bestSound RM.bestWay RM.rows RM.rowN RM.sortOf RM.sizeOf RM.numbers RM.holdsWhat RM.holdsWhich RM.holdsMany RM.bodies RM.ran RM.actKind RM.actN RM.actA RM.isParted)) (wr := []) (w1 := (wMo K jM aM vM_s RM.held RM.aside RM.before RM.isHeld RM.tape RM.taped o_1.1 o_1.2.1 o_1.2.2.1 o_1.2.2.2.1 o_1.2.2.2.2 RM.unpaired RM.bestSound RM.bestWay RM.rows RM.rowN RM.sortOf RM.sizeOf RM.numbers RM.holdsWhat RM.holdsWhich RM.holdsMany RM.bodies RM.ran RM.actKind RM.actN RM.actA RM.isParted)) (w2 := (wMo K jM aM vM_s RM.held RM.aside RM.before RM.isHeld RM.tape RM.taped o_1.1 o_1.2.1 o_1.2.2.1 o_1.2.2.2.1 o_1.2.2.2.2 RM.unpaired RM.bestSound RM.bestWay RM.rows RM.rowN RM.sortOf RM.sizeOf RM.numbers RM.holdsWhat RM.holdsWhich RM.holdsMany RM.bodies RM.ran RM.actKind RM.actN RM.actA RM.isParted)) hF (ctX9_needs l D K jM aM (vM_s, RM.held, RM.aside, RM.before, RM.isHeld, RM.tape, RM.taped, vM_token, vM_from, vM_to, vM_value, vM_isWrong, RM.unpaired, RM.bestSound, RM.bestWay, RM.rows, RM.rowN, RM.sortOf, RM.sizeOf, RM.numbers, RM.holdsWhat, RM.holdsWhich, RM.holdsMany, RM.bodies, RM.ran, RM.actKind, RM.actN, RM.actA, RM.isParted) t1 o_1 ho_1 H.size) (cwV 1 hts gX9_itemHere_X9_needs rfl rfl rfl hdX9_needs ⟨Nat.le_of_ble_eq_true rfl, Nat.le_of_ble_eq_true rfl⟩) hK hP hD hS hA [0, 1, 2, 3, 4, 5, 6, 7, 8, 9, 10, 11, 12, 13, 14, 15] [] rfl rfl (by decide) (by decide) (by decide) [0, 1, 2, 3, 4, 5, 6, 7, 8, 9, 10, 11, 12, 13, 14, 15] rfl (by decide) (va_recv hK hP (ci := 9) (q0 := 0) rfl rfl) rfl hl.1 rfl (Nat.le_of_ble_eq_true rfl) dX9_itemHere_105 ⟨Nat.zero_le _, Nat.zero_le _⟩ (fun H locs hP hD hS => ?_)
    have ho := Option.some.inj hf
    subst ho; subst hQ
    exact ht_vret hx hb hr hlk hK hP hD hS dX9_itemHere_108
  have b104 : ∀ (vM_s : AI) (vM_token : Int32) (vM_from : Int32) (vM_to : Int32) (vM_value : Int32) (vM_isWrong : Int32) (H : Heap) (locs : List Loc) (ls : Array Slot), fX9_itemHere_b104 RM vM_s vM_token vM_from vM_to vM_value vM_isWrong = some o → va_P D vwCl (wMo K jM aM vM_s RM.held RM.aside RM.before RM.isHeld RM.tape RM.taped vM_token vM_from vM_to vM_value vM_isWrong RM.unpaired RM.bestSound RM.bestWay RM.rows RM.rowN RM.sortOf RM.sizeOf RM.numbers RM.holdsWhat RM.holdsWhich RM.holdsMany RM.bodies RM.ran RM.actKind RM.actN RM.actA RM.isParted) H → va_D A (wMo K jM aM vM_s RM.held RM.aside RM.before RM.isHeld RM.tape RM.taped vM_token vM_from vM_to vM_value vM_isWrong RM.unpaired RM.bestSound RM.bestWay RM.rows RM.rowN RM.sortOf RM.sizeOf RM.numbers RM.holdsWhat RM.holdsWhich RM.holdsMany RM.bodies RM.ran RM.actKind RM.actN RM.actA RM.isParted) → va_S A s.heap H locs → lv_has ls 3 [] → W p l e (headSpec wsX9_itemHere rmX9_itemHere).room s m ([.ref jM] : List Value).toArray below meth c H locs 0 0 Q (F0 m 104 ls [.ref jM]) := by
    intro vM_s vM_token vM_from vM_to vM_value vM_isWrong H locs ls hf hP hD hS hl
    delta fX9_itemHere_b104 at hf
    refine lv_iconst (v := 0) hx hb dX9_itemHere_104 (by decide) ?_
    exact b105  (0 : Int32) vM_s vM_token vM_from vM_to vM_value vM_isWrong _ _ _ hf hP hD hS hl
  have b78 : ∀ (vM_s : AI) (vM_token : Int32) (vM_from : Int32) (vM_to : Int32) (vM_value : Int32) (vM_isWrong : Int32) (H : Heap) (locs : List Loc) (ls : Array Slot), fX9_itemHere_b78 RM vM_s vM_token vM_from vM_to vM_value vM_isWrong = some o → va_P D vwCl (wMo K jM aM vM_s RM.held RM.aside RM.before RM.isHeld RM.tape RM.taped vM_token vM_from vM_to vM_value vM_isWrong RM.unpaired RM.bestSound RM.bestWay RM.rows RM.rowN RM.sortOf RM.sizeOf RM.numbers RM.holdsWhat RM.holdsWhich RM.holdsMany RM.bodies RM.ran RM.actKind RM.actN RM.actA RM.isParted) H → va_D A (wMo K jM aM vM_s RM.held RM.aside RM.before RM.isHeld RM.tape RM.taped vM_token vM_from vM_to vM_value vM_isWrong RM.unpaired RM.bestSound RM.bestWay RM.rows RM.rowN RM.sortOf RM.sizeOf RM.numbers RM.holdsWhat RM.holdsWhich RM.holdsMany RM.bodies RM.ran RM.actKind RM.actN RM.actA RM.isParted) → va_S A s.heap H locs → lv_has ls 3 [(0, .ref jM)] → W p l e (headSpec wsX9_itemHere rmX9_itemHere).room s m ([.ref jM] : List Value).toArray below meth c H locs 0 0 Q (F0 m 78 ls []) := by
    intro vM_s vM_token vM_from vM_to vM_value vM_isWrong H locs ls hf hP hD hS hl
    delta fX9_itemHere_b78 at hf
    refine lv_aload_n hx hb dX9_itemHere_78 rfl (lv_at hl 0 rfl) ?_
    refine lv_aload_n hx hb dX9_itemHere_79 rfl (lv_at hl 0 rfl) ?_
    refine va_get (D := D) (ci := 9) (v := .int vM_token) (C := RX9) (T := TX9) (N := 29) hx hb hts iw9 hown hK hP 0 rfl rfl 7 (by decide) kw1 (fun _ h9 => h9) rfl dX9_itemHere_80 ?_
    refine lv_iconst (v := 3) hx hb dX9_itemHere_83 (by decide) ?_
    refine lv_icmp_ne (tgt := 104) hx hb dX9_itemHere_84 (by decide) (fun c_2 => ?_) (fun c_2 => ?_)
    · replace hf := ht_f c_2 hf
      exact b104  vM_s vM_token vM_from vM_to vM_value vM_isWrong _ _ _ hf hP hD hS (lv_sub hl [] rfl)
    · replace hf := ht_t c_2 hf
      refine lv_aload_n hx hb dX9_itemHere_87 rfl (lv_at hl 0 rfl) ?_
      refine lv_aload_n hx hb dX9_itemHere_88 rfl (lv_at hl 0 rfl) ?_
      refine va_get (D := D) (ci := 9) (v := .int vM_from) (C := RX9) (T := TX9) (N := 29) hx hb hts iw9 hown hK hP 0 rfl rfl 8 (by decide) kw2 (fun _ h9 => h9) rfl dX9_itemHere_89 ?_
      obtain ⟨o_3, ho_3, hf⟩ := ht_bn_ob hf
      refine ht_callVi (r := o_3) (rest := [.ref jM]) (As := [.int vM_from]) (wc := (wMo K jM aM vM_s RM.held RM.aside RM.before RM.isHeld RM.tape RM.taped vM_token vM_from vM_to vM_value vM_isWrong RM.unpaired RM.bestSound RM.bestWay RM.rows RM.rowN RM.sortOf RM.sizeOf RM.numbers RM.holdsWhat RM.holdsWhich RM.holdsMany RM.bodies RM.ran RM.actKind RM.actN RM.actA RM.isParted)) (wr := []) (w1 := (wMo K jM aM vM_s RM.held RM.aside RM.before RM.isHeld RM.tape RM.taped vM_token vM_from vM_to vM_value vM_isWrong RM.unpaired RM.bestSound RM.bestWay RM.rows RM.rowN RM.sortOf RM.sizeOf RM.numbers RM.holdsWhat RM.holdsWhich RM.holdsMany RM.bodies RM.ran RM.actKind RM.actN RM.actA RM.isParted)) (w2 := (wMo K jM aM vM_s RM.held RM.aside RM.before RM.isHeld RM.tape RM.taped vM_token vM_from vM_to vM_value vM_isWrong RM.unpaired RM.bestSound RM.bestWay RM.rows RM.rowN RM.sortOf RM.sizeOf RM.numbers RM.holdsWhat RM.holdsWhich RM.holdsMany RM.bodies RM.ran RM.actKind RM.actN RM.actA RM.isParted)) hF (ctX9_byteAt l D K jM aM (vM_s, RM.held, RM.aside, RM.before, RM.isHeld, RM.tape, RM.taped, vM_token, vM_from, vM_to, vM_value, vM_isWrong, RM.unpaired, RM.bestSound, RM.bestWay, RM.rows, RM.rowN, RM.sortOf, RM.sizeOf, RM.numbers, RM.holdsWhat, RM.holdsWhich, RM.holdsMany, RM.bodies, RM.ran, RM.actKind, RM.actN, RM.actA, RM.isParted) vM_from o_3 ho_3 H.size) (cwV 1 hts gX9_itemHere_X9_byteAt rfl rfl rfl hdX9_byteAt ⟨Nat.le_of_ble_eq_true rfl, Nat.le_of_ble_eq_true rfl⟩) hK hP hD hS hA [0, 1, 2, 3, 4, 5, 6, 7, 8, 9, 10, 11, 12, 13, 14, 15] [] rfl rfl (by decide) (by decide) (by decide) [0, 1, 2, 3, 4, 5, 6, 7, 8, 9, 10, 11, 12, 13, 14, 15] rfl (by decide) (va_recv hK hP (ci := 9) (q0 := 0) rfl rfl) rfl hl.1 rfl (Nat.le_of_ble_eq_true rfl) dX9_itemHere_92 ⟨Nat.zero_le _, Nat.zero_le _⟩ (fun H locs hP hD hS => ?_)
      refine lv_bipush (v := 59) hx hb dX9_itemHere_95 (by decide) ?_
      refine lv_icmp_ne (tgt := 104) hx hb dX9_itemHere_97 (by decide) (fun c_4 => ?_) (fun c_4 => ?_)
      · replace hf := ht_f c_4 hf
        exact b104  vM_s vM_token vM_from vM_to vM_value vM_isWrong _ _ _ hf hP hD hS (lv_sub hl [] rfl)
      · replace hf := ht_t c_4 hf
        refine lv_iconst (v := 1) hx hb dX9_itemHere_100 (by decide) ?_
        refine lv_goto (tgt := 105) hx hb dX9_itemHere_101 (by decide) ?_
        exact b105  (1 : Int32) vM_s vM_token vM_from vM_to vM_value vM_isWrong _ _ _ hf hP hD hS (lv_sub hl [] rfl)
  have b45 : ∀ (t1 : Int32) (t2 : Int32) (vM_s : AI) (vM_token : Int32) (vM_from : Int32) (vM_to : Int32) (vM_value : Int32) (vM_isWrong : Int32) (H : Heap) (locs : List Loc) (ls : Array Slot), fX9_itemHere_b45 RM t1 t2 vM_s vM_token vM_from vM_to vM_value vM_isWrong = some o → va_P D vwCl (wMo K jM aM vM_s RM.held RM.aside RM.before RM.isHeld RM.tape RM.taped vM_token vM_from vM_to vM_value vM_isWrong RM.unpaired RM.bestSound RM.bestWay RM.rows RM.rowN RM.sortOf RM.sizeOf RM.numbers RM.holdsWhat RM.holdsWhich RM.holdsMany RM.bodies RM.ran RM.actKind RM.actN RM.actA RM.isParted) H → va_D A (wMo K jM aM vM_s RM.held RM.aside RM.before RM.isHeld RM.tape RM.taped vM_token vM_from vM_to vM_value vM_isWrong RM.unpaired RM.bestSound RM.bestWay RM.rows RM.rowN RM.sortOf RM.sizeOf RM.numbers RM.holdsWhat RM.holdsWhich RM.holdsMany RM.bodies RM.ran RM.actKind RM.actN RM.actA RM.isParted) → va_S A s.heap H locs → lv_has ls 3 [(0, .ref jM)] → W p l e (headSpec wsX9_itemHere rmX9_itemHere).room s m ([.ref jM] : List Value).toArray below meth c H locs 0 0 Q (F0 m 45 ls [.int t2, .int t1, .ref jM]) := by
    intro t1 t2 vM_s vM_token vM_from vM_to vM_value vM_isWrong H locs ls hf hP hD hS hl
    delta fX9_itemHere_b45 at hf
    obtain ⟨o_5, ho_5, hf⟩ := ht_bn_ob hf
    refine ht_callVv (rest := []) (As := [.int t1, .int t2]) (wc := (wMo K jM aM vM_s RM.held RM.aside RM.before RM.isHeld RM.tape RM.taped vM_token vM_from vM_to vM_value vM_isWrong RM.unpaired RM.bestSound RM.bestWay RM.rows RM.rowN RM.sortOf RM.sizeOf RM.numbers RM.holdsWhat RM.holdsWhich RM.holdsMany RM.bodies RM.ran RM.actKind RM.actN RM.actA RM.isParted)) (wr := []) (w1 := (wMo K jM aM o_5.1 RM.held RM.aside RM.before RM.isHeld RM.tape RM.taped o_5.2.1 o_5.2.2.1 o_5.2.2.2.1 o_5.2.2.2.2.1 o_5.2.2.2.2.2 RM.unpaired RM.bestSound RM.bestWay RM.rows RM.rowN RM.sortOf RM.sizeOf RM.numbers RM.holdsWhat RM.holdsWhich RM.holdsMany RM.bodies RM.ran RM.actKind RM.actN RM.actA RM.isParted)) (w2 := (wMo K jM aM o_5.1 RM.held RM.aside RM.before RM.isHeld RM.tape RM.taped o_5.2.1 o_5.2.2.1 o_5.2.2.2.1 o_5.2.2.2.2.1 o_5.2.2.2.2.2 RM.unpaired RM.bestSound RM.bestWay RM.rows RM.rowN RM.sortOf RM.sizeOf RM.numbers RM.holdsWhat RM.holdsWhich RM.holdsMany RM.bodies RM.ran RM.actKind RM.actN RM.actA RM.isParted)) hF (ctX9_numberTo l D K jM aM (vM_s, RM.held, RM.aside, RM.before, RM.isHeld, RM.tape, RM.taped, vM_token, vM_from, vM_to, vM_value, vM_isWrong, RM.unpaired, RM.bestSound, RM.bestWay, RM.rows, RM.rowN, RM.sortOf, RM.sizeOf, RM.numbers, RM.holdsWhat, RM.holdsWhich, RM.holdsMany, RM.bodies, RM.ran, RM.actKind, RM.actN, RM.actA, RM.isParted) t1 t2 o_5 ho_5 H.size) (cwV 2 hts gX9_itemHere_X9_numberTo rfl rfl rfl hdX9_numberTo ⟨Nat.le_of_ble_eq_true rfl, Nat.le_of_ble_eq_true rfl⟩) hK hP hD hS hA [0, 1, 2, 3, 4, 5, 6, 7, 8, 9, 10, 11, 12, 13, 14, 15] [] rfl rfl (by decide) (by decide) (by decide) [0, 1, 2, 3, 4, 5, 6, 7, 8, 9, 10, 11, 12, 13, 14, 15] rfl (by decide) (va_recv hK hP (ci := 9) (q0 := 0) rfl rfl) rfl hl.1 rfl (Nat.le_of_ble_eq_true rfl) dX9_itemHere_45 ⟨Nat.zero_le _, Nat.zero_le _⟩ (fun H locs hP hD hS => ?_)
    refine lv_goto (tgt := 78) hx hb dX9_itemHere_48 (by decide) ?_
    exact b78  o_5.1 o_5.2.1 o_5.2.2.1 o_5.2.2.2.1 o_5.2.2.2.2.1 o_5.2.2.2.2.2 _ _ _ hf hP hD hS hl
  delta fX9_itemHere at hf
  refine lv_aload_n hx hb dX9_itemHere_0 rfl (lv_at hl 0 rfl) ?_
  obtain ⟨o_6, ho_6, hf⟩ := ht_bn_ob hf
  refine ht_callVi (r := o_6) (rest := []) (As := []) (wc := (wMo K jM aM RM.s RM.held RM.aside RM.before RM.isHeld RM.tape RM.taped RM.token RM.frm RM.to RM.value RM.isWrong RM.unpaired RM.bestSound RM.bestWay RM.rows RM.rowN RM.sortOf RM.sizeOf RM.numbers RM.holdsWhat RM.holdsWhich RM.holdsMany RM.bodies RM.ran RM.actKind RM.actN RM.actA RM.isParted)) (wr := []) (w1 := (wMo K jM aM RM.s RM.held RM.aside RM.before RM.isHeld RM.tape RM.taped RM.token RM.frm RM.to RM.value RM.isWrong RM.unpaired RM.bestSound RM.bestWay RM.rows RM.rowN RM.sortOf RM.sizeOf RM.numbers RM.holdsWhat RM.holdsWhich RM.holdsMany RM.bodies RM.ran RM.actKind RM.actN RM.actA RM.isParted)) (w2 := (wMo K jM aM RM.s RM.held RM.aside RM.before RM.isHeld RM.tape RM.taped RM.token RM.frm RM.to RM.value RM.isWrong RM.unpaired RM.bestSound RM.bestWay RM.rows RM.rowN RM.sortOf RM.sizeOf RM.numbers RM.holdsWhat RM.holdsWhich RM.holdsMany RM.bodies RM.ran RM.actKind RM.actN RM.actA RM.isParted)) hF (ctX9_kindHere l D K jM aM RM o_6 ho_6 H.size) (cwV 0 hts gX9_itemHere_X9_kindHere rfl rfl rfl hdX9_kindHere ⟨Nat.le_of_ble_eq_true rfl, Nat.le_of_ble_eq_true rfl⟩) hK hP hD hS hA [0, 1, 2, 3, 4, 5, 6, 7, 8, 9, 10, 11, 12, 13, 14, 15] [] rfl rfl (by decide) (by decide) (by decide) [0, 1, 2, 3, 4, 5, 6, 7, 8, 9, 10, 11, 12, 13, 14, 15] rfl (by decide) (va_recv hK hP (ci := 9) (q0 := 0) rfl rfl) rfl hl.1 rfl (Nat.le_of_ble_eq_true rfl) dX9_itemHere_1 ⟨Nat.zero_le _, Nat.zero_le _⟩ (fun H locs hP hD hS => ?_)
  refine lv_istore_n (lv' := [(1, .int o_6), (0, .ref jM)]) hx hb dX9_itemHere_4 rfl hl (by decide) rfl (fun ls hl => ?_)
  refine lv_aload_n hx hb dX9_itemHere_5 rfl (lv_at hl 1 rfl) ?_
  obtain ⟨o_7, ho_7, hf⟩ := ht_bn_ob hf
  refine ht_callVi (r := o_7) (rest := []) (As := []) (wc := (wMo K jM aM RM.s RM.held RM.aside RM.before RM.isHeld RM.tape RM.taped RM.token RM.frm RM.to RM.value RM.isWrong RM.unpaired RM.bestSound RM.bestWay RM.rows RM.rowN RM.sortOf RM.sizeOf RM.numbers RM.holdsWhat RM.holdsWhich RM.holdsMany RM.bodies RM.ran RM.actKind RM.actN RM.actA RM.isParted)) (wr := []) (w1 := (wMo K jM aM RM.s RM.held RM.aside RM.before RM.isHeld RM.tape RM.taped RM.token RM.frm RM.to RM.value RM.isWrong RM.unpaired RM.bestSound RM.bestWay RM.rows RM.rowN RM.sortOf RM.sizeOf RM.numbers RM.holdsWhat RM.holdsWhich RM.holdsMany RM.bodies RM.ran RM.actKind RM.actN RM.actA RM.isParted)) (w2 := (wMo K jM aM RM.s RM.held RM.aside RM.before RM.isHeld RM.tape RM.taped RM.token RM.frm RM.to RM.value RM.isWrong RM.unpaired RM.bestSound RM.bestWay RM.rows RM.rowN RM.sortOf RM.sizeOf RM.numbers RM.holdsWhat RM.holdsWhich RM.holdsMany RM.bodies RM.ran RM.actKind RM.actN RM.actA RM.isParted)) hF (ctX9_lawHere l D K jM aM RM o_7 ho_7 H.size) (cwV 0 hts gX9_itemHere_X9_lawHere rfl rfl rfl hdX9_lawHere ⟨Nat.le_of_ble_eq_true rfl, Nat.le_of_ble_eq_true rfl⟩) hK hP hD hS hA [0, 1, 2, 3, 4, 5, 6, 7, 8, 9, 10, 11, 12, 13, 14, 15] [] rfl rfl (by decide) (by decide) (by decide) [0, 1, 2, 3, 4, 5, 6, 7, 8, 9, 10, 11, 12, 13, 14, 15] rfl (by decide) (va_recv hK hP (ci := 9) (q0 := 0) rfl rfl) rfl hl.1 rfl (Nat.le_of_ble_eq_true rfl) dX9_itemHere_6 ⟨Nat.zero_le _, Nat.zero_le _⟩ (fun H locs hP hD hS => ?_)
  refine lv_istore_n (lv' := [(2, .int o_7), (1, .int o_6), (0, .ref jM)]) hx hb dX9_itemHere_9 rfl hl (by decide) rfl (fun ls hl => ?_)
  refine lv_iload_n hx hb dX9_itemHere_10 rfl (lv_at hl 1 rfl) ?_
  refine lv_if_lt (tgt := 22) hx hb dX9_itemHere_11 (by decide) (fun c_8 => ?_) (fun c_8 => ?_)
  · replace hf := ht_t c_8 hf
    refine lv_iload_n hx hb dX9_itemHere_22 rfl (lv_at hl 0 rfl) ?_
    refine lv_if_lt (tgt := 51) hx hb dX9_itemHere_23 (by decide) (fun c_9 => ?_) (fun c_9 => ?_)
    · replace hf := ht_t c_9 hf
      refine lv_aload_n hx hb dX9_itemHere_51 rfl (lv_at hl 2 rfl) ?_
      refine lv_bipush (v := 112) hx hb dX9_itemHere_52 (by decide) ?_
      refine lv_bipush (v := 97) hx hb dX9_itemHere_54 (by decide) ?_
      refine lv_bipush (v := 105) hx hb dX9_itemHere_56 (by decide) ?_
      refine lv_bipush (v := 114) hx hb dX9_itemHere_58 (by decide) ?_
      obtain ⟨o_10, ho_10, hf⟩ := ht_bn_ob hf
      refine ht_callVi (r := o_10) (rest := []) (As := [.int (112 : Int32), .int (97 : Int32), .int (105 : Int32), .int (114 : Int32)]) (wc := (wMo K jM aM RM.s RM.held RM.aside RM.before RM.isHeld RM.tape RM.taped RM.token RM.frm RM.to RM.value RM.isWrong RM.unpaired RM.bestSound RM.bestWay RM.rows RM.rowN RM.sortOf RM.sizeOf RM.numbers RM.holdsWhat RM.holdsWhich RM.holdsMany RM.bodies RM.ran RM.actKind RM.actN RM.actA RM.isParted)) (wr := []) (w1 := (wMo K jM aM RM.s RM.held RM.aside RM.before RM.isHeld RM.tape RM.taped RM.token RM.frm RM.to RM.value RM.isWrong RM.unpaired RM.bestSound RM.bestWay RM.rows RM.rowN RM.sortOf RM.sizeOf RM.numbers RM.holdsWhat RM.holdsWhich RM.holdsMany RM.bodies RM.ran RM.actKind RM.actN RM.actA RM.isParted)) (w2 := (wMo K jM aM RM.s RM.held RM.aside RM.before RM.isHeld RM.tape RM.taped RM.token RM.frm RM.to RM.value RM.isWrong RM.unpaired RM.bestSound RM.bestWay RM.rows RM.rowN RM.sortOf RM.sizeOf RM.numbers RM.holdsWhat RM.holdsWhich RM.holdsMany RM.bodies RM.ran RM.actKind RM.actN RM.actA RM.isParted)) hF (ctX9_isFour l D K jM aM RM (112 : Int32) (97 : Int32) (105 : Int32) (114 : Int32) o_10 ho_10 H.size) (cwV 4 hts gX9_itemHere_X9_isFour rfl rfl rfl hdX9_isFour ⟨Nat.le_of_ble_eq_true rfl, Nat.le_of_ble_eq_true rfl⟩) hK hP hD hS hA [0, 1, 2, 3, 4, 5, 6, 7, 8, 9, 10, 11, 12, 13, 14, 15] [] rfl rfl (by decide) (by decide) (by decide) [0, 1, 2, 3, 4, 5, 6, 7, 8, 9, 10, 11, 12, 13, 14, 15] rfl (by decide) (va_recv hK hP (ci := 9) (q0 := 0) rfl rfl) rfl hl.1 rfl (Nat.le_of_ble_eq_true rfl) dX9_itemHere_60 ⟨Nat.zero_le _, Nat.zero_le _⟩ (fun H locs hP hD hS => ?_)
      refine lv_if_eq (tgt := 73) hx hb dX9_itemHere_63 (by decide) (fun c_11 => ?_) (fun c_11 => ?_)
      · replace hf := ht_t c_11 hf
        refine lv_aload_n hx hb dX9_itemHere_73 rfl (lv_at hl 2 rfl) ?_
        refine lv_iconst (v := 0) hx hb dX9_itemHere_74 (by decide) ?_
        obtain ⟨o_12, ho_12, hf⟩ := ht_bn_ob hf
        refine ht_callVv (rest := []) (As := [.int (0 : Int32)]) (wc := (wMo K jM aM RM.s RM.held RM.aside RM.before RM.isHeld RM.tape RM.taped RM.token RM.frm RM.to RM.value RM.isWrong RM.unpaired RM.bestSound RM.bestWay RM.rows RM.rowN RM.sortOf RM.sizeOf RM.numbers RM.holdsWhat RM.holdsWhich RM.holdsMany RM.bodies RM.ran RM.actKind RM.actN RM.actA RM.isParted)) (wr := []) (w1 := (wMo K jM aM RM.s RM.held RM.aside RM.before RM.isHeld RM.tape RM.taped o_12.1 o_12.2.1 o_12.2.2.1 o_12.2.2.2.1 o_12.2.2.2.2 RM.unpaired RM.bestSound RM.bestWay RM.rows RM.rowN RM.sortOf RM.sizeOf RM.numbers RM.holdsWhat RM.holdsWhich RM.holdsMany RM.bodies RM.ran RM.actKind RM.actN RM.actA RM.isParted)) (w2 := (wMo K jM aM RM.s RM.held RM.aside RM.before RM.isHeld RM.tape RM.taped o_12.1 o_12.2.1 o_12.2.2.1 o_12.2.2.2.1 o_12.2.2.2.2 RM.unpaired RM.bestSound RM.bestWay RM.rows RM.rowN RM.sortOf RM.sizeOf RM.numbers RM.holdsWhat RM.holdsWhich RM.holdsMany RM.bodies RM.ran RM.actKind RM.actN RM.actA RM.isParted)) hF (ctX9_needs l D K jM aM RM (0 : Int32) o_12 ho_12 H.size) (cwV 1 hts gX9_itemHere_X9_needs rfl rfl rfl hdX9_needs ⟨Nat.le_of_ble_eq_true rfl, Nat.le_of_ble_eq_true rfl⟩) hK hP hD hS hA [0, 1, 2, 3, 4, 5, 6, 7, 8, 9, 10, 11, 12, 13, 14, 15] [] rfl rfl (by decide) (by decide) (by decide) [0, 1, 2, 3, 4, 5, 6, 7, 8, 9, 10, 11, 12, 13, 14, 15] rfl (by decide) (va_recv hK hP (ci := 9) (q0 := 0) rfl rfl) rfl hl.1 rfl (Nat.le_of_ble_eq_true rfl) dX9_itemHere_75 ⟨Nat.zero_le _, Nat.zero_le _⟩ (fun H locs hP hD hS => ?_)
        exact b78  RM.s o_12.1 o_12.2.1 o_12.2.2.1 o_12.2.2.2.1 o_12.2.2.2.2 _ _ _ hf hP hD hS (lv_sub hl [2] rfl)
      · replace hf := ht_f c_11 hf
        refine lv_aload_n hx hb dX9_itemHere_66 rfl (lv_at hl 2 rfl) ?_
        obtain ⟨o_13, ho_13, hf⟩ := ht_bn_ob hf
        refine ht_callVv (rest := []) (As := []) (wc := (wMo K jM aM RM.s RM.held RM.aside RM.before RM.isHeld RM.tape RM.taped RM.token RM.frm RM.to RM.value RM.isWrong RM.unpaired RM.bestSound RM.bestWay RM.rows RM.rowN RM.sortOf RM.sizeOf RM.numbers RM.holdsWhat RM.holdsWhich RM.holdsMany RM.bodies RM.ran RM.actKind RM.actN RM.actA RM.isParted)) (wr := []) (w1 := (wMo K jM aM o_13.1 RM.held RM.aside RM.before RM.isHeld RM.tape RM.taped o_13.2.1 o_13.2.2.1 o_13.2.2.2.1 o_13.2.2.2.2.1 o_13.2.2.2.2.2 RM.unpaired RM.bestSound RM.bestWay RM.rows RM.rowN RM.sortOf RM.sizeOf RM.numbers RM.holdsWhat RM.holdsWhich RM.holdsMany RM.bodies RM.ran RM.actKind RM.actN RM.actA RM.isParted)) (w2 := (wMo K jM aM o_13.1 RM.held RM.aside RM.before RM.isHeld RM.tape RM.taped o_13.2.1 o_13.2.2.1 o_13.2.2.2.1 o_13.2.2.2.2.1 o_13.2.2.2.2.2 RM.unpaired RM.bestSound RM.bestWay RM.rows RM.rowN RM.sortOf RM.sizeOf RM.numbers RM.holdsWhat RM.holdsWhich RM.holdsMany RM.bodies RM.ran RM.actKind RM.actN RM.actA RM.isParted)) hF (ctX9_pairHere l D K jM aM RM o_13 ho_13 H.size) (cwV 0 hts gX9_itemHere_X9_pairHere rfl rfl rfl hdX9_pairHere ⟨Nat.le_of_ble_eq_true rfl, Nat.le_of_ble_eq_true rfl⟩) hK hP hD hS hA [0, 1, 2, 3, 4, 5, 6, 7, 8, 9, 10, 11, 12, 13, 14, 15] [] rfl rfl (by decide) (by decide) (by decide) [0, 1, 2, 3, 4, 5, 6, 7, 8, 9, 10, 11, 12, 13, 14, 15] rfl (by decide) (va_recv hK hP (ci := 9) (q0 := 0) rfl rfl) rfl hl.1 rfl (Nat.le_of_ble_eq_true rfl) dX9_itemHere_67 ⟨Nat.zero_le _, Nat.zero_le _⟩ (fun H locs hP hD hS => ?_)
        refine lv_goto (tgt := 78) hx hb dX9_itemHere_70 (by decide) ?_
        exact b78  o_13.1 o_13.2.1 o_13.2.2.1 o_13.2.2.2.1 o_13.2.2.2.2.1 o_13.2.2.2.2.2 _ _ _ hf hP hD hS (lv_sub hl [2] rfl)
    · replace hf := ht_f c_9 hf
      refine lv_aload_n hx hb dX9_itemHere_26 rfl (lv_at hl 2 rfl) ?_
      obtain ⟨o_14, ho_14, hf⟩ := ht_bn_ob hf
      refine ht_callVv (rest := []) (As := []) (wc := (wMo K jM aM RM.s RM.held RM.aside RM.before RM.isHeld RM.tape RM.taped RM.token RM.frm RM.to RM.value RM.isWrong RM.unpaired RM.bestSound RM.bestWay RM.rows RM.rowN RM.sortOf RM.sizeOf RM.numbers RM.holdsWhat RM.holdsWhich RM.holdsMany RM.bodies RM.ran RM.actKind RM.actN RM.actA RM.isParted)) (wr := []) (w1 := (wMo K jM aM RM.s RM.held RM.aside RM.before RM.isHeld RM.tape RM.taped o_14.1 o_14.2.1 o_14.2.2.1 o_14.2.2.2 RM.isWrong RM.unpaired RM.bestSound RM.bestWay RM.rows RM.rowN RM.sortOf RM.sizeOf RM.numbers RM.holdsWhat RM.holdsWhich RM.holdsMany RM.bodies RM.ran RM.actKind RM.actN RM.actA RM.isParted)) (w2 := (wMo K jM aM RM.s RM.held RM.aside RM.before RM.isHeld RM.tape RM.taped o_14.1 o_14.2.1 o_14.2.2.1 o_14.2.2.2 RM.isWrong RM.unpaired RM.bestSound RM.bestWay RM.rows RM.rowN RM.sortOf RM.sizeOf RM.numbers RM.holdsWhat RM.holdsWhich RM.holdsMany RM.bodies RM.ran RM.actKind RM.actN RM.actA RM.isParted)) hF (ctX9_nextToken l D K jM aM RM o_14 ho_14 H.size) (cwV 0 hts gX9_itemHere_X9_nextToken rfl rfl rfl hdX9_nextToken ⟨Nat.le_of_ble_eq_true rfl, Nat.le_of_ble_eq_true rfl⟩) hK hP hD hS hA [0, 1, 2, 3, 4, 5, 6, 7, 8, 9, 10, 11, 12, 13, 14, 15] [] rfl rfl (by decide) (by decide) (by decide) [0, 1, 2, 3, 4, 5, 6, 7, 8, 9, 10, 11, 12, 13, 14, 15] rfl (by decide) (va_recv hK hP (ci := 9) (q0 := 0) rfl rfl) rfl hl.1 rfl (Nat.le_of_ble_eq_true rfl) dX9_itemHere_27 ⟨Nat.zero_le _, Nat.zero_le _⟩ (fun H locs hP hD hS => ?_)
      refine lv_aload_n hx hb dX9_itemHere_30 rfl (lv_at hl 2 rfl) ?_
      refine lv_iload_n hx hb dX9_itemHere_31 rfl (lv_at hl 0 rfl) ?_
      refine lv_iload_n hx hb dX9_itemHere_32 rfl (lv_at hl 0 rfl) ?_
      refine lv_bipush (v := 8) hx hb dX9_itemHere_33 (by decide) ?_
      refine lv_icmp_ne (tgt := 43) hx hb dX9_itemHere_35 (by decide) (fun c_15 => ?_) (fun c_15 => ?_)
      · replace hf := ht_f c_15 hf
        refine lv_bipush (v := 9) hx hb dX9_itemHere_43 (by decide) ?_
        exact b45  o_7 (9 : Int32) RM.s o_14.1 o_14.2.1 o_14.2.2.1 o_14.2.2.2 RM.isWrong _ _ _ hf hP hD hS (lv_sub hl [2] rfl)
      · replace hf := ht_t c_15 hf
        refine lv_bipush (v := 99) hx hb dX9_itemHere_38 (by decide) ?_
        refine lv_goto (tgt := 45) hx hb dX9_itemHere_40 (by decide) ?_
        exact b45  o_7 (99 : Int32) RM.s o_14.1 o_14.2.1 o_14.2.2.1 o_14.2.2.2 RM.isWrong _ _ _ hf hP hD hS (lv_sub hl [2] rfl)
  · replace hf := ht_f c_8 hf
    refine lv_aload_n hx hb dX9_itemHere_14 rfl (lv_at hl 2 rfl) ?_
    refine lv_iload_n hx hb dX9_itemHere_15 rfl (lv_at hl 1 rfl) ?_
    obtain ⟨o_16, ho_16, hf⟩ := ht_bn_ob hf
    refine ht_callVv (rest := []) (As := [.int o_6]) (wc := (wMo K jM aM RM.s RM.held RM.aside RM.before RM.isHeld RM.tape RM.taped RM.token RM.frm RM.to RM.value RM.isWrong RM.unpaired RM.bestSound RM.bestWay RM.rows RM.rowN RM.sortOf RM.sizeOf RM.numbers RM.holdsWhat RM.holdsWhich RM.holdsMany RM.bodies RM.ran RM.actKind RM.actN RM.actA RM.isParted)) (wr := []) (w1 := (wMo K jM aM o_16.1 RM.held RM.aside RM.before RM.isHeld RM.tape RM.taped o_16.2.1 o_16.2.2.1 o_16.2.2.2.1 o_16.2.2.2.2.1 o_16.2.2.2.2.2 RM.unpaired RM.bestSound RM.bestWay RM.rows RM.rowN RM.sortOf RM.sizeOf RM.numbers RM.holdsWhat RM.holdsWhich RM.holdsMany RM.bodies RM.ran RM.actKind RM.actN RM.actA RM.isParted)) (w2 := (wMo K jM aM o_16.1 RM.held RM.aside RM.before RM.isHeld RM.tape RM.taped o_16.2.1 o_16.2.2.1 o_16.2.2.2.1 o_16.2.2.2.2.1 o_16.2.2.2.2.2 RM.unpaired RM.bestSound RM.bestWay RM.rows RM.rowN RM.sortOf RM.sizeOf RM.numbers RM.holdsWhat RM.holdsWhich RM.holdsMany RM.bodies RM.ran RM.actKind RM.actN RM.actA RM.isParted)) hF (ctX9_personHere l D K jM aM RM o_6 o_16 ho_16 H.size) (cwV 1 hts gX9_itemHere_X9_personHere rfl rfl rfl hdX9_personHere ⟨Nat.le_of_ble_eq_true rfl, Nat.le_of_ble_eq_true rfl⟩) hK hP hD hS hA [0, 1, 2, 3, 4, 5, 6, 7, 8, 9, 10, 11, 12, 13, 14, 15] [] rfl rfl (by decide) (by decide) (by decide) [0, 1, 2, 3, 4, 5, 6, 7, 8, 9, 10, 11, 12, 13, 14, 15] rfl (by decide) (va_recv hK hP (ci := 9) (q0 := 0) rfl rfl) rfl hl.1 rfl (Nat.le_of_ble_eq_true rfl) dX9_itemHere_16 ⟨Nat.zero_le _, Nat.zero_le _⟩ (fun H locs hP hD hS => ?_)
    refine lv_goto (tgt := 78) hx hb dX9_itemHere_19 (by decide) ?_
    exact b78  o_16.1 o_16.2.1 o_16.2.2.1 o_16.2.2.2.1 o_16.2.2.2.2.1 o_16.2.2.2.2.2 _ _ _ hf hP hD hS (lv_sub hl [2] rfl)
abbrev rmX9_town : Room := { frames := 7, cells := 0, slots := 0, locals := 153 }
theorem hdX9_town : yX9_town.cls = RX9 ∧ yX9_town.cls ≠ "java/lang/invoke/MethodHandle" ∧ yX9_town.cls ≠ "java/lang/invoke/VarHandle" ∧ (parseMethodDescriptor yX9_town.desc).map (fun d => d.parameters.length) = some 0 := by decide +kernel
def fX9_town_b50 (RM : ModV) (vM_s : AI) (vM_before : AI) (vM_taped : Int32) (vM_token : Int32) (vM_from : Int32) (vM_to : Int32) (vM_value : Int32) (vM_isWrong : Int32) (vM_rowN : Int32) : Option (Int32 × AI × AI × Int32 × Int32 × Int32 × Int32 × Int32 × Int32 × Int32) := if vM_isWrong = 0 then (ht_gd (ht_ix (0 : Int32) 57) (some ((vM_s (0 : Int32).toNatClampNeg), vM_s, vM_before, (0 : Int32), vM_token, vM_from, vM_to, vM_value, vM_isWrong, (0 : Int32)))) else (ht_bn (fX9_copyRow vM_before vM_s) (fun o_3 => some (((-100 : Int32) - vM_from), o_3, vM_before, (0 : Int32), vM_token, vM_from, vM_to, vM_value, vM_isWrong, vM_rowN)))
def fX9_town_b29 (RM : ModV) (k29 : AI → AI → Int32 → Int32 → Int32 → Int32 → Int32 → Int32 → Int32 → Option (Int32 × AI × AI × Int32 × Int32 × Int32 × Int32 × Int32 × Int32 × Int32)) (vM_s : AI) (vM_before : AI) (vM_taped : Int32) (vM_token : Int32) (vM_from : Int32) (vM_to : Int32) (vM_value : Int32) (vM_isWrong : Int32) (vM_rowN : Int32) : Option (Int32 × AI × AI × Int32 × Int32 × Int32 × Int32 × Int32 × Int32 × Int32) := if vM_isWrong = 0 then (if vM_token = 0 then (fX9_town_b50 RM vM_s vM_before vM_taped vM_token vM_from vM_to vM_value vM_isWrong vM_rowN) else (ht_bn (fX9_itemHere (vM_s, RM.held, RM.aside, vM_before, RM.isHeld, RM.tape, vM_taped, vM_token, vM_from, vM_to, vM_value, vM_isWrong, RM.unpaired, RM.bestSound, RM.bestWay, RM.rows, vM_rowN, RM.sortOf, RM.sizeOf, RM.numbers, RM.holdsWhat, RM.holdsWhich, RM.holdsMany, RM.bodies, RM.ran, RM.actKind, RM.actN, RM.actA, RM.isParted)) (fun o_6 => k29 o_6.1 vM_before vM_taped o_6.2.1 o_6.2.2.1 o_6.2.2.2.1 o_6.2.2.2.2.1 o_6.2.2.2.2.2 vM_rowN))) else (fX9_town_b50 RM vM_s vM_before vM_taped vM_token vM_from vM_to vM_value vM_isWrong vM_rowN)
def fX9_town (RM : ModV) : Option (Int32 × AI × AI × Int32 × Int32 × Int32 × Int32 × Int32 × Int32 × Int32) := ht_bn (fX9_copyRow RM.s RM.before) (fun o_7 => ht_bn (fX9_begins (RM.s, RM.held, RM.aside, o_7, RM.isHeld, RM.tape, RM.taped, RM.token, RM.frm, RM.to, RM.value, RM.isWrong, RM.unpaired, RM.bestSound, RM.bestWay, RM.rows, RM.rowN, RM.sortOf, RM.sizeOf, RM.numbers, RM.holdsWhat, RM.holdsWhich, RM.holdsMany, RM.bodies, RM.ran, RM.actKind, RM.actN, RM.actA, RM.isParted)) (fun o_8 => ht_bn (fX9_nextToken (o_8, RM.held, RM.aside, o_7, RM.isHeld, RM.tape, RM.taped, RM.token, RM.frm, (0 : Int32), RM.value, (0 : Int32), RM.unpaired, RM.bestSound, RM.bestWay, RM.rows, RM.rowN, RM.sortOf, RM.sizeOf, RM.numbers, RM.holdsWhat, RM.holdsWhich, RM.holdsMany, RM.bodies, RM.ran, RM.actKind, RM.actN, RM.actA, RM.isParted)) (fun o_9 => ht_lp9 (fX9_town_b29 RM) FU o_8 o_7 RM.taped o_9.1 o_9.2.1 o_9.2.2.1 o_9.2.2.2 (0 : Int32) RM.rowN)))
set_option maxHeartbeats 1000000 in
set_option maxRecDepth 100000 in
theorem ctX9_town (l : Launch) (D : va_G) (K : Nat → ClassId) (jM : Nat) (aM : Nat → Nat) (RM : ModV) (o : (Int32 × AI × AI × Int32 × Int32 × Int32 × Int32 × Int32 × Int32 × Int32)) (hf : fX9_town RM = some o) (sz : Nat) : Met l yX9_town wsX9_town rmX9_town (ht_Pre D K [.ref jM] (wMo K jM aM RM.s RM.held RM.aside RM.before RM.isHeld RM.tape RM.taped RM.token RM.frm RM.to RM.value RM.isWrong RM.unpaired RM.bestSound RM.bestWay RM.rows RM.rowN RM.sortOf RM.sizeOf RM.numbers RM.holdsWhat RM.holdsWhich RM.holdsMany RM.bodies RM.ran RM.actKind RM.actN RM.actA RM.isParted) sz) (ht_Qi D K (wMo K jM aM o.2.1 RM.held RM.aside o.2.2.1 RM.isHeld RM.tape o.2.2.2.1 o.2.2.2.2.1 o.2.2.2.2.2.1 o.2.2.2.2.2.2.1 o.2.2.2.2.2.2.2.1 o.2.2.2.2.2.2.2.2.1 RM.unpaired RM.bestSound RM.bestWay RM.rows o.2.2.2.2.2.2.2.2.2 RM.sortOf RM.sizeOf RM.numbers RM.holdsWhat RM.holdsWhich RM.holdsMany RM.bodies RM.ran RM.actKind RM.actN RM.actA RM.isParted) o.1 (va_A (wMo K jM aM RM.s RM.held RM.aside RM.before RM.isHeld RM.tape RM.taped RM.token RM.frm RM.to RM.value RM.isWrong RM.unpaired RM.bestSound RM.bestWay RM.rows RM.rowN RM.sortOf RM.sizeOf RM.numbers RM.holdsWhat RM.holdsWhich RM.holdsMany RM.bodies RM.ran RM.actKind RM.actN RM.actA RM.isParted) sz)) 0 0 (va_A (wMo K jM aM RM.s RM.held RM.aside RM.before RM.isHeld RM.tape RM.taped RM.token RM.frm RM.to RM.value RM.isWrong RM.unpaired RM.bestSound RM.bestWay RM.rows RM.rowN RM.sortOf RM.sizeOf RM.numbers RM.holdsWhat RM.holdsWhich RM.holdsMany RM.bodies RM.ran RM.actKind RM.actN RM.actA RM.isParted) sz) := by
  refine ht_enter (Qf := ht_Qi D K (wMo K jM aM o.2.1 RM.held RM.aside o.2.2.1 RM.isHeld RM.tape o.2.2.2.1 o.2.2.2.2.1 o.2.2.2.2.2.1 o.2.2.2.2.2.2.1 o.2.2.2.2.2.2.2.1 o.2.2.2.2.2.2.2.2.1 RM.unpaired RM.bestSound RM.bestWay RM.rows o.2.2.2.2.2.2.2.2.2 RM.sortOf RM.sizeOf RM.numbers RM.holdsWhat RM.holdsWhich RM.holdsMany RM.bodies RM.ran RM.actKind RM.actN RM.actA RM.isParted) o.1) (cc := cX9_town) (maxL := 1) (rt := (some .int)) (by decide) rfl (Nat.le_of_ble_eq_true rfl) ?_ sz
  intro p e s m below meth c A Q H locs ls hQ hx hb hr hlk hmn hml hown hts hA hK hP hD hS hl
  have hown : s.vm.findClass RX9 = some m.cls := hown
  have hF : CallFix p m c cX9_town 1 s ([.ref jM] : List Value).toArray wsX9_town RX9 := ⟨hx, hb, hml, hown, hts⟩
  have hl : lv_has ls 1 [(0, .ref jM)] := hl
  have iw9 : ∀ w ∈ u_ws RX9 TX9 29, w ∈ wsX9_town := by decide +kernel
  have kw1 := hts (.fieldLink RX9 64 "HeldTonguesModel" "taped" "I") (by decide +kernel)
  have kw2 := hts (.fieldLink RX9 93 "HeldTonguesModel" "isWrong" "Z") (by decide +kernel)
  have kw3 := hts (.fieldLink RX9 157 "HeldTonguesModel" "rowN" "I") (by decide +kernel)
  have kw4 := hts (.fieldLink RX9 7 "HeldTonguesModel" "s" "[I") (by decide +kernel)
  have kw5 := hts (.fieldLink RX9 19 "HeldTonguesModel" "before" "[I") (by decide +kernel)
  have kw6 := hts (.fieldLink RX9 73 "HeldTonguesModel" "from" "I") (by decide +kernel)
  have kw7 := hts (.fieldLink RX9 87 "HeldTonguesModel" "token" "I") (by decide +kernel)
  have kw8 := hts (.fieldLink RX9 70 "HeldTonguesModel" "to" "I") (by decide +kernel)
  have b50 : ∀ (vM_s : AI) (vM_before : AI) (vM_taped : Int32) (vM_token : Int32) (vM_from : Int32) (vM_to : Int32) (vM_value : Int32) (vM_isWrong : Int32) (vM_rowN : Int32) (H : Heap) (locs : List Loc) (ls : Array Slot), fX9_town_b50 RM vM_s vM_before vM_taped vM_token vM_from vM_to vM_value vM_isWrong vM_rowN = some o → va_P D vwCl (wMo K jM aM vM_s RM.held RM.aside vM_before RM.isHeld RM.tape vM_taped vM_token vM_from vM_to vM_value vM_isWrong RM.unpaired RM.bestSound RM.bestWay RM.rows vM_rowN RM.sortOf RM.sizeOf RM.numbers RM.holdsWhat RM.holdsWhich RM.holdsMany RM.bodies RM.ran RM.actKind RM.actN RM.actA RM.isParted) H → va_D A (wMo K jM aM vM_s RM.held RM.aside vM_before RM.isHeld RM.tape vM_taped vM_token vM_from vM_to vM_value vM_isWrong RM.unpaired RM.bestSound RM.bestWay RM.rows vM_rowN RM.sortOf RM.sizeOf RM.numbers RM.holdsWhat RM.holdsWhich RM.holdsMany RM.bodies RM.ran RM.actKind RM.actN RM.actA RM.isParted) → va_S A s.heap H locs → lv_has ls 1 [(0, .ref jM)] → W p l e (headSpec wsX9_town rmX9_town).room s m ([.ref jM] : List Value).toArray below meth c H locs 0 0 Q (F0 m 50 ls []) := by
    intro vM_s vM_before vM_taped vM_token vM_from vM_to vM_value vM_isWrong vM_rowN H locs ls hf hP hD hS hl
    delta fX9_town_b50 at hf
    refine lv_aload_n hx hb dX9_town_50 rfl (lv_at hl 0 rfl) ?_
    refine lv_iconst (v := 0) hx hb dX9_town_51 (by decide) ?_
    refine ht_put (ci := 9) (v := .int (0 : Int32)) (ty := .int) (C := RX9) (T := TX9) (N := 29) (w2 := (wMo K jM aM vM_s RM.held RM.aside vM_before RM.isHeld RM.tape (0 : Int32) vM_token vM_from vM_to vM_value vM_isWrong RM.unpaired RM.bestSound RM.bestWay RM.rows vM_rowN RM.sortOf RM.sizeOf RM.numbers RM.holdsWhat RM.holdsWhich RM.holdsMany RM.bodies RM.ran RM.actKind RM.actN RM.actA RM.isParted)) hx hb hts iw9 tyX9 tyX9_ok nmX9 hown hK hP hD hS 0 rfl rfl 6 (by decide) kw1 (fun _ h9 => h9) rfl (by decide +kernel) rfl rfl (Nat.le_of_ble_eq_true rfl) dX9_town_52 rfl (fun H locs hP hD hS => ?_)
    refine lv_aload_n hx hb dX9_town_55 rfl (lv_at hl 0 rfl) ?_
    refine va_get (D := D) (ci := 9) (v := .int vM_isWrong) (C := RX9) (T := TX9) (N := 29) hx hb hts iw9 hown hK hP 0 rfl rfl 11 (by decide) kw2 (fun _ h9 => h9) rfl dX9_town_56 ?_
    refine lv_if_eq (tgt := 81) hx hb dX9_town_59 (by decide) (fun c_1 => ?_) (fun c_1 => ?_)
    · replace hf := ht_t c_1 hf
      refine lv_aload_n hx hb dX9_town_81 rfl (lv_at hl 0 rfl) ?_
      refine lv_iconst (v := 0) hx hb dX9_town_82 (by decide) ?_
      refine ht_put (ci := 9) (v := .int (0 : Int32)) (ty := .int) (C := RX9) (T := TX9) (N := 29) (w2 := (wMo K jM aM vM_s RM.held RM.aside vM_before RM.isHeld RM.tape (0 : Int32) vM_token vM_from vM_to vM_value vM_isWrong RM.unpaired RM.bestSound RM.bestWay RM.rows (0 : Int32) RM.sortOf RM.sizeOf RM.numbers RM.holdsWhat RM.holdsWhich RM.holdsMany RM.bodies RM.ran RM.actKind RM.actN RM.actA RM.isParted)) hx hb hts iw9 tyX9 tyX9_ok nmX9 hown hK hP hD hS 0 rfl rfl 16 (by decide) kw3 (fun _ h9 => h9) rfl (by decide +kernel) rfl rfl (Nat.le_of_ble_eq_true rfl) dX9_town_83 rfl (fun H locs hP hD hS => ?_)
      refine lv_aload_n hx hb dX9_town_86 rfl (lv_at hl 0 rfl) ?_
      refine va_get (D := D) (ci := 9) (v := .ref (aM 0)) (C := RX9) (T := TX9) (N := 29) hx hb hts iw9 hown hK hP 0 rfl rfl 0 (by decide) kw4 (fun _ h9 => h9) rfl dX9_town_87 ?_
      refine lv_iconst (v := 0) hx hb dX9_town_90 (by decide) ?_
      obtain ⟨g_2, hf⟩ := ht_gd_ob hf
      refine va_iald hx hb hK hP 1 1 rfl rfl (ht_ix_in g_2) dX9_town_91 ?_
      have ho := Option.some.inj hf
      subst ho; subst hQ
      exact ht_iret hx hb hr hlk rfl hK hP hD hS dX9_town_92
    · replace hf := ht_f c_1 hf
      refine lv_aload_n hx hb dX9_town_62 rfl (lv_at hl 0 rfl) ?_
      refine va_get (D := D) (ci := 9) (v := .ref (aM 3)) (C := RX9) (T := TX9) (N := 29) hx hb hts iw9 hown hK hP 0 rfl rfl 3 (by decide) kw5 (fun _ h9 => h9) rfl dX9_town_63 ?_
      refine lv_aload_n hx hb dX9_town_66 rfl (lv_at hl 0 rfl) ?_
      refine va_get (D := D) (ci := 9) (v := .ref (aM 0)) (C := RX9) (T := TX9) (N := 29) hx hb hts iw9 hown hK hP 0 rfl rfl 0 (by decide) kw4 (fun _ h9 => h9) rfl dX9_town_67 ?_
      obtain ⟨o_3, ho_3, hf⟩ := ht_bn_ob hf
      refine ht_callSv (rest := []) (As := [.ref (aM 3), .ref (aM 0)]) (wc := (wAr K 57 (aM 3) vM_before ++ (wAr K 57 (aM 0) vM_s))) (wr := ([(jM, .inr (9, [.ref (aM 0), .ref (aM 1), .ref (aM 2), .ref (aM 3), .int RM.isHeld, .ref (aM 4), .int (0 : Int32), .int vM_token, .int vM_from, .int vM_to, .int vM_value, .int vM_isWrong, .ref (aM 5), .int RM.bestSound, .ref (aM 6), .ref (aM 7), .int vM_rowN, .ref (aM 8), .ref (aM 9), .ref (aM 10), .ref (aM 11), .ref (aM 12), .ref (aM 13), .ref (aM 14), .int RM.ran, .int RM.actKind, .int RM.actN, .int RM.actA, .int RM.isParted]))] ++ ([(aM 1, .inl (K 1, 57, .inl RM.held))] ++ ([(aM 2, .inl (K 1, 57, .inl RM.aside))] ++ ([(aM 4, .inl (K 1, 200, .inl RM.tape))] ++ ([(aM 5, .inl (K 1, 57, .inl RM.unpaired))] ++ ([(aM 6, .inl (K 1, 8, .inl RM.bestWay))] ++ ([(aM 7, .inl (K 1, 30, .inl RM.rows))] ++ ([(aM 8, .inl (K 1, 4, .inl RM.sortOf))] ++ ([(aM 9, .inl (K 1, 4, .inl RM.sizeOf))] ++ ([(aM 10, .inl (K 1, 160, .inl RM.numbers))] ++ ([(aM 11, .inl (K 1, 4, .inl RM.holdsWhat))] ++ ([(aM 12, .inl (K 1, 4, .inl RM.holdsWhich))] ++ ([(aM 13, .inl (K 1, 4, .inl RM.holdsMany))] ++ ([(aM 14, .inl (K 1, 30, .inl RM.bodies))]))))))))))))))) (w1 := (wAr K 57 (aM 3) vM_before ++ (wAr K 57 (aM 0) o_3))) (w2 := (wMo K jM aM o_3 RM.held RM.aside vM_before RM.isHeld RM.tape (0 : Int32) vM_token vM_from vM_to vM_value vM_isWrong RM.unpaired RM.bestSound RM.bestWay RM.rows vM_rowN RM.sortOf RM.sizeOf RM.numbers RM.holdsWhat RM.holdsWhich RM.holdsMany RM.bodies RM.ran RM.actKind RM.actN RM.actA RM.isParted)) hF (ctX9_copyRow l D K (aM 3) (aM 0) vM_before vM_s o_3 ho_3 H.size) (va_cwS 2 hts gX9_town_X9_copyRow rfl rfl rfl hdX9_copyRow ⟨Nat.le_of_ble_eq_true rfl, Nat.le_of_ble_eq_true rfl⟩) hK hP hD hS hA [4, 1] [0, 2, 3, 5, 6, 7, 8, 9, 10, 11, 12, 13, 14, 15] rfl rfl (by decide) (by decide) (by decide) [0, 15, 1, 2, 14, 3, 4, 5, 6, 7, 8, 9, 10, 11, 12, 13] rfl (by decide) rfl hl.1 rfl (Nat.le_of_ble_eq_true rfl) dX9_town_70 ⟨Nat.zero_le _, Nat.zero_le _⟩ (fun H locs hP hD hS => ?_)
      refine lv_bipush (v := -100) hx hb dX9_town_73 (by decide) ?_
      refine lv_aload_n hx hb dX9_town_75 rfl (lv_at hl 0 rfl) ?_
      refine va_get (D := D) (ci := 9) (v := .int vM_from) (C := RX9) (T := TX9) (N := 29) hx hb hts iw9 hown hK hP 0 rfl rfl 8 (by decide) kw6 (fun _ h9 => h9) rfl dX9_town_76 ?_
      refine lv_isub hx hb dX9_town_79 ?_
      have ho := Option.some.inj hf
      subst ho; subst hQ
      exact ht_iret hx hb hr hlk rfl hK hP hD hS dX9_town_80
  have b29 : ∀ (n : Nat) (vM_s : AI) (vM_before : AI) (vM_taped : Int32) (vM_token : Int32) (vM_from : Int32) (vM_to : Int32) (vM_value : Int32) (vM_isWrong : Int32) (vM_rowN : Int32) (H : Heap) (locs : List Loc) (ls : Array Slot), ht_lp9 (fX9_town_b29 RM) n vM_s vM_before vM_taped vM_token vM_from vM_to vM_value vM_isWrong vM_rowN = some o → va_P D vwCl (wMo K jM aM vM_s RM.held RM.aside vM_before RM.isHeld RM.tape vM_taped vM_token vM_from vM_to vM_value vM_isWrong RM.unpaired RM.bestSound RM.bestWay RM.rows vM_rowN RM.sortOf RM.sizeOf RM.numbers RM.holdsWhat RM.holdsWhich RM.holdsMany RM.bodies RM.ran RM.actKind RM.actN RM.actA RM.isParted) H → va_D A (wMo K jM aM vM_s RM.held RM.aside vM_before RM.isHeld RM.tape vM_taped vM_token vM_from vM_to vM_value vM_isWrong RM.unpaired RM.bestSound RM.bestWay RM.rows vM_rowN RM.sortOf RM.sizeOf RM.numbers RM.holdsWhat RM.holdsWhich RM.holdsMany RM.bodies RM.ran RM.actKind RM.actN RM.actA RM.isParted) → va_S A s.heap H locs → lv_has ls 1 [(0, .ref jM)] → W p l e (headSpec wsX9_town rmX9_town).room s m ([.ref jM] : List Value).toArray below meth c H locs 0 0 Q (F0 m 29 ls []) := by
    intro n
    induction n with
    | zero =>
      intro vM_s vM_before vM_taped vM_token vM_from vM_to vM_value vM_isWrong vM_rowN H locs ls hf hP hD hS hl
      cases (show (none : Option (Int32 × AI × AI × Int32 × Int32 × Int32 × Int32 × Int32 × Int32 × Int32)) = some o from hf)
    | succ n hk29 =>
      intro vM_s vM_before vM_taped vM_token vM_from vM_to vM_value vM_isWrong vM_rowN H locs ls hf hP hD hS hl
      replace hf : fX9_town_b29 RM (ht_lp9 (fX9_town_b29 RM) n) vM_s vM_before vM_taped vM_token vM_from vM_to vM_value vM_isWrong vM_rowN = some o := hf
      delta fX9_town_b29 at hf
      refine lv_aload_n hx hb dX9_town_29 rfl (lv_at hl 0 rfl) ?_
      refine va_get (D := D) (ci := 9) (v := .int vM_isWrong) (C := RX9) (T := TX9) (N := 29) hx hb hts iw9 hown hK hP 0 rfl rfl 11 (by decide) kw2 (fun _ h9 => h9) rfl dX9_town_30 ?_
      refine lv_if_ne (tgt := 50) hx hb dX9_town_33 (by decide) (fun c_4 => ?_) (fun c_4 => ?_)
      · replace hf := ht_f c_4 hf
        exact b50  vM_s vM_before vM_taped vM_token vM_from vM_to vM_value vM_isWrong vM_rowN _ _ _ hf hP hD hS hl
      · replace hf := ht_t c_4 hf
        refine lv_aload_n hx hb dX9_town_36 rfl (lv_at hl 0 rfl) ?_
        refine va_get (D := D) (ci := 9) (v := .int vM_token) (C := RX9) (T := TX9) (N := 29) hx hb hts iw9 hown hK hP 0 rfl rfl 7 (by decide) kw7 (fun _ h9 => h9) rfl dX9_town_37 ?_
        refine lv_if_eq (tgt := 50) hx hb dX9_town_40 (by decide) (fun c_5 => ?_) (fun c_5 => ?_)
        · replace hf := ht_t c_5 hf
          exact b50  vM_s vM_before vM_taped vM_token vM_from vM_to vM_value vM_isWrong vM_rowN _ _ _ hf hP hD hS hl
        · replace hf := ht_f c_5 hf
          refine lv_aload_n hx hb dX9_town_43 rfl (lv_at hl 0 rfl) ?_
          obtain ⟨o_6, ho_6, hf⟩ := ht_bn_ob hf
          refine ht_callVv (rest := []) (As := []) (wc := (wMo K jM aM vM_s RM.held RM.aside vM_before RM.isHeld RM.tape vM_taped vM_token vM_from vM_to vM_value vM_isWrong RM.unpaired RM.bestSound RM.bestWay RM.rows vM_rowN RM.sortOf RM.sizeOf RM.numbers RM.holdsWhat RM.holdsWhich RM.holdsMany RM.bodies RM.ran RM.actKind RM.actN RM.actA RM.isParted)) (wr := []) (w1 := (wMo K jM aM o_6.1 RM.held RM.aside vM_before RM.isHeld RM.tape vM_taped o_6.2.1 o_6.2.2.1 o_6.2.2.2.1 o_6.2.2.2.2.1 o_6.2.2.2.2.2 RM.unpaired RM.bestSound RM.bestWay RM.rows vM_rowN RM.sortOf RM.sizeOf RM.numbers RM.holdsWhat RM.holdsWhich RM.holdsMany RM.bodies RM.ran RM.actKind RM.actN RM.actA RM.isParted)) (w2 := (wMo K jM aM o_6.1 RM.held RM.aside vM_before RM.isHeld RM.tape vM_taped o_6.2.1 o_6.2.2.1 o_6.2.2.2.1 o_6.2.2.2.2.1 o_6.2.2.2.2.2 RM.unpaired RM.bestSound RM.bestWay RM.rows vM_rowN RM.sortOf RM.sizeOf RM.numbers RM.holdsWhat RM.holdsWhich RM.holdsMany RM.bodies RM.ran RM.actKind RM.actN RM.actA RM.isParted)) hF (ctX9_itemHere l D K jM aM (vM_s, RM.held, RM.aside, vM_before, RM.isHeld, RM.tape, vM_taped, vM_token, vM_from, vM_to, vM_value, vM_isWrong, RM.unpaired, RM.bestSound, RM.bestWay, RM.rows, vM_rowN, RM.sortOf, RM.sizeOf, RM.numbers, RM.holdsWhat, RM.holdsWhich, RM.holdsMany, RM.bodies, RM.ran, RM.actKind, RM.actN, RM.actA, RM.isParted) o_6 ho_6 H.size) (cwV 0 hts gX9_town_X9_itemHere rfl rfl rfl hdX9_itemHere ⟨Nat.le_of_ble_eq_true rfl, Nat.le_of_ble_eq_true rfl⟩) hK hP hD hS hA [0, 1, 2, 3, 4, 5, 6, 7, 8, 9, 10, 11, 12, 13, 14, 15] [] rfl rfl (by decide) (by decide) (by decide) [0, 1, 2, 3, 4, 5, 6, 7, 8, 9, 10, 11, 12, 13, 14, 15] rfl (by decide) (va_recv hK hP (ci := 9) (q0 := 0) rfl rfl) rfl hl.1 rfl (Nat.le_of_ble_eq_true rfl) dX9_town_44 ⟨Nat.zero_le _, Nat.zero_le _⟩ (fun H locs hP hD hS => ?_)
          refine lv_goto (tgt := 29) hx hb dX9_town_47 (by decide) ?_
          exact hk29 o_6.1 vM_before vM_taped o_6.2.1 o_6.2.2.1 o_6.2.2.2.1 o_6.2.2.2.2.1 o_6.2.2.2.2.2 vM_rowN _ _ _ hf hP hD hS hl
  delta fX9_town at hf
  refine lv_aload_n hx hb dX9_town_0 rfl (lv_at hl 0 rfl) ?_
  refine va_get (D := D) (ci := 9) (v := .ref (aM 0)) (C := RX9) (T := TX9) (N := 29) hx hb hts iw9 hown hK hP 0 rfl rfl 0 (by decide) kw4 (fun _ h9 => h9) rfl dX9_town_1 ?_
  refine lv_aload_n hx hb dX9_town_4 rfl (lv_at hl 0 rfl) ?_
  refine va_get (D := D) (ci := 9) (v := .ref (aM 3)) (C := RX9) (T := TX9) (N := 29) hx hb hts iw9 hown hK hP 0 rfl rfl 3 (by decide) kw5 (fun _ h9 => h9) rfl dX9_town_5 ?_
  obtain ⟨o_7, ho_7, hf⟩ := ht_bn_ob hf
  refine ht_callSv (rest := []) (As := [.ref (aM 0), .ref (aM 3)]) (wc := (wAr K 57 (aM 0) RM.s ++ (wAr K 57 (aM 3) RM.before))) (wr := ([(jM, .inr (9, [.ref (aM 0), .ref (aM 1), .ref (aM 2), .ref (aM 3), .int RM.isHeld, .ref (aM 4), .int RM.taped, .int RM.token, .int RM.frm, .int RM.to, .int RM.value, .int RM.isWrong, .ref (aM 5), .int RM.bestSound, .ref (aM 6), .ref (aM 7), .int RM.rowN, .ref (aM 8), .ref (aM 9), .ref (aM 10), .ref (aM 11), .ref (aM 12), .ref (aM 13), .ref (aM 14), .int RM.ran, .int RM.actKind, .int RM.actN, .int RM.actA, .int RM.isParted]))] ++ ([(aM 1, .inl (K 1, 57, .inl RM.held))] ++ ([(aM 2, .inl (K 1, 57, .inl RM.aside))] ++ ([(aM 4, .inl (K 1, 200, .inl RM.tape))] ++ ([(aM 5, .inl (K 1, 57, .inl RM.unpaired))] ++ ([(aM 6, .inl (K 1, 8, .inl RM.bestWay))] ++ ([(aM 7, .inl (K 1, 30, .inl RM.rows))] ++ ([(aM 8, .inl (K 1, 4, .inl RM.sortOf))] ++ ([(aM 9, .inl (K 1, 4, .inl RM.sizeOf))] ++ ([(aM 10, .inl (K 1, 160, .inl RM.numbers))] ++ ([(aM 11, .inl (K 1, 4, .inl RM.holdsWhat))] ++ ([(aM 12, .inl (K 1, 4, .inl RM.holdsWhich))] ++ ([(aM 13, .inl (K 1, 4, .inl RM.holdsMany))] ++ ([(aM 14, .inl (K 1, 30, .inl RM.bodies))]))))))))))))))) (w1 := (wAr K 57 (aM 0) RM.s ++ (wAr K 57 (aM 3) o_7))) (w2 := (wMo K jM aM RM.s RM.held RM.aside o_7 RM.isHeld RM.tape RM.taped RM.token RM.frm RM.to RM.value RM.isWrong RM.unpaired RM.bestSound RM.bestWay RM.rows RM.rowN RM.sortOf RM.sizeOf RM.numbers RM.holdsWhat RM.holdsWhich RM.holdsMany RM.bodies RM.ran RM.actKind RM.actN RM.actA RM.isParted)) hF (ctX9_copyRow l D K (aM 0) (aM 3) RM.s RM.before o_7 ho_7 H.size) (va_cwS 2 hts gX9_town_X9_copyRow rfl rfl rfl hdX9_copyRow ⟨Nat.le_of_ble_eq_true rfl, Nat.le_of_ble_eq_true rfl⟩) hK hP hD hS hA [1, 4] [0, 2, 3, 5, 6, 7, 8, 9, 10, 11, 12, 13, 14, 15] rfl rfl (by decide) (by decide) (by decide) [0, 14, 1, 2, 15, 3, 4, 5, 6, 7, 8, 9, 10, 11, 12, 13] rfl (by decide) rfl hl.1 rfl (Nat.le_of_ble_eq_true rfl) dX9_town_8 ⟨Nat.zero_le _, Nat.zero_le _⟩ (fun H locs hP hD hS => ?_)
  refine lv_aload_n hx hb dX9_town_11 rfl (lv_at hl 0 rfl) ?_
  obtain ⟨o_8, ho_8, hf⟩ := ht_bn_ob hf
  refine ht_callVv (rest := []) (As := []) (wc := (wMo K jM aM RM.s RM.held RM.aside o_7 RM.isHeld RM.tape RM.taped RM.token RM.frm RM.to RM.value RM.isWrong RM.unpaired RM.bestSound RM.bestWay RM.rows RM.rowN RM.sortOf RM.sizeOf RM.numbers RM.holdsWhat RM.holdsWhich RM.holdsMany RM.bodies RM.ran RM.actKind RM.actN RM.actA RM.isParted)) (wr := []) (w1 := (wMo K jM aM o_8 RM.held RM.aside o_7 RM.isHeld RM.tape RM.taped RM.token RM.frm RM.to RM.value RM.isWrong RM.unpaired RM.bestSound RM.bestWay RM.rows RM.rowN RM.sortOf RM.sizeOf RM.numbers RM.holdsWhat RM.holdsWhich RM.holdsMany RM.bodies RM.ran RM.actKind RM.actN RM.actA RM.isParted)) (w2 := (wMo K jM aM o_8 RM.held RM.aside o_7 RM.isHeld RM.tape RM.taped RM.token RM.frm RM.to RM.value RM.isWrong RM.unpaired RM.bestSound RM.bestWay RM.rows RM.rowN RM.sortOf RM.sizeOf RM.numbers RM.holdsWhat RM.holdsWhich RM.holdsMany RM.bodies RM.ran RM.actKind RM.actN RM.actA RM.isParted)) hF (ctX9_begins l D K jM aM (RM.s, RM.held, RM.aside, o_7, RM.isHeld, RM.tape, RM.taped, RM.token, RM.frm, RM.to, RM.value, RM.isWrong, RM.unpaired, RM.bestSound, RM.bestWay, RM.rows, RM.rowN, RM.sortOf, RM.sizeOf, RM.numbers, RM.holdsWhat, RM.holdsWhich, RM.holdsMany, RM.bodies, RM.ran, RM.actKind, RM.actN, RM.actA, RM.isParted) o_8 ho_8 H.size) (cwV 0 hts gX9_town_X9_begins rfl rfl rfl hdX9_begins ⟨Nat.le_of_ble_eq_true rfl, Nat.le_of_ble_eq_true rfl⟩) hK hP hD hS hA [0, 1, 2, 3, 4, 5, 6, 7, 8, 9, 10, 11, 12, 13, 14, 15] [] rfl rfl (by decide) (by decide) (by decide) [0, 1, 2, 3, 4, 5, 6, 7, 8, 9, 10, 11, 12, 13, 14, 15] rfl (by decide) (va_recv hK hP (ci := 9) (q0 := 0) rfl rfl) rfl hl.1 rfl (Nat.le_of_ble_eq_true rfl) dX9_town_12 ⟨Nat.zero_le _, Nat.zero_le _⟩ (fun H locs hP hD hS => ?_)
  refine lv_aload_n hx hb dX9_town_15 rfl (lv_at hl 0 rfl) ?_
  refine lv_iconst (v := 0) hx hb dX9_town_16 (by decide) ?_
  refine ht_put (ci := 9) (v := .int (0 : Int32)) (ty := .int) (C := RX9) (T := TX9) (N := 29) (w2 := (wMo K jM aM o_8 RM.held RM.aside o_7 RM.isHeld RM.tape RM.taped RM.token RM.frm (0 : Int32) RM.value RM.isWrong RM.unpaired RM.bestSound RM.bestWay RM.rows RM.rowN RM.sortOf RM.sizeOf RM.numbers RM.holdsWhat RM.holdsWhich RM.holdsMany RM.bodies RM.ran RM.actKind RM.actN RM.actA RM.isParted)) hx hb hts iw9 tyX9 tyX9_ok nmX9 hown hK hP hD hS 0 rfl rfl 9 (by decide) kw8 (fun _ h9 => h9) rfl (by decide +kernel) rfl rfl (Nat.le_of_ble_eq_true rfl) dX9_town_17 rfl (fun H locs hP hD hS => ?_)
  refine lv_aload_n hx hb dX9_town_20 rfl (lv_at hl 0 rfl) ?_
  refine lv_iconst (v := 0) hx hb dX9_town_21 (by decide) ?_
  refine ht_put (ci := 9) (v := .int (0 : Int32)) (ty := .boolean) (C := RX9) (T := TX9) (N := 29) (w2 := (wMo K jM aM o_8 RM.held RM.aside o_7 RM.isHeld RM.tape RM.taped RM.token RM.frm (0 : Int32) RM.value (0 : Int32) RM.unpaired RM.bestSound RM.bestWay RM.rows RM.rowN RM.sortOf RM.sizeOf RM.numbers RM.holdsWhat RM.holdsWhich RM.holdsMany RM.bodies RM.ran RM.actKind RM.actN RM.actA RM.isParted)) hx hb hts iw9 tyX9 tyX9_ok nmX9 hown hK hP hD hS 0 rfl rfl 11 (by decide) kw2 (fun _ h9 => h9) rfl (by decide +kernel) rfl rfl (Nat.le_of_ble_eq_true rfl) dX9_town_22 rfl (fun H locs hP hD hS => ?_)
  refine lv_aload_n hx hb dX9_town_25 rfl (lv_at hl 0 rfl) ?_
  obtain ⟨o_9, ho_9, hf⟩ := ht_bn_ob hf
  refine ht_callVv (rest := []) (As := []) (wc := (wMo K jM aM o_8 RM.held RM.aside o_7 RM.isHeld RM.tape RM.taped RM.token RM.frm (0 : Int32) RM.value (0 : Int32) RM.unpaired RM.bestSound RM.bestWay RM.rows RM.rowN RM.sortOf RM.sizeOf RM.numbers RM.holdsWhat RM.holdsWhich RM.holdsMany RM.bodies RM.ran RM.actKind RM.actN RM.actA RM.isParted)) (wr := []) (w1 := (wMo K jM aM o_8 RM.held RM.aside o_7 RM.isHeld RM.tape RM.taped o_9.1 o_9.2.1 o_9.2.2.1 o_9.2.2.2 (0 : Int32) RM.unpaired RM.bestSound RM.bestWay RM.rows RM.rowN RM.sortOf RM.sizeOf RM.numbers RM.holdsWhat RM.holdsWhich RM.holdsMany RM.bodies RM.ran RM.actKind RM.actN RM.actA RM.isParted)) (w2 := (wMo K jM aM o_8 RM.held RM.aside o_7 RM.isHeld RM.tape RM.taped o_9.1 o_9.2.1 o_9.2.2.1 o_9.2.2.2 (0 : Int32) RM.unpaired RM.bestSound RM.bestWay RM.rows RM.rowN RM.sortOf RM.sizeOf RM.numbers RM.holdsWhat RM.holdsWhich RM.holdsMany RM.bodies RM.ran RM.actKind RM.actN RM.actA RM.isParted)) hF (ctX9_nextToken l D K jM aM (o_8, RM.held, RM.aside, o_7, RM.isHeld, RM.tape, RM.taped, RM.token, RM.frm, (0 : Int32), RM.value, (0 : Int32), RM.unpaired, RM.bestSound, RM.bestWay, RM.rows, RM.rowN, RM.sortOf, RM.sizeOf, RM.numbers, RM.holdsWhat, RM.holdsWhich, RM.holdsMany, RM.bodies, RM.ran, RM.actKind, RM.actN, RM.actA, RM.isParted) o_9 ho_9 H.size) (cwV 0 hts gX9_town_X9_nextToken rfl rfl rfl hdX9_nextToken ⟨Nat.le_of_ble_eq_true rfl, Nat.le_of_ble_eq_true rfl⟩) hK hP hD hS hA [0, 1, 2, 3, 4, 5, 6, 7, 8, 9, 10, 11, 12, 13, 14, 15] [] rfl rfl (by decide) (by decide) (by decide) [0, 1, 2, 3, 4, 5, 6, 7, 8, 9, 10, 11, 12, 13, 14, 15] rfl (by decide) (va_recv hK hP (ci := 9) (q0 := 0) rfl rfl) rfl hl.1 rfl (Nat.le_of_ble_eq_true rfl) dX9_town_26 ⟨Nat.zero_le _, Nat.zero_le _⟩ (fun H locs hP hD hS => ?_)
  exact b29  FU o_8 o_7 RM.taped o_9.1 o_9.2.1 o_9.2.2.1 o_9.2.2.2 (0 : Int32) RM.rowN _ _ _ hf hP hD hS hl
abbrev rmX9_set : Room := { frames := 1, cells := 0, slots := 0, locals := 25 }
theorem hdX9_set : yX9_set.cls = RX9 ∧ yX9_set.cls ≠ "java/lang/invoke/MethodHandle" ∧ yX9_set.cls ≠ "java/lang/invoke/VarHandle" ∧ (parseMethodDescriptor yX9_set.desc).map (fun d => d.parameters.length) = some 2 := by decide +kernel
def fX9_set_b29 (RM : ModV) (x1 : Int32) (x2 : Int32) (t0 : Int64) (t1 : Int64) (t2 : Int64) (vM_s : AI) : Option (Int32 × AI) := ht_bn (fX9_isIn t0 t1 t2) (fun o_1 => if o_1 = 0 then (some ((-1 : Int32), vM_s)) else (ht_bn (fX9_becomes (vM_s, RM.held, RM.aside, RM.before, RM.isHeld, RM.tape, RM.taped, RM.token, RM.frm, RM.to, RM.value, RM.isWrong, RM.unpaired, RM.bestSound, RM.bestWay, RM.rows, RM.rowN, RM.sortOf, RM.sizeOf, RM.numbers, RM.holdsWhat, RM.holdsWhich, RM.holdsMany, RM.bodies, RM.ran, RM.actKind, RM.actN, RM.actA, RM.isParted) ((5 : Int32) + x1) x2) (fun o_3 => some (o_3.1, o_3.2))))
def fX9_set (RM : ModV) (p0 : Int32) (p1 : Int32) : Option (Int32 × AI) := ht_bn (fX9_isIn p0.toInt64 (0 : Int64) (3 : Int64)) (fun o_4 => if o_4 = 0 then (some ((-1 : Int32), RM.s)) else (if p0 = (3 : Int32) then (fX9_set_b29 RM p0 p1 p1.toInt64 (0 : Int64) (99 : Int64) RM.s) else (fX9_set_b29 RM p0 p1 p1.toInt64 (0 : Int64) (9 : Int64) RM.s)))
set_option maxHeartbeats 1000000 in
set_option maxRecDepth 100000 in
theorem ctX9_set (l : Launch) (D : va_G) (K : Nat → ClassId) (jM : Nat) (aM : Nat → Nat) (RM : ModV) (p0 : Int32) (p1 : Int32) (o : (Int32 × AI)) (hf : fX9_set RM p0 p1 = some o) (sz : Nat) : Met l yX9_set wsX9_set rmX9_set (ht_Pre D K [.ref jM, .int p0, .int p1] (wMo K jM aM RM.s RM.held RM.aside RM.before RM.isHeld RM.tape RM.taped RM.token RM.frm RM.to RM.value RM.isWrong RM.unpaired RM.bestSound RM.bestWay RM.rows RM.rowN RM.sortOf RM.sizeOf RM.numbers RM.holdsWhat RM.holdsWhich RM.holdsMany RM.bodies RM.ran RM.actKind RM.actN RM.actA RM.isParted) sz) (ht_Qi D K (wMo K jM aM o.2 RM.held RM.aside RM.before RM.isHeld RM.tape RM.taped RM.token RM.frm RM.to RM.value RM.isWrong RM.unpaired RM.bestSound RM.bestWay RM.rows RM.rowN RM.sortOf RM.sizeOf RM.numbers RM.holdsWhat RM.holdsWhich RM.holdsMany RM.bodies RM.ran RM.actKind RM.actN RM.actA RM.isParted) o.1 (va_A (wMo K jM aM RM.s RM.held RM.aside RM.before RM.isHeld RM.tape RM.taped RM.token RM.frm RM.to RM.value RM.isWrong RM.unpaired RM.bestSound RM.bestWay RM.rows RM.rowN RM.sortOf RM.sizeOf RM.numbers RM.holdsWhat RM.holdsWhich RM.holdsMany RM.bodies RM.ran RM.actKind RM.actN RM.actA RM.isParted) sz)) 0 0 (va_A (wMo K jM aM RM.s RM.held RM.aside RM.before RM.isHeld RM.tape RM.taped RM.token RM.frm RM.to RM.value RM.isWrong RM.unpaired RM.bestSound RM.bestWay RM.rows RM.rowN RM.sortOf RM.sizeOf RM.numbers RM.holdsWhat RM.holdsWhich RM.holdsMany RM.bodies RM.ran RM.actKind RM.actN RM.actA RM.isParted) sz) := by
  refine ht_enter (Qf := ht_Qi D K (wMo K jM aM o.2 RM.held RM.aside RM.before RM.isHeld RM.tape RM.taped RM.token RM.frm RM.to RM.value RM.isWrong RM.unpaired RM.bestSound RM.bestWay RM.rows RM.rowN RM.sortOf RM.sizeOf RM.numbers RM.holdsWhat RM.holdsWhich RM.holdsMany RM.bodies RM.ran RM.actKind RM.actN RM.actA RM.isParted) o.1) (cc := cX9_set) (maxL := 3) (rt := (some .int)) (by decide) rfl (Nat.le_of_ble_eq_true rfl) ?_ sz
  intro p e s m below meth c A Q H locs ls hQ hx hb hr hlk hmn hml hown hts hA hK hP hD hS hl
  have hown : s.vm.findClass RX9 = some m.cls := hown
  have hF : CallFix p m c cX9_set 3 s ([.ref jM, .int p0, .int p1] : List Value).toArray wsX9_set RX9 := ⟨hx, hb, hml, hown, hts⟩
  have hl : lv_has ls 3 [(0, .ref jM), (1, .int p0), (2, .int p1)] := hl
  have kw0 := hts (.constantLong RX9 160 (3)) (by decide +kernel)
  have kw1 := hts (.constantLong RX9 164 (9)) (by decide +kernel)
  have kw2 := hts (.constantLong RX9 162 (99)) (by decide +kernel)
  have b29 : ∀ (x1 : Int32) (x2 : Int32) (t0 : Int64) (t1 : Int64) (t2 : Int64) (vM_s : AI) (H : Heap) (locs : List Loc) (ls : Array Slot), fX9_set_b29 RM x1 x2 t0 t1 t2 vM_s = some o → va_P D vwCl (wMo K jM aM vM_s RM.held RM.aside RM.before RM.isHeld RM.tape RM.taped RM.token RM.frm RM.to RM.value RM.isWrong RM.unpaired RM.bestSound RM.bestWay RM.rows RM.rowN RM.sortOf RM.sizeOf RM.numbers RM.holdsWhat RM.holdsWhich RM.holdsMany RM.bodies RM.ran RM.actKind RM.actN RM.actA RM.isParted) H → va_D A (wMo K jM aM vM_s RM.held RM.aside RM.before RM.isHeld RM.tape RM.taped RM.token RM.frm RM.to RM.value RM.isWrong RM.unpaired RM.bestSound RM.bestWay RM.rows RM.rowN RM.sortOf RM.sizeOf RM.numbers RM.holdsWhat RM.holdsWhich RM.holdsMany RM.bodies RM.ran RM.actKind RM.actN RM.actA RM.isParted) → va_S A s.heap H locs → lv_has ls 3 [(0, .ref jM), (1, .int x1), (2, .int x2)] → W p l e (headSpec wsX9_set rmX9_set).room s m ([.ref jM, .int p0, .int p1] : List Value).toArray below meth c H locs 0 0 Q (F0 m 29 ls [.long t2, .long t1, .long t0]) := by
    intro x1 x2 t0 t1 t2 vM_s H locs ls hf hP hD hS hl
    delta fX9_set_b29 at hf
    obtain ⟨o_1, ho_1, hf⟩ := ht_bn_ob hf
    refine ht_callSi (r := o_1) (rest := []) (As := [.long t0, .long t1, .long t2]) (wc := []) (wr := (wMo K jM aM vM_s RM.held RM.aside RM.before RM.isHeld RM.tape RM.taped RM.token RM.frm RM.to RM.value RM.isWrong RM.unpaired RM.bestSound RM.bestWay RM.rows RM.rowN RM.sortOf RM.sizeOf RM.numbers RM.holdsWhat RM.holdsWhich RM.holdsMany RM.bodies RM.ran RM.actKind RM.actN RM.actA RM.isParted)) (w1 := []) (w2 := (wMo K jM aM vM_s RM.held RM.aside RM.before RM.isHeld RM.tape RM.taped RM.token RM.frm RM.to RM.value RM.isWrong RM.unpaired RM.bestSound RM.bestWay RM.rows RM.rowN RM.sortOf RM.sizeOf RM.numbers RM.holdsWhat RM.holdsWhich RM.holdsMany RM.bodies RM.ran RM.actKind RM.actN RM.actA RM.isParted)) hF (ctX9_isIn l D K t0 t1 t2 o_1 ho_1 H.size) (va_cwS 3 hts gX9_set_X9_isIn rfl rfl rfl hdX9_isIn ⟨Nat.le_of_ble_eq_true rfl, Nat.le_of_ble_eq_true rfl⟩) hK hP hD hS hA [] [0, 1, 2, 3, 4, 5, 6, 7, 8, 9, 10, 11, 12, 13, 14, 15] rfl rfl (by decide) (by decide) (by decide) [0, 1, 2, 3, 4, 5, 6, 7, 8, 9, 10, 11, 12, 13, 14, 15] rfl (by decide) rfl hl.1 rfl (Nat.le_of_ble_eq_true rfl) dX9_set_29 ⟨Nat.zero_le _, Nat.zero_le _⟩ (fun H locs hP hD hS => ?_)
    refine lv_if_eq (tgt := 46) hx hb dX9_set_32 (by decide) (fun c_2 => ?_) (fun c_2 => ?_)
    · replace hf := ht_t c_2 hf
      refine lv_iconst (v := -1) hx hb dX9_set_46 (by decide) ?_
      have ho := Option.some.inj hf
      subst ho; subst hQ
      exact ht_iret hx hb hr hlk rfl hK hP hD hS dX9_set_47
    · replace hf := ht_f c_2 hf
      refine lv_aload_n hx hb dX9_set_35 rfl (lv_at hl 0 rfl) ?_
      refine lv_iconst (v := 5) hx hb dX9_set_36 (by decide) ?_
      refine lv_iload_n hx hb dX9_set_37 rfl (lv_at hl 1 rfl) ?_
      refine lv_iadd hx hb dX9_set_38 ?_
      refine lv_iload_n hx hb dX9_set_39 rfl (lv_at hl 2 rfl) ?_
      obtain ⟨o_3, ho_3, hf⟩ := ht_bn_ob hf
      refine ht_callVi (r := o_3.1) (rest := []) (As := [.int ((5 : Int32) + x1), .int x2]) (wc := (wMo K jM aM vM_s RM.held RM.aside RM.before RM.isHeld RM.tape RM.taped RM.token RM.frm RM.to RM.value RM.isWrong RM.unpaired RM.bestSound RM.bestWay RM.rows RM.rowN RM.sortOf RM.sizeOf RM.numbers RM.holdsWhat RM.holdsWhich RM.holdsMany RM.bodies RM.ran RM.actKind RM.actN RM.actA RM.isParted)) (wr := []) (w1 := (wMo K jM aM o_3.2 RM.held RM.aside RM.before RM.isHeld RM.tape RM.taped RM.token RM.frm RM.to RM.value RM.isWrong RM.unpaired RM.bestSound RM.bestWay RM.rows RM.rowN RM.sortOf RM.sizeOf RM.numbers RM.holdsWhat RM.holdsWhich RM.holdsMany RM.bodies RM.ran RM.actKind RM.actN RM.actA RM.isParted)) (w2 := (wMo K jM aM o_3.2 RM.held RM.aside RM.before RM.isHeld RM.tape RM.taped RM.token RM.frm RM.to RM.value RM.isWrong RM.unpaired RM.bestSound RM.bestWay RM.rows RM.rowN RM.sortOf RM.sizeOf RM.numbers RM.holdsWhat RM.holdsWhich RM.holdsMany RM.bodies RM.ran RM.actKind RM.actN RM.actA RM.isParted)) hF (ctX9_becomes l D K jM aM (vM_s, RM.held, RM.aside, RM.before, RM.isHeld, RM.tape, RM.taped, RM.token, RM.frm, RM.to, RM.value, RM.isWrong, RM.unpaired, RM.bestSound, RM.bestWay, RM.rows, RM.rowN, RM.sortOf, RM.sizeOf, RM.numbers, RM.holdsWhat, RM.holdsWhich, RM.holdsMany, RM.bodies, RM.ran, RM.actKind, RM.actN, RM.actA, RM.isParted) ((5 : Int32) + x1) x2 o_3 ho_3 H.size) (cwV 2 hts gX9_set_X9_becomes rfl rfl rfl hdX9_becomes ⟨Nat.le_of_ble_eq_true rfl, Nat.le_of_ble_eq_true rfl⟩) hK hP hD hS hA [0, 1, 2, 3, 4, 5, 6, 7, 8, 9, 10, 11, 12, 13, 14, 15] [] rfl rfl (by decide) (by decide) (by decide) [0, 1, 2, 3, 4, 5, 6, 7, 8, 9, 10, 11, 12, 13, 14, 15] rfl (by decide) (va_recv hK hP (ci := 9) (q0 := 0) rfl rfl) rfl hl.1 rfl (Nat.le_of_ble_eq_true rfl) dX9_set_40 ⟨Nat.zero_le _, Nat.zero_le _⟩ (fun H locs hP hD hS => ?_)
      refine lv_goto (tgt := 47) hx hb dX9_set_43 (by decide) ?_
      have ho := Option.some.inj hf
      subst ho; subst hQ
      exact ht_iret hx hb hr hlk rfl hK hP hD hS dX9_set_47
  delta fX9_set at hf
  refine lv_iload_n hx hb dX9_set_0 rfl (lv_at hl 1 rfl) ?_
  refine lv_i2l hx hb dX9_set_1 rfl ?_
  refine lv_lconst (v := 0) hx hb dX9_set_2 (by decide) ?_
  refine lv_ldc2 hx hb hown kw0 dX9_set_3 ?_
  obtain ⟨o_4, ho_4, hf⟩ := ht_bn_ob hf
  refine ht_callSi (r := o_4) (rest := []) (As := [.long p0.toInt64, .long (0 : Int64), .long (3 : Int64)]) (wc := []) (wr := (wMo K jM aM RM.s RM.held RM.aside RM.before RM.isHeld RM.tape RM.taped RM.token RM.frm RM.to RM.value RM.isWrong RM.unpaired RM.bestSound RM.bestWay RM.rows RM.rowN RM.sortOf RM.sizeOf RM.numbers RM.holdsWhat RM.holdsWhich RM.holdsMany RM.bodies RM.ran RM.actKind RM.actN RM.actA RM.isParted)) (w1 := []) (w2 := (wMo K jM aM RM.s RM.held RM.aside RM.before RM.isHeld RM.tape RM.taped RM.token RM.frm RM.to RM.value RM.isWrong RM.unpaired RM.bestSound RM.bestWay RM.rows RM.rowN RM.sortOf RM.sizeOf RM.numbers RM.holdsWhat RM.holdsWhich RM.holdsMany RM.bodies RM.ran RM.actKind RM.actN RM.actA RM.isParted)) hF (ctX9_isIn l D K p0.toInt64 (0 : Int64) (3 : Int64) o_4 ho_4 H.size) (va_cwS 3 hts gX9_set_X9_isIn rfl rfl rfl hdX9_isIn ⟨Nat.le_of_ble_eq_true rfl, Nat.le_of_ble_eq_true rfl⟩) hK hP hD hS hA [] [0, 1, 2, 3, 4, 5, 6, 7, 8, 9, 10, 11, 12, 13, 14, 15] rfl rfl (by decide) (by decide) (by decide) [0, 1, 2, 3, 4, 5, 6, 7, 8, 9, 10, 11, 12, 13, 14, 15] rfl (by decide) rfl hl.1 rfl (Nat.le_of_ble_eq_true rfl) dX9_set_6 ⟨Nat.zero_le _, Nat.zero_le _⟩ (fun H locs hP hD hS => ?_)
  refine lv_if_eq (tgt := 46) hx hb dX9_set_9 (by decide) (fun c_5 => ?_) (fun c_5 => ?_)
  · replace hf := ht_t c_5 hf
    refine lv_iconst (v := -1) hx hb dX9_set_46 (by decide) ?_
    have ho := Option.some.inj hf
    subst ho; subst hQ
    exact ht_iret hx hb hr hlk rfl hK hP hD hS dX9_set_47
  · replace hf := ht_f c_5 hf
    refine lv_iload_n hx hb dX9_set_12 rfl (lv_at hl 2 rfl) ?_
    refine lv_i2l hx hb dX9_set_13 rfl ?_
    refine lv_lconst (v := 0) hx hb dX9_set_14 (by decide) ?_
    refine lv_iload_n hx hb dX9_set_15 rfl (lv_at hl 1 rfl) ?_
    refine lv_iconst (v := 3) hx hb dX9_set_16 (by decide) ?_
    refine lv_icmp_ne (tgt := 26) hx hb dX9_set_17 (by decide) (fun c_6 => ?_) (fun c_6 => ?_)
    · replace hf := ht_f c_6 hf
      refine lv_ldc2 hx hb hown kw1 dX9_set_26 ?_
      exact b29  p0 p1 p1.toInt64 (0 : Int64) (9 : Int64) RM.s _ _ _ hf hP hD hS hl
    · replace hf := ht_t c_6 hf
      refine lv_ldc2 hx hb hown kw2 dX9_set_20 ?_
      refine lv_goto (tgt := 29) hx hb dX9_set_23 (by decide) ?_
      exact b29  p0 p1 p1.toInt64 (0 : Int64) (99 : Int64) RM.s _ _ _ hf hP hD hS hl
abbrev rmX9_lawOf : Room := { frames := 1, cells := 0, slots := 0, locals := 25 }
theorem hdX9_lawOf : yX9_lawOf.cls = RX9 ∧ yX9_lawOf.cls ≠ "java/lang/invoke/MethodHandle" ∧ yX9_lawOf.cls ≠ "java/lang/invoke/VarHandle" ∧ (parseMethodDescriptor yX9_lawOf.desc).map (fun d => d.parameters.length) = some 1 := by decide +kernel
def fX9_lawOf (RM : ModV) (p0 : Int32) : Option Int32 := ht_bn (fX9_isIn p0.toInt64 (0 : Int64) (3 : Int64)) (fun o_1 => if o_1 = 0 then (some (-1 : Int32)) else (ht_gd (ht_ix ((5 : Int32) + p0) 57) (some (RM.s ((5 : Int32) + p0).toNatClampNeg))))
set_option maxHeartbeats 1000000 in
set_option maxRecDepth 100000 in
theorem ctX9_lawOf (l : Launch) (D : va_G) (K : Nat → ClassId) (jM : Nat) (aM : Nat → Nat) (RM : ModV) (p0 : Int32) (o : Int32) (hf : fX9_lawOf RM p0 = some o) (sz : Nat) : Met l yX9_lawOf wsX9_lawOf rmX9_lawOf (ht_Pre D K [.ref jM, .int p0] (wMo K jM aM RM.s RM.held RM.aside RM.before RM.isHeld RM.tape RM.taped RM.token RM.frm RM.to RM.value RM.isWrong RM.unpaired RM.bestSound RM.bestWay RM.rows RM.rowN RM.sortOf RM.sizeOf RM.numbers RM.holdsWhat RM.holdsWhich RM.holdsMany RM.bodies RM.ran RM.actKind RM.actN RM.actA RM.isParted) sz) (ht_Qi D K (wMo K jM aM RM.s RM.held RM.aside RM.before RM.isHeld RM.tape RM.taped RM.token RM.frm RM.to RM.value RM.isWrong RM.unpaired RM.bestSound RM.bestWay RM.rows RM.rowN RM.sortOf RM.sizeOf RM.numbers RM.holdsWhat RM.holdsWhich RM.holdsMany RM.bodies RM.ran RM.actKind RM.actN RM.actA RM.isParted) o (va_A (wMo K jM aM RM.s RM.held RM.aside RM.before RM.isHeld RM.tape RM.taped RM.token RM.frm RM.to RM.value RM.isWrong RM.unpaired RM.bestSound RM.bestWay RM.rows RM.rowN RM.sortOf RM.sizeOf RM.numbers RM.holdsWhat RM.holdsWhich RM.holdsMany RM.bodies RM.ran RM.actKind RM.actN RM.actA RM.isParted) sz)) 0 0 (va_A (wMo K jM aM RM.s RM.held RM.aside RM.before RM.isHeld RM.tape RM.taped RM.token RM.frm RM.to RM.value RM.isWrong RM.unpaired RM.bestSound RM.bestWay RM.rows RM.rowN RM.sortOf RM.sizeOf RM.numbers RM.holdsWhat RM.holdsWhich RM.holdsMany RM.bodies RM.ran RM.actKind RM.actN RM.actA RM.isParted) sz) := by
  refine ht_enter (Qf := ht_Qi D K (wMo K jM aM RM.s RM.held RM.aside RM.before RM.isHeld RM.tape RM.taped RM.token RM.frm RM.to RM.value RM.isWrong RM.unpaired RM.bestSound RM.bestWay RM.rows RM.rowN RM.sortOf RM.sizeOf RM.numbers RM.holdsWhat RM.holdsWhich RM.holdsMany RM.bodies RM.ran RM.actKind RM.actN RM.actA RM.isParted) o) (cc := cX9_lawOf) (maxL := 2) (rt := (some .int)) (by decide) rfl (Nat.le_of_ble_eq_true rfl) ?_ sz
  intro p e s m below meth c A Q H locs ls hQ hx hb hr hlk hmn hml hown hts hA hK hP hD hS hl
  have hown : s.vm.findClass RX9 = some m.cls := hown
  have hF : CallFix p m c cX9_lawOf 2 s ([.ref jM, .int p0] : List Value).toArray wsX9_lawOf RX9 := ⟨hx, hb, hml, hown, hts⟩
  have hl : lv_has ls 2 [(0, .ref jM), (1, .int p0)] := hl
  have kw0 := hts (.constantLong RX9 160 (3)) (by decide +kernel)
  have iw9 : ∀ w ∈ u_ws RX9 TX9 29, w ∈ wsX9_lawOf := by decide +kernel
  have kw2 := hts (.fieldLink RX9 7 "HeldTonguesModel" "s" "[I") (by decide +kernel)
  delta fX9_lawOf at hf
  refine lv_iload_n hx hb dX9_lawOf_0 rfl (lv_at hl 1 rfl) ?_
  refine lv_i2l hx hb dX9_lawOf_1 rfl ?_
  refine lv_lconst (v := 0) hx hb dX9_lawOf_2 (by decide) ?_
  refine lv_ldc2 hx hb hown kw0 dX9_lawOf_3 ?_
  obtain ⟨o_1, ho_1, hf⟩ := ht_bn_ob hf
  refine ht_callSi (r := o_1) (rest := []) (As := [.long p0.toInt64, .long (0 : Int64), .long (3 : Int64)]) (wc := []) (wr := (wMo K jM aM RM.s RM.held RM.aside RM.before RM.isHeld RM.tape RM.taped RM.token RM.frm RM.to RM.value RM.isWrong RM.unpaired RM.bestSound RM.bestWay RM.rows RM.rowN RM.sortOf RM.sizeOf RM.numbers RM.holdsWhat RM.holdsWhich RM.holdsMany RM.bodies RM.ran RM.actKind RM.actN RM.actA RM.isParted)) (w1 := []) (w2 := (wMo K jM aM RM.s RM.held RM.aside RM.before RM.isHeld RM.tape RM.taped RM.token RM.frm RM.to RM.value RM.isWrong RM.unpaired RM.bestSound RM.bestWay RM.rows RM.rowN RM.sortOf RM.sizeOf RM.numbers RM.holdsWhat RM.holdsWhich RM.holdsMany RM.bodies RM.ran RM.actKind RM.actN RM.actA RM.isParted)) hF (ctX9_isIn l D K p0.toInt64 (0 : Int64) (3 : Int64) o_1 ho_1 H.size) (va_cwS 3 hts gX9_lawOf_X9_isIn rfl rfl rfl hdX9_isIn ⟨Nat.le_of_ble_eq_true rfl, Nat.le_of_ble_eq_true rfl⟩) hK hP hD hS hA [] [0, 1, 2, 3, 4, 5, 6, 7, 8, 9, 10, 11, 12, 13, 14, 15] rfl rfl (by decide) (by decide) (by decide) [0, 1, 2, 3, 4, 5, 6, 7, 8, 9, 10, 11, 12, 13, 14, 15] rfl (by decide) rfl hl.1 rfl (Nat.le_of_ble_eq_true rfl) dX9_lawOf_6 ⟨Nat.zero_le _, Nat.zero_le _⟩ (fun H locs hP hD hS => ?_)
  refine lv_if_eq (tgt := 23) hx hb dX9_lawOf_9 (by decide) (fun c_2 => ?_) (fun c_2 => ?_)
  · replace hf := ht_t c_2 hf
    refine lv_iconst (v := -1) hx hb dX9_lawOf_23 (by decide) ?_
    have ho := Option.some.inj hf
    subst ho; subst hQ
    exact ht_iret hx hb hr hlk rfl hK hP hD hS dX9_lawOf_24
  · replace hf := ht_f c_2 hf
    refine lv_aload_n hx hb dX9_lawOf_12 rfl (lv_at hl 0 rfl) ?_
    refine va_get (D := D) (ci := 9) (v := .ref (aM 0)) (C := RX9) (T := TX9) (N := 29) hx hb hts iw9 hown hK hP 0 rfl rfl 0 (by decide) kw2 (fun _ h9 => h9) rfl dX9_lawOf_13 ?_
    refine lv_iconst (v := 5) hx hb dX9_lawOf_16 (by decide) ?_
    refine lv_iload_n hx hb dX9_lawOf_17 rfl (lv_at hl 1 rfl) ?_
    refine lv_iadd hx hb dX9_lawOf_18 ?_
    obtain ⟨g_3, hf⟩ := ht_gd_ob hf
    refine va_iald hx hb hK hP 1 1 rfl rfl (ht_ix_in g_3) dX9_lawOf_19 ?_
    refine lv_goto (tgt := 24) hx hb dX9_lawOf_20 (by decide) ?_
    have ho := Option.some.inj hf
    subst ho; subst hQ
    exact ht_iret hx hb hr hlk rfl hK hP hD hS dX9_lawOf_24
abbrev rmX9_person : Room := { frames := 1, cells := 0, slots := 0, locals := 25 }
theorem hdX9_person : yX9_person.cls = RX9 ∧ yX9_person.cls ≠ "java/lang/invoke/MethodHandle" ∧ yX9_person.cls ≠ "java/lang/invoke/VarHandle" ∧ (parseMethodDescriptor yX9_person.desc).map (fun d => d.parameters.length) = some 4 := by decide +kernel
def fX9_person (RM : ModV) (p0 : Int32) (p1 : Int32) (p2 : Int32) (p3 : Int32) : Option (Int32 × AI) := ht_bn (fX9_isIn p0.toInt64 (0 : Int64) (5 : Int64)) (fun o_1 => if o_1 = 0 then (some ((-1 : Int32), RM.s)) else (ht_bn (fX9_isIn p1.toInt64 (0 : Int64) (99 : Int64)) (fun o_3 => if o_3 = 0 then (some ((-1 : Int32), RM.s)) else (ht_bn (fX9_isIn p2.toInt64 (0 : Int64) (99 : Int64)) (fun o_5 => if o_5 = 0 then (some ((-1 : Int32), RM.s)) else (ht_bn (fX9_isIn p3.toInt64 (0 : Int64) (9 : Int64)) (fun o_7 => if o_7 = 0 then (some ((-1 : Int32), RM.s)) else (ht_gd (ht_ix (0 : Int32) 57) (if (RM.s (0 : Int32).toNatClampNeg) = (8 : Int32) then (some ((-2 : Int32), RM.s)) else (ht_bn (fX9_comes RM p0 p1 p2 p3) (fun o_11 => ht_gd (ht_ix (0 : Int32) 57) (some (((o_11 (0 : Int32).toNatClampNeg) - (1 : Int32)), o_11)))))))))))))
set_option maxHeartbeats 1000000 in
set_option maxRecDepth 100000 in
theorem ctX9_person (l : Launch) (D : va_G) (K : Nat → ClassId) (jM : Nat) (aM : Nat → Nat) (RM : ModV) (p0 : Int32) (p1 : Int32) (p2 : Int32) (p3 : Int32) (o : (Int32 × AI)) (hf : fX9_person RM p0 p1 p2 p3 = some o) (sz : Nat) : Met l yX9_person wsX9_person rmX9_person (ht_Pre D K [.ref jM, .int p0, .int p1, .int p2, .int p3] (wMo K jM aM RM.s RM.held RM.aside RM.before RM.isHeld RM.tape RM.taped RM.token RM.frm RM.to RM.value RM.isWrong RM.unpaired RM.bestSound RM.bestWay RM.rows RM.rowN RM.sortOf RM.sizeOf RM.numbers RM.holdsWhat RM.holdsWhich RM.holdsMany RM.bodies RM.ran RM.actKind RM.actN RM.actA RM.isParted) sz) (ht_Qi D K (wMo K jM aM o.2 RM.held RM.aside RM.before RM.isHeld RM.tape RM.taped RM.token RM.frm RM.to RM.value RM.isWrong RM.unpaired RM.bestSound RM.bestWay RM.rows RM.rowN RM.sortOf RM.sizeOf RM.numbers RM.holdsWhat RM.holdsWhich RM.holdsMany RM.bodies RM.ran RM.actKind RM.actN RM.actA RM.isParted) o.1 (va_A (wMo K jM aM RM.s RM.held RM.aside RM.before RM.isHeld RM.tape RM.taped RM.token RM.frm RM.to RM.value RM.isWrong RM.unpaired RM.bestSound RM.bestWay RM.rows RM.rowN RM.sortOf RM.sizeOf RM.numbers RM.holdsWhat RM.holdsWhich RM.holdsMany RM.bodies RM.ran RM.actKind RM.actN RM.actA RM.isParted) sz)) 0 0 (va_A (wMo K jM aM RM.s RM.held RM.aside RM.before RM.isHeld RM.tape RM.taped RM.token RM.frm RM.to RM.value RM.isWrong RM.unpaired RM.bestSound RM.bestWay RM.rows RM.rowN RM.sortOf RM.sizeOf RM.numbers RM.holdsWhat RM.holdsWhich RM.holdsMany RM.bodies RM.ran RM.actKind RM.actN RM.actA RM.isParted) sz) := by
  refine ht_enter (Qf := ht_Qi D K (wMo K jM aM o.2 RM.held RM.aside RM.before RM.isHeld RM.tape RM.taped RM.token RM.frm RM.to RM.value RM.isWrong RM.unpaired RM.bestSound RM.bestWay RM.rows RM.rowN RM.sortOf RM.sizeOf RM.numbers RM.holdsWhat RM.holdsWhich RM.holdsMany RM.bodies RM.ran RM.actKind RM.actN RM.actA RM.isParted) o.1) (cc := cX9_person) (maxL := 5) (rt := (some .int)) (by decide) rfl (Nat.le_of_ble_eq_true rfl) ?_ sz
  intro p e s m below meth c A Q H locs ls hQ hx hb hr hlk hmn hml hown hts hA hK hP hD hS hl
  have hown : s.vm.findClass RX9 = some m.cls := hown
  have hF : CallFix p m c cX9_person 5 s ([.ref jM, .int p0, .int p1, .int p2, .int p3] : List Value).toArray wsX9_person RX9 := ⟨hx, hb, hml, hown, hts⟩
  have hl : lv_has ls 5 [(0, .ref jM), (1, .int p0), (2, .int p1), (3, .int p2), (4, .int p3)] := hl
  have kw0 := hts (.constantLong RX9 170 (5)) (by decide +kernel)
  have kw1 := hts (.constantLong RX9 162 (99)) (by decide +kernel)
  have kw2 := hts (.constantLong RX9 164 (9)) (by decide +kernel)
  have iw9 : ∀ w ∈ u_ws RX9 TX9 29, w ∈ wsX9_person := by decide +kernel
  have kw4 := hts (.fieldLink RX9 7 "HeldTonguesModel" "s" "[I") (by decide +kernel)
  delta fX9_person at hf
  refine lv_iload_n hx hb dX9_person_0 rfl (lv_at hl 1 rfl) ?_
  refine lv_i2l hx hb dX9_person_1 rfl ?_
  refine lv_lconst (v := 0) hx hb dX9_person_2 (by decide) ?_
  refine lv_ldc2 hx hb hown kw0 dX9_person_3 ?_
  obtain ⟨o_1, ho_1, hf⟩ := ht_bn_ob hf
  refine ht_callSi (r := o_1) (rest := []) (As := [.long p0.toInt64, .long (0 : Int64), .long (5 : Int64)]) (wc := []) (wr := (wMo K jM aM RM.s RM.held RM.aside RM.before RM.isHeld RM.tape RM.taped RM.token RM.frm RM.to RM.value RM.isWrong RM.unpaired RM.bestSound RM.bestWay RM.rows RM.rowN RM.sortOf RM.sizeOf RM.numbers RM.holdsWhat RM.holdsWhich RM.holdsMany RM.bodies RM.ran RM.actKind RM.actN RM.actA RM.isParted)) (w1 := []) (w2 := (wMo K jM aM RM.s RM.held RM.aside RM.before RM.isHeld RM.tape RM.taped RM.token RM.frm RM.to RM.value RM.isWrong RM.unpaired RM.bestSound RM.bestWay RM.rows RM.rowN RM.sortOf RM.sizeOf RM.numbers RM.holdsWhat RM.holdsWhich RM.holdsMany RM.bodies RM.ran RM.actKind RM.actN RM.actA RM.isParted)) hF (ctX9_isIn l D K p0.toInt64 (0 : Int64) (5 : Int64) o_1 ho_1 H.size) (va_cwS 3 hts gX9_person_X9_isIn rfl rfl rfl hdX9_isIn ⟨Nat.le_of_ble_eq_true rfl, Nat.le_of_ble_eq_true rfl⟩) hK hP hD hS hA [] [0, 1, 2, 3, 4, 5, 6, 7, 8, 9, 10, 11, 12, 13, 14, 15] rfl rfl (by decide) (by decide) (by decide) [0, 1, 2, 3, 4, 5, 6, 7, 8, 9, 10, 11, 12, 13, 14, 15] rfl (by decide) rfl hl.1 rfl (Nat.le_of_ble_eq_true rfl) dX9_person_6 ⟨Nat.zero_le _, Nat.zero_le _⟩ (fun H locs hP hD hS => ?_)
  refine lv_if_eq (tgt := 49) hx hb dX9_person_9 (by decide) (fun c_2 => ?_) (fun c_2 => ?_)
  · replace hf := ht_t c_2 hf
    refine lv_iconst (v := -1) hx hb dX9_person_49 (by decide) ?_
    have ho := Option.some.inj hf
    subst ho; subst hQ
    exact ht_iret hx hb hr hlk rfl hK hP hD hS dX9_person_50
  · replace hf := ht_f c_2 hf
    refine lv_iload_n hx hb dX9_person_12 rfl (lv_at hl 2 rfl) ?_
    refine lv_i2l hx hb dX9_person_13 rfl ?_
    refine lv_lconst (v := 0) hx hb dX9_person_14 (by decide) ?_
    refine lv_ldc2 hx hb hown kw1 dX9_person_15 ?_
    obtain ⟨o_3, ho_3, hf⟩ := ht_bn_ob hf
    refine ht_callSi (r := o_3) (rest := []) (As := [.long p1.toInt64, .long (0 : Int64), .long (99 : Int64)]) (wc := []) (wr := (wMo K jM aM RM.s RM.held RM.aside RM.before RM.isHeld RM.tape RM.taped RM.token RM.frm RM.to RM.value RM.isWrong RM.unpaired RM.bestSound RM.bestWay RM.rows RM.rowN RM.sortOf RM.sizeOf RM.numbers RM.holdsWhat RM.holdsWhich RM.holdsMany RM.bodies RM.ran RM.actKind RM.actN RM.actA RM.isParted)) (w1 := []) (w2 := (wMo K jM aM RM.s RM.held RM.aside RM.before RM.isHeld RM.tape RM.taped RM.token RM.frm RM.to RM.value RM.isWrong RM.unpaired RM.bestSound RM.bestWay RM.rows RM.rowN RM.sortOf RM.sizeOf RM.numbers RM.holdsWhat RM.holdsWhich RM.holdsMany RM.bodies RM.ran RM.actKind RM.actN RM.actA RM.isParted)) hF (ctX9_isIn l D K p1.toInt64 (0 : Int64) (99 : Int64) o_3 ho_3 H.size) (va_cwS 3 hts gX9_person_X9_isIn rfl rfl rfl hdX9_isIn ⟨Nat.le_of_ble_eq_true rfl, Nat.le_of_ble_eq_true rfl⟩) hK hP hD hS hA [] [0, 1, 2, 3, 4, 5, 6, 7, 8, 9, 10, 11, 12, 13, 14, 15] rfl rfl (by decide) (by decide) (by decide) [0, 1, 2, 3, 4, 5, 6, 7, 8, 9, 10, 11, 12, 13, 14, 15] rfl (by decide) rfl hl.1 rfl (Nat.le_of_ble_eq_true rfl) dX9_person_18 ⟨Nat.zero_le _, Nat.zero_le _⟩ (fun H locs hP hD hS => ?_)
    refine lv_if_eq (tgt := 49) hx hb dX9_person_21 (by decide) (fun c_4 => ?_) (fun c_4 => ?_)
    · replace hf := ht_t c_4 hf
      refine lv_iconst (v := -1) hx hb dX9_person_49 (by decide) ?_
      have ho := Option.some.inj hf
      subst ho; subst hQ
      exact ht_iret hx hb hr hlk rfl hK hP hD hS dX9_person_50
    · replace hf := ht_f c_4 hf
      refine lv_iload_n hx hb dX9_person_24 rfl (lv_at hl 3 rfl) ?_
      refine lv_i2l hx hb dX9_person_25 rfl ?_
      refine lv_lconst (v := 0) hx hb dX9_person_26 (by decide) ?_
      refine lv_ldc2 hx hb hown kw1 dX9_person_27 ?_
      obtain ⟨o_5, ho_5, hf⟩ := ht_bn_ob hf
      refine ht_callSi (r := o_5) (rest := []) (As := [.long p2.toInt64, .long (0 : Int64), .long (99 : Int64)]) (wc := []) (wr := (wMo K jM aM RM.s RM.held RM.aside RM.before RM.isHeld RM.tape RM.taped RM.token RM.frm RM.to RM.value RM.isWrong RM.unpaired RM.bestSound RM.bestWay RM.rows RM.rowN RM.sortOf RM.sizeOf RM.numbers RM.holdsWhat RM.holdsWhich RM.holdsMany RM.bodies RM.ran RM.actKind RM.actN RM.actA RM.isParted)) (w1 := []) (w2 := (wMo K jM aM RM.s RM.held RM.aside RM.before RM.isHeld RM.tape RM.taped RM.token RM.frm RM.to RM.value RM.isWrong RM.unpaired RM.bestSound RM.bestWay RM.rows RM.rowN RM.sortOf RM.sizeOf RM.numbers RM.holdsWhat RM.holdsWhich RM.holdsMany RM.bodies RM.ran RM.actKind RM.actN RM.actA RM.isParted)) hF (ctX9_isIn l D K p2.toInt64 (0 : Int64) (99 : Int64) o_5 ho_5 H.size) (va_cwS 3 hts gX9_person_X9_isIn rfl rfl rfl hdX9_isIn ⟨Nat.le_of_ble_eq_true rfl, Nat.le_of_ble_eq_true rfl⟩) hK hP hD hS hA [] [0, 1, 2, 3, 4, 5, 6, 7, 8, 9, 10, 11, 12, 13, 14, 15] rfl rfl (by decide) (by decide) (by decide) [0, 1, 2, 3, 4, 5, 6, 7, 8, 9, 10, 11, 12, 13, 14, 15] rfl (by decide) rfl hl.1 rfl (Nat.le_of_ble_eq_true rfl) dX9_person_30 ⟨Nat.zero_le _, Nat.zero_le _⟩ (fun H locs hP hD hS => ?_)
      refine lv_if_eq (tgt := 49) hx hb dX9_person_33 (by decide) (fun c_6 => ?_) (fun c_6 => ?_)
      · replace hf := ht_t c_6 hf
        refine lv_iconst (v := -1) hx hb dX9_person_49 (by decide) ?_
        have ho := Option.some.inj hf
        subst ho; subst hQ
        exact ht_iret hx hb hr hlk rfl hK hP hD hS dX9_person_50
      · replace hf := ht_f c_6 hf
        refine lv_iload hx hb dX9_person_36 (lv_at hl 4 rfl) ?_
        refine lv_i2l hx hb dX9_person_38 rfl ?_
        refine lv_lconst (v := 0) hx hb dX9_person_39 (by decide) ?_
        refine lv_ldc2 hx hb hown kw2 dX9_person_40 ?_
        obtain ⟨o_7, ho_7, hf⟩ := ht_bn_ob hf
        refine ht_callSi (r := o_7) (rest := []) (As := [.long p3.toInt64, .long (0 : Int64), .long (9 : Int64)]) (wc := []) (wr := (wMo K jM aM RM.s RM.held RM.aside RM.before RM.isHeld RM.tape RM.taped RM.token RM.frm RM.to RM.value RM.isWrong RM.unpaired RM.bestSound RM.bestWay RM.rows RM.rowN RM.sortOf RM.sizeOf RM.numbers RM.holdsWhat RM.holdsWhich RM.holdsMany RM.bodies RM.ran RM.actKind RM.actN RM.actA RM.isParted)) (w1 := []) (w2 := (wMo K jM aM RM.s RM.held RM.aside RM.before RM.isHeld RM.tape RM.taped RM.token RM.frm RM.to RM.value RM.isWrong RM.unpaired RM.bestSound RM.bestWay RM.rows RM.rowN RM.sortOf RM.sizeOf RM.numbers RM.holdsWhat RM.holdsWhich RM.holdsMany RM.bodies RM.ran RM.actKind RM.actN RM.actA RM.isParted)) hF (ctX9_isIn l D K p3.toInt64 (0 : Int64) (9 : Int64) o_7 ho_7 H.size) (va_cwS 3 hts gX9_person_X9_isIn rfl rfl rfl hdX9_isIn ⟨Nat.le_of_ble_eq_true rfl, Nat.le_of_ble_eq_true rfl⟩) hK hP hD hS hA [] [0, 1, 2, 3, 4, 5, 6, 7, 8, 9, 10, 11, 12, 13, 14, 15] rfl rfl (by decide) (by decide) (by decide) [0, 1, 2, 3, 4, 5, 6, 7, 8, 9, 10, 11, 12, 13, 14, 15] rfl (by decide) rfl hl.1 rfl (Nat.le_of_ble_eq_true rfl) dX9_person_43 ⟨Nat.zero_le _, Nat.zero_le _⟩ (fun H locs hP hD hS => ?_)
        refine lv_if_ne (tgt := 51) hx hb dX9_person_46 (by decide) (fun c_8 => ?_) (fun c_8 => ?_)
        · replace hf := ht_f c_8 hf
          refine lv_aload_n hx hb dX9_person_51 rfl (lv_at hl 0 rfl) ?_
          refine va_get (D := D) (ci := 9) (v := .ref (aM 0)) (C := RX9) (T := TX9) (N := 29) hx hb hts iw9 hown hK hP 0 rfl rfl 0 (by decide) kw4 (fun _ h9 => h9) rfl dX9_person_52 ?_
          refine lv_iconst (v := 0) hx hb dX9_person_55 (by decide) ?_
          obtain ⟨g_9, hf⟩ := ht_gd_ob hf
          refine va_iald hx hb hK hP 1 1 rfl rfl (ht_ix_in g_9) dX9_person_56 ?_
          refine lv_bipush (v := 8) hx hb dX9_person_57 (by decide) ?_
          refine lv_icmp_ne (tgt := 65) hx hb dX9_person_59 (by decide) (fun c_10 => ?_) (fun c_10 => ?_)
          · replace hf := ht_f c_10 hf
            refine lv_aload_n hx hb dX9_person_65 rfl (lv_at hl 0 rfl) ?_
            refine lv_iload_n hx hb dX9_person_66 rfl (lv_at hl 1 rfl) ?_
            refine lv_iload_n hx hb dX9_person_67 rfl (lv_at hl 2 rfl) ?_
            refine lv_iload_n hx hb dX9_person_68 rfl (lv_at hl 3 rfl) ?_
            refine lv_iload hx hb dX9_person_69 (lv_at hl 4 rfl) ?_
            obtain ⟨o_11, ho_11, hf⟩ := ht_bn_ob hf
            refine ht_callVv (rest := []) (As := [.int p0, .int p1, .int p2, .int p3]) (wc := (wMo K jM aM RM.s RM.held RM.aside RM.before RM.isHeld RM.tape RM.taped RM.token RM.frm RM.to RM.value RM.isWrong RM.unpaired RM.bestSound RM.bestWay RM.rows RM.rowN RM.sortOf RM.sizeOf RM.numbers RM.holdsWhat RM.holdsWhich RM.holdsMany RM.bodies RM.ran RM.actKind RM.actN RM.actA RM.isParted)) (wr := []) (w1 := (wMo K jM aM o_11 RM.held RM.aside RM.before RM.isHeld RM.tape RM.taped RM.token RM.frm RM.to RM.value RM.isWrong RM.unpaired RM.bestSound RM.bestWay RM.rows RM.rowN RM.sortOf RM.sizeOf RM.numbers RM.holdsWhat RM.holdsWhich RM.holdsMany RM.bodies RM.ran RM.actKind RM.actN RM.actA RM.isParted)) (w2 := (wMo K jM aM o_11 RM.held RM.aside RM.before RM.isHeld RM.tape RM.taped RM.token RM.frm RM.to RM.value RM.isWrong RM.unpaired RM.bestSound RM.bestWay RM.rows RM.rowN RM.sortOf RM.sizeOf RM.numbers RM.holdsWhat RM.holdsWhich RM.holdsMany RM.bodies RM.ran RM.actKind RM.actN RM.actA RM.isParted)) hF (ctX9_comes l D K jM aM RM p0 p1 p2 p3 o_11 ho_11 H.size) (cwV 4 hts gX9_person_X9_comes rfl rfl rfl hdX9_comes ⟨Nat.le_of_ble_eq_true rfl, Nat.le_of_ble_eq_true rfl⟩) hK hP hD hS hA [0, 1, 2, 3, 4, 5, 6, 7, 8, 9, 10, 11, 12, 13, 14, 15] [] rfl rfl (by decide) (by decide) (by decide) [0, 1, 2, 3, 4, 5, 6, 7, 8, 9, 10, 11, 12, 13, 14, 15] rfl (by decide) (va_recv hK hP (ci := 9) (q0 := 0) rfl rfl) rfl hl.1 rfl (Nat.le_of_ble_eq_true rfl) dX9_person_71 ⟨Nat.zero_le _, Nat.zero_le _⟩ (fun H locs hP hD hS => ?_)
            refine lv_aload_n hx hb dX9_person_74 rfl (lv_at hl 0 rfl) ?_
            refine va_get (D := D) (ci := 9) (v := .ref (aM 0)) (C := RX9) (T := TX9) (N := 29) hx hb hts iw9 hown hK hP 0 rfl rfl 0 (by decide) kw4 (fun _ h9 => h9) rfl dX9_person_75 ?_
            refine lv_iconst (v := 0) hx hb dX9_person_78 (by decide) ?_
            obtain ⟨g_12, hf⟩ := ht_gd_ob hf
            refine va_iald hx hb hK hP 1 1 rfl rfl (ht_ix_in g_12) dX9_person_79 ?_
            refine lv_iconst (v := 1) hx hb dX9_person_80 (by decide) ?_
            refine lv_isub hx hb dX9_person_81 ?_
            have ho := Option.some.inj hf
            subst ho; subst hQ
            exact ht_iret hx hb hr hlk rfl hK hP hD hS dX9_person_82
          · replace hf := ht_t c_10 hf
            refine lv_bipush (v := -2) hx hb dX9_person_62 (by decide) ?_
            have ho := Option.some.inj hf
            subst ho; subst hQ
            exact ht_iret hx hb hr hlk rfl hK hP hD hS dX9_person_64
        · replace hf := ht_t c_8 hf
          refine lv_iconst (v := -1) hx hb dX9_person_49 (by decide) ?_
          have ho := Option.some.inj hf
          subst ho; subst hQ
          exact ht_iret hx hb hr hlk rfl hK hP hD hS dX9_person_50
abbrev rmX9_saysOf : Room := { frames := 1, cells := 0, slots := 0, locals := 22 }
theorem hdX9_saysOf : yX9_saysOf.cls = RX9 ∧ yX9_saysOf.cls ≠ "java/lang/invoke/MethodHandle" ∧ yX9_saysOf.cls ≠ "java/lang/invoke/VarHandle" ∧ (parseMethodDescriptor yX9_saysOf.desc).map (fun d => d.parameters.length) = some 1 := by decide +kernel
def fX9_saysOf (RM : ModV) (p0 : Int32) : Option Int32 := ht_bn (fX9_its RM p0 (3 : Int32)) (fun o_1 => ht_gd (ht_ix (6 : Int32) 57) (ht_bn (fX9_greatest (0 : Int32) (o_1 - (RM.s (6 : Int32).toNatClampNeg))) (fun o_3 => ht_bn (fX9_its RM p0 (0 : Int32)) (fun o_4 => if o_4 = 1 then (ht_gd (ht_ix (5 : Int32) 57) (some (o_1 + (RM.s (5 : Int32).toNatClampNeg)))) else if o_4 = 2 then (some o_3) else if o_4 = 3 then (ht_gd (ht_ix (5 : Int32) 57) (some ((2 : Int32) * (o_1 + (RM.s (5 : Int32).toNatClampNeg))))) else if o_4 = 4 then (ht_bn (fX9_its RM p0 (2 : Int32)) (fun o_11 => some (o_3 + (o_11 / (10 : Int32))))) else if o_4 = 5 then (ht_gd (ht_ix (1 : Int32) 57) (if ((RM.s (1 : Int32).toNatClampNeg) - (RM.s (1 : Int32).toNatClampNeg) / (2 : Int32) * (2 : Int32)) = 0 then (some o_1) else (some (1 : Int32)))) else (some o_1)))))
set_option maxHeartbeats 1000000 in
set_option maxRecDepth 100000 in
theorem ctX9_saysOf (l : Launch) (D : va_G) (K : Nat → ClassId) (jM : Nat) (aM : Nat → Nat) (RM : ModV) (p0 : Int32) (o : Int32) (hf : fX9_saysOf RM p0 = some o) (sz : Nat) : Met l yX9_saysOf wsX9_saysOf rmX9_saysOf (ht_Pre D K [.ref jM, .int p0] (wMo K jM aM RM.s RM.held RM.aside RM.before RM.isHeld RM.tape RM.taped RM.token RM.frm RM.to RM.value RM.isWrong RM.unpaired RM.bestSound RM.bestWay RM.rows RM.rowN RM.sortOf RM.sizeOf RM.numbers RM.holdsWhat RM.holdsWhich RM.holdsMany RM.bodies RM.ran RM.actKind RM.actN RM.actA RM.isParted) sz) (ht_Qi D K (wMo K jM aM RM.s RM.held RM.aside RM.before RM.isHeld RM.tape RM.taped RM.token RM.frm RM.to RM.value RM.isWrong RM.unpaired RM.bestSound RM.bestWay RM.rows RM.rowN RM.sortOf RM.sizeOf RM.numbers RM.holdsWhat RM.holdsWhich RM.holdsMany RM.bodies RM.ran RM.actKind RM.actN RM.actA RM.isParted) o (va_A (wMo K jM aM RM.s RM.held RM.aside RM.before RM.isHeld RM.tape RM.taped RM.token RM.frm RM.to RM.value RM.isWrong RM.unpaired RM.bestSound RM.bestWay RM.rows RM.rowN RM.sortOf RM.sizeOf RM.numbers RM.holdsWhat RM.holdsWhich RM.holdsMany RM.bodies RM.ran RM.actKind RM.actN RM.actA RM.isParted) sz)) 0 0 (va_A (wMo K jM aM RM.s RM.held RM.aside RM.before RM.isHeld RM.tape RM.taped RM.token RM.frm RM.to RM.value RM.isWrong RM.unpaired RM.bestSound RM.bestWay RM.rows RM.rowN RM.sortOf RM.sizeOf RM.numbers RM.holdsWhat RM.holdsWhich RM.holdsMany RM.bodies RM.ran RM.actKind RM.actN RM.actA RM.isParted) sz) := by
  refine ht_enter (Qf := ht_Qi D K (wMo K jM aM RM.s RM.held RM.aside RM.before RM.isHeld RM.tape RM.taped RM.token RM.frm RM.to RM.value RM.isWrong RM.unpaired RM.bestSound RM.bestWay RM.rows RM.rowN RM.sortOf RM.sizeOf RM.numbers RM.holdsWhat RM.holdsWhich RM.holdsMany RM.bodies RM.ran RM.actKind RM.actN RM.actA RM.isParted) o) (cc := cX9_saysOf) (maxL := 4) (rt := (some .int)) (by decide) rfl (Nat.le_of_ble_eq_true rfl) ?_ sz
  intro p e s m below meth c A Q H locs ls hQ hx hb hr hlk hmn hml hown hts hA hK hP hD hS hl
  have hown : s.vm.findClass RX9 = some m.cls := hown
  have hF : CallFix p m c cX9_saysOf 4 s ([.ref jM, .int p0] : List Value).toArray wsX9_saysOf RX9 := ⟨hx, hb, hml, hown, hts⟩
  have hl : lv_has ls 4 [(0, .ref jM), (1, .int p0)] := hl
  have iw9 : ∀ w ∈ u_ws RX9 TX9 29, w ∈ wsX9_saysOf := by decide +kernel
  have kw1 := hts (.fieldLink RX9 7 "HeldTonguesModel" "s" "[I") (by decide +kernel)
  delta fX9_saysOf at hf
  refine lv_aload_n hx hb dX9_saysOf_0 rfl (lv_at hl 0 rfl) ?_
  refine lv_iload_n hx hb dX9_saysOf_1 rfl (lv_at hl 1 rfl) ?_
  refine lv_iconst (v := 3) hx hb dX9_saysOf_2 (by decide) ?_
  obtain ⟨o_1, ho_1, hf⟩ := ht_bn_ob hf
  refine ht_callVi (r := o_1) (rest := []) (As := [.int p0, .int (3 : Int32)]) (wc := (wMo K jM aM RM.s RM.held RM.aside RM.before RM.isHeld RM.tape RM.taped RM.token RM.frm RM.to RM.value RM.isWrong RM.unpaired RM.bestSound RM.bestWay RM.rows RM.rowN RM.sortOf RM.sizeOf RM.numbers RM.holdsWhat RM.holdsWhich RM.holdsMany RM.bodies RM.ran RM.actKind RM.actN RM.actA RM.isParted)) (wr := []) (w1 := (wMo K jM aM RM.s RM.held RM.aside RM.before RM.isHeld RM.tape RM.taped RM.token RM.frm RM.to RM.value RM.isWrong RM.unpaired RM.bestSound RM.bestWay RM.rows RM.rowN RM.sortOf RM.sizeOf RM.numbers RM.holdsWhat RM.holdsWhich RM.holdsMany RM.bodies RM.ran RM.actKind RM.actN RM.actA RM.isParted)) (w2 := (wMo K jM aM RM.s RM.held RM.aside RM.before RM.isHeld RM.tape RM.taped RM.token RM.frm RM.to RM.value RM.isWrong RM.unpaired RM.bestSound RM.bestWay RM.rows RM.rowN RM.sortOf RM.sizeOf RM.numbers RM.holdsWhat RM.holdsWhich RM.holdsMany RM.bodies RM.ran RM.actKind RM.actN RM.actA RM.isParted)) hF (ctX9_its l D K jM aM RM p0 (3 : Int32) o_1 ho_1 H.size) (cwV 2 hts gX9_saysOf_X9_its rfl rfl rfl hdX9_its ⟨Nat.le_of_ble_eq_true rfl, Nat.le_of_ble_eq_true rfl⟩) hK hP hD hS hA [0, 1, 2, 3, 4, 5, 6, 7, 8, 9, 10, 11, 12, 13, 14, 15] [] rfl rfl (by decide) (by decide) (by decide) [0, 1, 2, 3, 4, 5, 6, 7, 8, 9, 10, 11, 12, 13, 14, 15] rfl (by decide) (va_recv hK hP (ci := 9) (q0 := 0) rfl rfl) rfl hl.1 rfl (Nat.le_of_ble_eq_true rfl) dX9_saysOf_3 ⟨Nat.zero_le _, Nat.zero_le _⟩ (fun H locs hP hD hS => ?_)
  refine lv_istore_n (lv' := [(2, .int o_1), (0, .ref jM), (1, .int p0)]) hx hb dX9_saysOf_6 rfl hl (by decide) rfl (fun ls hl => ?_)
  refine lv_iconst (v := 0) hx hb dX9_saysOf_7 (by decide) ?_
  refine lv_iload_n hx hb dX9_saysOf_8 rfl (lv_at hl 0 rfl) ?_
  refine lv_aload_n hx hb dX9_saysOf_9 rfl (lv_at hl 1 rfl) ?_
  refine va_get (D := D) (ci := 9) (v := .ref (aM 0)) (C := RX9) (T := TX9) (N := 29) hx hb hts iw9 hown hK hP 0 rfl rfl 0 (by decide) kw1 (fun _ h9 => h9) rfl dX9_saysOf_10 ?_
  refine lv_bipush (v := 6) hx hb dX9_saysOf_13 (by decide) ?_
  obtain ⟨g_2, hf⟩ := ht_gd_ob hf
  refine va_iald hx hb hK hP 1 1 rfl rfl (ht_ix_in g_2) dX9_saysOf_15 ?_
  refine lv_isub hx hb dX9_saysOf_16 ?_
  obtain ⟨o_3, ho_3, hf⟩ := ht_bn_ob hf
  refine ht_callSi (r := o_3) (rest := []) (As := [.int (0 : Int32), .int (o_1 - (RM.s (6 : Int32).toNatClampNeg))]) (wc := []) (wr := (wMo K jM aM RM.s RM.held RM.aside RM.before RM.isHeld RM.tape RM.taped RM.token RM.frm RM.to RM.value RM.isWrong RM.unpaired RM.bestSound RM.bestWay RM.rows RM.rowN RM.sortOf RM.sizeOf RM.numbers RM.holdsWhat RM.holdsWhich RM.holdsMany RM.bodies RM.ran RM.actKind RM.actN RM.actA RM.isParted)) (w1 := []) (w2 := (wMo K jM aM RM.s RM.held RM.aside RM.before RM.isHeld RM.tape RM.taped RM.token RM.frm RM.to RM.value RM.isWrong RM.unpaired RM.bestSound RM.bestWay RM.rows RM.rowN RM.sortOf RM.sizeOf RM.numbers RM.holdsWhat RM.holdsWhich RM.holdsMany RM.bodies RM.ran RM.actKind RM.actN RM.actA RM.isParted)) hF (ctX9_greatest l D K (0 : Int32) (o_1 - (RM.s (6 : Int32).toNatClampNeg)) o_3 ho_3 H.size) (va_cwS 2 hts gX9_saysOf_X9_greatest rfl rfl rfl hdX9_greatest ⟨Nat.le_of_ble_eq_true rfl, Nat.le_of_ble_eq_true rfl⟩) hK hP hD hS hA [] [0, 1, 2, 3, 4, 5, 6, 7, 8, 9, 10, 11, 12, 13, 14, 15] rfl rfl (by decide) (by decide) (by decide) [0, 1, 2, 3, 4, 5, 6, 7, 8, 9, 10, 11, 12, 13, 14, 15] rfl (by decide) rfl hl.1 rfl (Nat.le_of_ble_eq_true rfl) dX9_saysOf_17 ⟨Nat.zero_le _, Nat.zero_le _⟩ (fun H locs hP hD hS => ?_)
  refine lv_istore_n (lv' := [(3, .int o_3), (2, .int o_1), (0, .ref jM), (1, .int p0)]) hx hb dX9_saysOf_20 rfl hl (by decide) rfl (fun ls hl => ?_)
  refine lv_aload_n hx hb dX9_saysOf_21 rfl (lv_at hl 2 rfl) ?_
  refine lv_iload_n hx hb dX9_saysOf_22 rfl (lv_at hl 3 rfl) ?_
  refine lv_iconst (v := 0) hx hb dX9_saysOf_23 (by decide) ?_
  obtain ⟨o_4, ho_4, hf⟩ := ht_bn_ob hf
  refine ht_callVi (r := o_4) (rest := []) (As := [.int p0, .int (0 : Int32)]) (wc := (wMo K jM aM RM.s RM.held RM.aside RM.before RM.isHeld RM.tape RM.taped RM.token RM.frm RM.to RM.value RM.isWrong RM.unpaired RM.bestSound RM.bestWay RM.rows RM.rowN RM.sortOf RM.sizeOf RM.numbers RM.holdsWhat RM.holdsWhich RM.holdsMany RM.bodies RM.ran RM.actKind RM.actN RM.actA RM.isParted)) (wr := []) (w1 := (wMo K jM aM RM.s RM.held RM.aside RM.before RM.isHeld RM.tape RM.taped RM.token RM.frm RM.to RM.value RM.isWrong RM.unpaired RM.bestSound RM.bestWay RM.rows RM.rowN RM.sortOf RM.sizeOf RM.numbers RM.holdsWhat RM.holdsWhich RM.holdsMany RM.bodies RM.ran RM.actKind RM.actN RM.actA RM.isParted)) (w2 := (wMo K jM aM RM.s RM.held RM.aside RM.before RM.isHeld RM.tape RM.taped RM.token RM.frm RM.to RM.value RM.isWrong RM.unpaired RM.bestSound RM.bestWay RM.rows RM.rowN RM.sortOf RM.sizeOf RM.numbers RM.holdsWhat RM.holdsWhich RM.holdsMany RM.bodies RM.ran RM.actKind RM.actN RM.actA RM.isParted)) hF (ctX9_its l D K jM aM RM p0 (0 : Int32) o_4 ho_4 H.size) (cwV 2 hts gX9_saysOf_X9_its rfl rfl rfl hdX9_its ⟨Nat.le_of_ble_eq_true rfl, Nat.le_of_ble_eq_true rfl⟩) hK hP hD hS hA [0, 1, 2, 3, 4, 5, 6, 7, 8, 9, 10, 11, 12, 13, 14, 15] [] rfl rfl (by decide) (by decide) (by decide) [0, 1, 2, 3, 4, 5, 6, 7, 8, 9, 10, 11, 12, 13, 14, 15] rfl (by decide) (va_recv hK hP (ci := 9) (q0 := 0) rfl rfl) rfl hl.1 rfl (Nat.le_of_ble_eq_true rfl) dX9_saysOf_24 ⟨Nat.zero_le _, Nat.zero_le _⟩ (fun H locs hP hD hS => ?_)
  by_cases c_5 : o_4 = 1
  · replace hf := ht_t c_5 hf
    refine lv_tableIn (tgt := 60) hx hb dX9_saysOf_27 (by rw [c_5]; decide) (by rw [c_5]; decide) (by rw [c_5]; rfl) (by decide) ?_
    refine lv_iload_n hx hb dX9_saysOf_60 rfl (lv_at hl 1 rfl) ?_
    refine lv_aload_n hx hb dX9_saysOf_61 rfl (lv_at hl 2 rfl) ?_
    refine va_get (D := D) (ci := 9) (v := .ref (aM 0)) (C := RX9) (T := TX9) (N := 29) hx hb hts iw9 hown hK hP 0 rfl rfl 0 (by decide) kw1 (fun _ h9 => h9) rfl dX9_saysOf_62 ?_
    refine lv_iconst (v := 5) hx hb dX9_saysOf_65 (by decide) ?_
    obtain ⟨g_6, hf⟩ := ht_gd_ob hf
    refine va_iald hx hb hK hP 1 1 rfl rfl (ht_ix_in g_6) dX9_saysOf_66 ?_
    refine lv_iadd hx hb dX9_saysOf_67 ?_
    have ho := Option.some.inj hf
    subst ho; subst hQ
    exact ht_iret hx hb hr hlk rfl hK hP hD hS dX9_saysOf_68
  replace hf := ht_f c_5 hf
  by_cases c_7 : o_4 = 2
  · replace hf := ht_t c_7 hf
    refine lv_tableIn (tgt := 69) hx hb dX9_saysOf_27 (by rw [c_7]; decide) (by rw [c_7]; decide) (by rw [c_7]; rfl) (by decide) ?_
    refine lv_iload_n hx hb dX9_saysOf_69 rfl (lv_at hl 0 rfl) ?_
    have ho := Option.some.inj hf
    subst ho; subst hQ
    exact ht_iret hx hb hr hlk rfl hK hP hD hS dX9_saysOf_70
  replace hf := ht_f c_7 hf
  by_cases c_8 : o_4 = 3
  · replace hf := ht_t c_8 hf
    refine lv_tableIn (tgt := 71) hx hb dX9_saysOf_27 (by rw [c_8]; decide) (by rw [c_8]; decide) (by rw [c_8]; rfl) (by decide) ?_
    refine lv_iconst (v := 2) hx hb dX9_saysOf_71 (by decide) ?_
    refine lv_iload_n hx hb dX9_saysOf_72 rfl (lv_at hl 1 rfl) ?_
    refine lv_aload_n hx hb dX9_saysOf_73 rfl (lv_at hl 2 rfl) ?_
    refine va_get (D := D) (ci := 9) (v := .ref (aM 0)) (C := RX9) (T := TX9) (N := 29) hx hb hts iw9 hown hK hP 0 rfl rfl 0 (by decide) kw1 (fun _ h9 => h9) rfl dX9_saysOf_74 ?_
    refine lv_iconst (v := 5) hx hb dX9_saysOf_77 (by decide) ?_
    obtain ⟨g_9, hf⟩ := ht_gd_ob hf
    refine va_iald hx hb hK hP 1 1 rfl rfl (ht_ix_in g_9) dX9_saysOf_78 ?_
    refine lv_iadd hx hb dX9_saysOf_79 ?_
    refine lv_imul hx hb dX9_saysOf_80 ?_
    have ho := Option.some.inj hf
    subst ho; subst hQ
    exact ht_iret hx hb hr hlk rfl hK hP hD hS dX9_saysOf_81
  replace hf := ht_f c_8 hf
  by_cases c_10 : o_4 = 4
  · replace hf := ht_t c_10 hf
    refine lv_tableIn (tgt := 82) hx hb dX9_saysOf_27 (by rw [c_10]; decide) (by rw [c_10]; decide) (by rw [c_10]; rfl) (by decide) ?_
    refine lv_iload_n hx hb dX9_saysOf_82 rfl (lv_at hl 0 rfl) ?_
    refine lv_aload_n hx hb dX9_saysOf_83 rfl (lv_at hl 2 rfl) ?_
    refine lv_iload_n hx hb dX9_saysOf_84 rfl (lv_at hl 3 rfl) ?_
    refine lv_iconst (v := 2) hx hb dX9_saysOf_85 (by decide) ?_
    obtain ⟨o_11, ho_11, hf⟩ := ht_bn_ob hf
    refine ht_callVi (r := o_11) (rest := [.int o_3]) (As := [.int p0, .int (2 : Int32)]) (wc := (wMo K jM aM RM.s RM.held RM.aside RM.before RM.isHeld RM.tape RM.taped RM.token RM.frm RM.to RM.value RM.isWrong RM.unpaired RM.bestSound RM.bestWay RM.rows RM.rowN RM.sortOf RM.sizeOf RM.numbers RM.holdsWhat RM.holdsWhich RM.holdsMany RM.bodies RM.ran RM.actKind RM.actN RM.actA RM.isParted)) (wr := []) (w1 := (wMo K jM aM RM.s RM.held RM.aside RM.before RM.isHeld RM.tape RM.taped RM.token RM.frm RM.to RM.value RM.isWrong RM.unpaired RM.bestSound RM.bestWay RM.rows RM.rowN RM.sortOf RM.sizeOf RM.numbers RM.holdsWhat RM.holdsWhich RM.holdsMany RM.bodies RM.ran RM.actKind RM.actN RM.actA RM.isParted)) (w2 := (wMo K jM aM RM.s RM.held RM.aside RM.before RM.isHeld RM.tape RM.taped RM.token RM.frm RM.to RM.value RM.isWrong RM.unpaired RM.bestSound RM.bestWay RM.rows RM.rowN RM.sortOf RM.sizeOf RM.numbers RM.holdsWhat RM.holdsWhich RM.holdsMany RM.bodies RM.ran RM.actKind RM.actN RM.actA RM.isParted)) hF (ctX9_its l D K jM aM RM p0 (2 : Int32) o_11 ho_11 H.size) (cwV 2 hts gX9_saysOf_X9_its rfl rfl rfl hdX9_its ⟨Nat.le_of_ble_eq_true rfl, Nat.le_of_ble_eq_true rfl⟩) hK hP hD hS hA [0, 1, 2, 3, 4, 5, 6, 7, 8, 9, 10, 11, 12, 13, 14, 15] [] rfl rfl (by decide) (by decide) (by decide) [0, 1, 2, 3, 4, 5, 6, 7, 8, 9, 10, 11, 12, 13, 14, 15] rfl (by decide) (va_recv hK hP (ci := 9) (q0 := 0) rfl rfl) rfl hl.1 rfl (Nat.le_of_ble_eq_true rfl) dX9_saysOf_86 ⟨Nat.zero_le _, Nat.zero_le _⟩ (fun H locs hP hD hS => ?_)
    refine lv_bipush (v := 10) hx hb dX9_saysOf_89 (by decide) ?_
    refine lv_idiv hx hb dX9_saysOf_91 (by decide) ?_
    refine lv_iadd hx hb dX9_saysOf_92 ?_
    have ho := Option.some.inj hf
    subst ho; subst hQ
    exact ht_iret hx hb hr hlk rfl hK hP hD hS dX9_saysOf_93
  replace hf := ht_f c_10 hf
  by_cases c_12 : o_4 = 5
  · replace hf := ht_t c_12 hf
    refine lv_tableIn (tgt := 94) hx hb dX9_saysOf_27 (by rw [c_12]; decide) (by rw [c_12]; decide) (by rw [c_12]; rfl) (by decide) ?_
    refine lv_aload_n hx hb dX9_saysOf_94 rfl (lv_at hl 2 rfl) ?_
    refine va_get (D := D) (ci := 9) (v := .ref (aM 0)) (C := RX9) (T := TX9) (N := 29) hx hb hts iw9 hown hK hP 0 rfl rfl 0 (by decide) kw1 (fun _ h9 => h9) rfl dX9_saysOf_95 ?_
    refine lv_iconst (v := 1) hx hb dX9_saysOf_98 (by decide) ?_
    obtain ⟨g_13, hf⟩ := ht_gd_ob hf
    refine va_iald hx hb hK hP 1 1 rfl rfl (ht_ix_in g_13) dX9_saysOf_99 ?_
    refine lv_iconst (v := 2) hx hb dX9_saysOf_100 (by decide) ?_
    refine lv_irem hx hb dX9_saysOf_101 (by decide) ?_
    refine lv_if_ne (tgt := 109) hx hb dX9_saysOf_102 (by decide) (fun c_14 => ?_) (fun c_14 => ?_)
    · replace hf := ht_f c_14 hf
      refine lv_iconst (v := 1) hx hb dX9_saysOf_109 (by decide) ?_
      have ho := Option.some.inj hf
      subst ho; subst hQ
      exact ht_iret hx hb hr hlk rfl hK hP hD hS dX9_saysOf_110
    · replace hf := ht_t c_14 hf
      refine lv_iload_n hx hb dX9_saysOf_105 rfl (lv_at hl 1 rfl) ?_
      refine lv_goto (tgt := 110) hx hb dX9_saysOf_106 (by decide) ?_
      have ho := Option.some.inj hf
      subst ho; subst hQ
      exact ht_iret hx hb hr hlk rfl hK hP hD hS dX9_saysOf_110
  replace hf := ht_f c_12 hf
  refine lv_tableOut (tgt := 111) hx hb dX9_saysOf_27 (by have := lv_neT c_5 (a := 1) rfl; have := lv_neT c_7 (a := 2) rfl; have := lv_neT c_8 (a := 3) rfl; have := lv_neT c_10 (a := 4) rfl; have := lv_neT c_12 (a := 5) rfl; omega) (by decide) ?_
  refine lv_iload_n hx hb dX9_saysOf_111 rfl (lv_at hl 1 rfl) ?_
  have ho := Option.some.inj hf
  subst ho; subst hQ
  exact ht_iret hx hb hr hlk rfl hK hP hD hS dX9_saysOf_112
abbrev rmX9_growsOf : Room := { frames := 1, cells := 0, slots := 0, locals := 22 }
theorem hdX9_growsOf : yX9_growsOf.cls = RX9 ∧ yX9_growsOf.cls ≠ "java/lang/invoke/MethodHandle" ∧ yX9_growsOf.cls ≠ "java/lang/invoke/VarHandle" ∧ (parseMethodDescriptor yX9_growsOf.desc).map (fun d => d.parameters.length) = some 1 := by decide +kernel
def fX9_growsOf (RM : ModV) (p0 : Int32) : Option Int32 := ht_gd (ht_ix (7 : Int32) 57) (ht_nm (RM.s (7 : Int32).toNatClampNeg) (fun x2_2 => ht_bn (fX9_its RM p0 (0 : Int32)) (fun o_3 => if o_3 = 1 then (some (x2_2 + (1 : Int32))) else if o_3 = 2 then (some (x2_2 / (2 : Int32))) else if o_3 = 3 then (ht_gd (ht_ix (5 : Int32) 57) (some ((x2_2 + (1 : Int32)) + (RM.s (5 : Int32).toNatClampNeg)))) else if o_3 = 4 then (some ((x2_2 / (2 : Int32)) - (2 : Int32))) else if o_3 = 5 then (ht_bn (fX9_its RM p0 (3 : Int32)) (fun o_10 => some (x2_2 + o_10))) else (some x2_2))))
set_option maxHeartbeats 1000000 in
set_option maxRecDepth 100000 in
theorem ctX9_growsOf (l : Launch) (D : va_G) (K : Nat → ClassId) (jM : Nat) (aM : Nat → Nat) (RM : ModV) (p0 : Int32) (o : Int32) (hf : fX9_growsOf RM p0 = some o) (sz : Nat) : Met l yX9_growsOf wsX9_growsOf rmX9_growsOf (ht_Pre D K [.ref jM, .int p0] (wMo K jM aM RM.s RM.held RM.aside RM.before RM.isHeld RM.tape RM.taped RM.token RM.frm RM.to RM.value RM.isWrong RM.unpaired RM.bestSound RM.bestWay RM.rows RM.rowN RM.sortOf RM.sizeOf RM.numbers RM.holdsWhat RM.holdsWhich RM.holdsMany RM.bodies RM.ran RM.actKind RM.actN RM.actA RM.isParted) sz) (ht_Qi D K (wMo K jM aM RM.s RM.held RM.aside RM.before RM.isHeld RM.tape RM.taped RM.token RM.frm RM.to RM.value RM.isWrong RM.unpaired RM.bestSound RM.bestWay RM.rows RM.rowN RM.sortOf RM.sizeOf RM.numbers RM.holdsWhat RM.holdsWhich RM.holdsMany RM.bodies RM.ran RM.actKind RM.actN RM.actA RM.isParted) o (va_A (wMo K jM aM RM.s RM.held RM.aside RM.before RM.isHeld RM.tape RM.taped RM.token RM.frm RM.to RM.value RM.isWrong RM.unpaired RM.bestSound RM.bestWay RM.rows RM.rowN RM.sortOf RM.sizeOf RM.numbers RM.holdsWhat RM.holdsWhich RM.holdsMany RM.bodies RM.ran RM.actKind RM.actN RM.actA RM.isParted) sz)) 0 0 (va_A (wMo K jM aM RM.s RM.held RM.aside RM.before RM.isHeld RM.tape RM.taped RM.token RM.frm RM.to RM.value RM.isWrong RM.unpaired RM.bestSound RM.bestWay RM.rows RM.rowN RM.sortOf RM.sizeOf RM.numbers RM.holdsWhat RM.holdsWhich RM.holdsMany RM.bodies RM.ran RM.actKind RM.actN RM.actA RM.isParted) sz) := by
  refine ht_enter (Qf := ht_Qi D K (wMo K jM aM RM.s RM.held RM.aside RM.before RM.isHeld RM.tape RM.taped RM.token RM.frm RM.to RM.value RM.isWrong RM.unpaired RM.bestSound RM.bestWay RM.rows RM.rowN RM.sortOf RM.sizeOf RM.numbers RM.holdsWhat RM.holdsWhich RM.holdsMany RM.bodies RM.ran RM.actKind RM.actN RM.actA RM.isParted) o) (cc := cX9_growsOf) (maxL := 3) (rt := (some .int)) (by decide) rfl (Nat.le_of_ble_eq_true rfl) ?_ sz
  intro p e s m below meth c A Q H locs ls hQ hx hb hr hlk hmn hml hown hts hA hK hP hD hS hl
  have hown : s.vm.findClass RX9 = some m.cls := hown
  have hF : CallFix p m c cX9_growsOf 3 s ([.ref jM, .int p0] : List Value).toArray wsX9_growsOf RX9 := ⟨hx, hb, hml, hown, hts⟩
  have hl : lv_has ls 3 [(0, .ref jM), (1, .int p0)] := hl
  have iw9 : ∀ w ∈ u_ws RX9 TX9 29, w ∈ wsX9_growsOf := by decide +kernel
  have kw1 := hts (.fieldLink RX9 7 "HeldTonguesModel" "s" "[I") (by decide +kernel)
  delta fX9_growsOf at hf
  refine lv_aload_n hx hb dX9_growsOf_0 rfl (lv_at hl 0 rfl) ?_
  refine va_get (D := D) (ci := 9) (v := .ref (aM 0)) (C := RX9) (T := TX9) (N := 29) hx hb hts iw9 hown hK hP 0 rfl rfl 0 (by decide) kw1 (fun _ h9 => h9) rfl dX9_growsOf_1 ?_
  refine lv_bipush (v := 7) hx hb dX9_growsOf_4 (by decide) ?_
  obtain ⟨g_1, hf⟩ := ht_gd_ob hf
  refine va_iald hx hb hK hP 1 1 rfl rfl (ht_ix_in g_1) dX9_growsOf_6 ?_
  obtain ⟨x2_2, ex2_2, hf⟩ := ht_nm_ob hf
  rw [← ex2_2]
  refine lv_istore_n (lv' := [(2, .int x2_2), (0, .ref jM), (1, .int p0)]) hx hb dX9_growsOf_7 rfl hl (by decide) rfl (fun ls hl => ?_)
  refine lv_aload_n hx hb dX9_growsOf_8 rfl (lv_at hl 1 rfl) ?_
  refine lv_iload_n hx hb dX9_growsOf_9 rfl (lv_at hl 2 rfl) ?_
  refine lv_iconst (v := 0) hx hb dX9_growsOf_10 (by decide) ?_
  obtain ⟨o_3, ho_3, hf⟩ := ht_bn_ob hf
  refine ht_callVi (r := o_3) (rest := []) (As := [.int p0, .int (0 : Int32)]) (wc := (wMo K jM aM RM.s RM.held RM.aside RM.before RM.isHeld RM.tape RM.taped RM.token RM.frm RM.to RM.value RM.isWrong RM.unpaired RM.bestSound RM.bestWay RM.rows RM.rowN RM.sortOf RM.sizeOf RM.numbers RM.holdsWhat RM.holdsWhich RM.holdsMany RM.bodies RM.ran RM.actKind RM.actN RM.actA RM.isParted)) (wr := []) (w1 := (wMo K jM aM RM.s RM.held RM.aside RM.before RM.isHeld RM.tape RM.taped RM.token RM.frm RM.to RM.value RM.isWrong RM.unpaired RM.bestSound RM.bestWay RM.rows RM.rowN RM.sortOf RM.sizeOf RM.numbers RM.holdsWhat RM.holdsWhich RM.holdsMany RM.bodies RM.ran RM.actKind RM.actN RM.actA RM.isParted)) (w2 := (wMo K jM aM RM.s RM.held RM.aside RM.before RM.isHeld RM.tape RM.taped RM.token RM.frm RM.to RM.value RM.isWrong RM.unpaired RM.bestSound RM.bestWay RM.rows RM.rowN RM.sortOf RM.sizeOf RM.numbers RM.holdsWhat RM.holdsWhich RM.holdsMany RM.bodies RM.ran RM.actKind RM.actN RM.actA RM.isParted)) hF (ctX9_its l D K jM aM RM p0 (0 : Int32) o_3 ho_3 H.size) (cwV 2 hts gX9_growsOf_X9_its rfl rfl rfl hdX9_its ⟨Nat.le_of_ble_eq_true rfl, Nat.le_of_ble_eq_true rfl⟩) hK hP hD hS hA [0, 1, 2, 3, 4, 5, 6, 7, 8, 9, 10, 11, 12, 13, 14, 15] [] rfl rfl (by decide) (by decide) (by decide) [0, 1, 2, 3, 4, 5, 6, 7, 8, 9, 10, 11, 12, 13, 14, 15] rfl (by decide) (va_recv hK hP (ci := 9) (q0 := 0) rfl rfl) rfl hl.1 rfl (Nat.le_of_ble_eq_true rfl) dX9_growsOf_11 ⟨Nat.zero_le _, Nat.zero_le _⟩ (fun H locs hP hD hS => ?_)
  by_cases c_4 : o_3 = 1
  · replace hf := ht_t c_4 hf
    refine lv_tableIn (tgt := 48) hx hb dX9_growsOf_14 (by rw [c_4]; decide) (by rw [c_4]; decide) (by rw [c_4]; rfl) (by decide) ?_
    refine lv_iload_n hx hb dX9_growsOf_48 rfl (lv_at hl 0 rfl) ?_
    refine lv_iconst (v := 1) hx hb dX9_growsOf_49 (by decide) ?_
    refine lv_iadd hx hb dX9_growsOf_50 ?_
    have ho := Option.some.inj hf
    subst ho; subst hQ
    exact ht_iret hx hb hr hlk rfl hK hP hD hS dX9_growsOf_51
  replace hf := ht_f c_4 hf
  by_cases c_5 : o_3 = 2
  · replace hf := ht_t c_5 hf
    refine lv_tableIn (tgt := 52) hx hb dX9_growsOf_14 (by rw [c_5]; decide) (by rw [c_5]; decide) (by rw [c_5]; rfl) (by decide) ?_
    refine lv_iload_n hx hb dX9_growsOf_52 rfl (lv_at hl 0 rfl) ?_
    refine lv_iconst (v := 2) hx hb dX9_growsOf_53 (by decide) ?_
    refine lv_idiv hx hb dX9_growsOf_54 (by decide) ?_
    have ho := Option.some.inj hf
    subst ho; subst hQ
    exact ht_iret hx hb hr hlk rfl hK hP hD hS dX9_growsOf_55
  replace hf := ht_f c_5 hf
  by_cases c_6 : o_3 = 3
  · replace hf := ht_t c_6 hf
    refine lv_tableIn (tgt := 56) hx hb dX9_growsOf_14 (by rw [c_6]; decide) (by rw [c_6]; decide) (by rw [c_6]; rfl) (by decide) ?_
    refine lv_iload_n hx hb dX9_growsOf_56 rfl (lv_at hl 0 rfl) ?_
    refine lv_iconst (v := 1) hx hb dX9_growsOf_57 (by decide) ?_
    refine lv_iadd hx hb dX9_growsOf_58 ?_
    refine lv_aload_n hx hb dX9_growsOf_59 rfl (lv_at hl 1 rfl) ?_
    refine va_get (D := D) (ci := 9) (v := .ref (aM 0)) (C := RX9) (T := TX9) (N := 29) hx hb hts iw9 hown hK hP 0 rfl rfl 0 (by decide) kw1 (fun _ h9 => h9) rfl dX9_growsOf_60 ?_
    refine lv_iconst (v := 5) hx hb dX9_growsOf_63 (by decide) ?_
    obtain ⟨g_7, hf⟩ := ht_gd_ob hf
    refine va_iald hx hb hK hP 1 1 rfl rfl (ht_ix_in g_7) dX9_growsOf_64 ?_
    refine lv_iadd hx hb dX9_growsOf_65 ?_
    have ho := Option.some.inj hf
    subst ho; subst hQ
    exact ht_iret hx hb hr hlk rfl hK hP hD hS dX9_growsOf_66
  replace hf := ht_f c_6 hf
  by_cases c_8 : o_3 = 4
  · replace hf := ht_t c_8 hf
    refine lv_tableIn (tgt := 67) hx hb dX9_growsOf_14 (by rw [c_8]; decide) (by rw [c_8]; decide) (by rw [c_8]; rfl) (by decide) ?_
    refine lv_iload_n hx hb dX9_growsOf_67 rfl (lv_at hl 0 rfl) ?_
    refine lv_iconst (v := 2) hx hb dX9_growsOf_68 (by decide) ?_
    refine lv_idiv hx hb dX9_growsOf_69 (by decide) ?_
    refine lv_iconst (v := 2) hx hb dX9_growsOf_70 (by decide) ?_
    refine lv_isub hx hb dX9_growsOf_71 ?_
    have ho := Option.some.inj hf
    subst ho; subst hQ
    exact ht_iret hx hb hr hlk rfl hK hP hD hS dX9_growsOf_72
  replace hf := ht_f c_8 hf
  by_cases c_9 : o_3 = 5
  · replace hf := ht_t c_9 hf
    refine lv_tableIn (tgt := 73) hx hb dX9_growsOf_14 (by rw [c_9]; decide) (by rw [c_9]; decide) (by rw [c_9]; rfl) (by decide) ?_
    refine lv_iload_n hx hb dX9_growsOf_73 rfl (lv_at hl 0 rfl) ?_
    refine lv_aload_n hx hb dX9_growsOf_74 rfl (lv_at hl 1 rfl) ?_
    refine lv_iload_n hx hb dX9_growsOf_75 rfl (lv_at hl 2 rfl) ?_
    refine lv_iconst (v := 3) hx hb dX9_growsOf_76 (by decide) ?_
    obtain ⟨o_10, ho_10, hf⟩ := ht_bn_ob hf
    refine ht_callVi (r := o_10) (rest := [.int x2_2]) (As := [.int p0, .int (3 : Int32)]) (wc := (wMo K jM aM RM.s RM.held RM.aside RM.before RM.isHeld RM.tape RM.taped RM.token RM.frm RM.to RM.value RM.isWrong RM.unpaired RM.bestSound RM.bestWay RM.rows RM.rowN RM.sortOf RM.sizeOf RM.numbers RM.holdsWhat RM.holdsWhich RM.holdsMany RM.bodies RM.ran RM.actKind RM.actN RM.actA RM.isParted)) (wr := []) (w1 := (wMo K jM aM RM.s RM.held RM.aside RM.before RM.isHeld RM.tape RM.taped RM.token RM.frm RM.to RM.value RM.isWrong RM.unpaired RM.bestSound RM.bestWay RM.rows RM.rowN RM.sortOf RM.sizeOf RM.numbers RM.holdsWhat RM.holdsWhich RM.holdsMany RM.bodies RM.ran RM.actKind RM.actN RM.actA RM.isParted)) (w2 := (wMo K jM aM RM.s RM.held RM.aside RM.before RM.isHeld RM.tape RM.taped RM.token RM.frm RM.to RM.value RM.isWrong RM.unpaired RM.bestSound RM.bestWay RM.rows RM.rowN RM.sortOf RM.sizeOf RM.numbers RM.holdsWhat RM.holdsWhich RM.holdsMany RM.bodies RM.ran RM.actKind RM.actN RM.actA RM.isParted)) hF (ctX9_its l D K jM aM RM p0 (3 : Int32) o_10 ho_10 H.size) (cwV 2 hts gX9_growsOf_X9_its rfl rfl rfl hdX9_its ⟨Nat.le_of_ble_eq_true rfl, Nat.le_of_ble_eq_true rfl⟩) hK hP hD hS hA [0, 1, 2, 3, 4, 5, 6, 7, 8, 9, 10, 11, 12, 13, 14, 15] [] rfl rfl (by decide) (by decide) (by decide) [0, 1, 2, 3, 4, 5, 6, 7, 8, 9, 10, 11, 12, 13, 14, 15] rfl (by decide) (va_recv hK hP (ci := 9) (q0 := 0) rfl rfl) rfl hl.1 rfl (Nat.le_of_ble_eq_true rfl) dX9_growsOf_77 ⟨Nat.zero_le _, Nat.zero_le _⟩ (fun H locs hP hD hS => ?_)
    refine lv_iadd hx hb dX9_growsOf_80 ?_
    have ho := Option.some.inj hf
    subst ho; subst hQ
    exact ht_iret hx hb hr hlk rfl hK hP hD hS dX9_growsOf_81
  replace hf := ht_f c_9 hf
  refine lv_tableOut (tgt := 82) hx hb dX9_growsOf_14 (by have := lv_neT c_4 (a := 1) rfl; have := lv_neT c_5 (a := 2) rfl; have := lv_neT c_6 (a := 3) rfl; have := lv_neT c_8 (a := 4) rfl; have := lv_neT c_9 (a := 5) rfl; omega) (by decide) ?_
  refine lv_iload_n hx hb dX9_growsOf_82 rfl (lv_at hl 0 rfl) ?_
  have ho := Option.some.inj hf
  subst ho; subst hQ
  exact ht_iret hx hb hr hlk rfl hK hP hD hS dX9_growsOf_83
abbrev rmX9_savesOf : Room := { frames := 1, cells := 0, slots := 0, locals := 22 }
theorem hdX9_savesOf : yX9_savesOf.cls = RX9 ∧ yX9_savesOf.cls ≠ "java/lang/invoke/MethodHandle" ∧ yX9_savesOf.cls ≠ "java/lang/invoke/VarHandle" ∧ (parseMethodDescriptor yX9_savesOf.desc).map (fun d => d.parameters.length) = some 1 := by decide +kernel
def fX9_savesOf (RM : ModV) (p0 : Int32) : Option Int32 := ht_bn (fX9_its RM p0 (0 : Int32)) (fun o_1 => if o_1 = 1 then (some (0 : Int32)) else if o_1 = 2 then (ht_gd (ht_ix (6 : Int32) 57) (some ((1 : Int32) + (RM.s (6 : Int32).toNatClampNeg)))) else if o_1 = 3 then (some (0 : Int32)) else if o_1 = 4 then (ht_gd (ht_ix (6 : Int32) 57) (some ((3 : Int32) * ((1 : Int32) + (RM.s (6 : Int32).toNatClampNeg))))) else if o_1 = 5 then (ht_gd (ht_ix (1 : Int32) 57) (if ((RM.s (1 : Int32).toNatClampNeg) - (RM.s (1 : Int32).toNatClampNeg) / (7 : Int32) * (7 : Int32)) = 0 then (some (1 : Int32)) else (some (0 : Int32)))) else (some (1 : Int32)))
set_option maxHeartbeats 1000000 in
set_option maxRecDepth 100000 in
theorem ctX9_savesOf (l : Launch) (D : va_G) (K : Nat → ClassId) (jM : Nat) (aM : Nat → Nat) (RM : ModV) (p0 : Int32) (o : Int32) (hf : fX9_savesOf RM p0 = some o) (sz : Nat) : Met l yX9_savesOf wsX9_savesOf rmX9_savesOf (ht_Pre D K [.ref jM, .int p0] (wMo K jM aM RM.s RM.held RM.aside RM.before RM.isHeld RM.tape RM.taped RM.token RM.frm RM.to RM.value RM.isWrong RM.unpaired RM.bestSound RM.bestWay RM.rows RM.rowN RM.sortOf RM.sizeOf RM.numbers RM.holdsWhat RM.holdsWhich RM.holdsMany RM.bodies RM.ran RM.actKind RM.actN RM.actA RM.isParted) sz) (ht_Qi D K (wMo K jM aM RM.s RM.held RM.aside RM.before RM.isHeld RM.tape RM.taped RM.token RM.frm RM.to RM.value RM.isWrong RM.unpaired RM.bestSound RM.bestWay RM.rows RM.rowN RM.sortOf RM.sizeOf RM.numbers RM.holdsWhat RM.holdsWhich RM.holdsMany RM.bodies RM.ran RM.actKind RM.actN RM.actA RM.isParted) o (va_A (wMo K jM aM RM.s RM.held RM.aside RM.before RM.isHeld RM.tape RM.taped RM.token RM.frm RM.to RM.value RM.isWrong RM.unpaired RM.bestSound RM.bestWay RM.rows RM.rowN RM.sortOf RM.sizeOf RM.numbers RM.holdsWhat RM.holdsWhich RM.holdsMany RM.bodies RM.ran RM.actKind RM.actN RM.actA RM.isParted) sz)) 0 0 (va_A (wMo K jM aM RM.s RM.held RM.aside RM.before RM.isHeld RM.tape RM.taped RM.token RM.frm RM.to RM.value RM.isWrong RM.unpaired RM.bestSound RM.bestWay RM.rows RM.rowN RM.sortOf RM.sizeOf RM.numbers RM.holdsWhat RM.holdsWhich RM.holdsMany RM.bodies RM.ran RM.actKind RM.actN RM.actA RM.isParted) sz) := by
  refine ht_enter (Qf := ht_Qi D K (wMo K jM aM RM.s RM.held RM.aside RM.before RM.isHeld RM.tape RM.taped RM.token RM.frm RM.to RM.value RM.isWrong RM.unpaired RM.bestSound RM.bestWay RM.rows RM.rowN RM.sortOf RM.sizeOf RM.numbers RM.holdsWhat RM.holdsWhich RM.holdsMany RM.bodies RM.ran RM.actKind RM.actN RM.actA RM.isParted) o) (cc := cX9_savesOf) (maxL := 2) (rt := (some .int)) (by decide) rfl (Nat.le_of_ble_eq_true rfl) ?_ sz
  intro p e s m below meth c A Q H locs ls hQ hx hb hr hlk hmn hml hown hts hA hK hP hD hS hl
  have hown : s.vm.findClass RX9 = some m.cls := hown
  have hF : CallFix p m c cX9_savesOf 2 s ([.ref jM, .int p0] : List Value).toArray wsX9_savesOf RX9 := ⟨hx, hb, hml, hown, hts⟩
  have hl : lv_has ls 2 [(0, .ref jM), (1, .int p0)] := hl
  have iw9 : ∀ w ∈ u_ws RX9 TX9 29, w ∈ wsX9_savesOf := by decide +kernel
  have kw1 := hts (.fieldLink RX9 7 "HeldTonguesModel" "s" "[I") (by decide +kernel)
  delta fX9_savesOf at hf
  refine lv_aload_n hx hb dX9_savesOf_0 rfl (lv_at hl 0 rfl) ?_
  refine lv_iload_n hx hb dX9_savesOf_1 rfl (lv_at hl 1 rfl) ?_
  refine lv_iconst (v := 0) hx hb dX9_savesOf_2 (by decide) ?_
  obtain ⟨o_1, ho_1, hf⟩ := ht_bn_ob hf
  refine ht_callVi (r := o_1) (rest := []) (As := [.int p0, .int (0 : Int32)]) (wc := (wMo K jM aM RM.s RM.held RM.aside RM.before RM.isHeld RM.tape RM.taped RM.token RM.frm RM.to RM.value RM.isWrong RM.unpaired RM.bestSound RM.bestWay RM.rows RM.rowN RM.sortOf RM.sizeOf RM.numbers RM.holdsWhat RM.holdsWhich RM.holdsMany RM.bodies RM.ran RM.actKind RM.actN RM.actA RM.isParted)) (wr := []) (w1 := (wMo K jM aM RM.s RM.held RM.aside RM.before RM.isHeld RM.tape RM.taped RM.token RM.frm RM.to RM.value RM.isWrong RM.unpaired RM.bestSound RM.bestWay RM.rows RM.rowN RM.sortOf RM.sizeOf RM.numbers RM.holdsWhat RM.holdsWhich RM.holdsMany RM.bodies RM.ran RM.actKind RM.actN RM.actA RM.isParted)) (w2 := (wMo K jM aM RM.s RM.held RM.aside RM.before RM.isHeld RM.tape RM.taped RM.token RM.frm RM.to RM.value RM.isWrong RM.unpaired RM.bestSound RM.bestWay RM.rows RM.rowN RM.sortOf RM.sizeOf RM.numbers RM.holdsWhat RM.holdsWhich RM.holdsMany RM.bodies RM.ran RM.actKind RM.actN RM.actA RM.isParted)) hF (ctX9_its l D K jM aM RM p0 (0 : Int32) o_1 ho_1 H.size) (cwV 2 hts gX9_savesOf_X9_its rfl rfl rfl hdX9_its ⟨Nat.le_of_ble_eq_true rfl, Nat.le_of_ble_eq_true rfl⟩) hK hP hD hS hA [0, 1, 2, 3, 4, 5, 6, 7, 8, 9, 10, 11, 12, 13, 14, 15] [] rfl rfl (by decide) (by decide) (by decide) [0, 1, 2, 3, 4, 5, 6, 7, 8, 9, 10, 11, 12, 13, 14, 15] rfl (by decide) (va_recv hK hP (ci := 9) (q0 := 0) rfl rfl) rfl hl.1 rfl (Nat.le_of_ble_eq_true rfl) dX9_savesOf_3 ⟨Nat.zero_le _, Nat.zero_le _⟩ (fun H locs hP hD hS => ?_)
  by_cases c_2 : o_1 = 1
  · replace hf := ht_t c_2 hf
    refine lv_tableIn (tgt := 40) hx hb dX9_savesOf_6 (by rw [c_2]; decide) (by rw [c_2]; decide) (by rw [c_2]; rfl) (by decide) ?_
    refine lv_iconst (v := 0) hx hb dX9_savesOf_40 (by decide) ?_
    have ho := Option.some.inj hf
    subst ho; subst hQ
    exact ht_iret hx hb hr hlk rfl hK hP hD hS dX9_savesOf_41
  replace hf := ht_f c_2 hf
  by_cases c_3 : o_1 = 2
  · replace hf := ht_t c_3 hf
    refine lv_tableIn (tgt := 42) hx hb dX9_savesOf_6 (by rw [c_3]; decide) (by rw [c_3]; decide) (by rw [c_3]; rfl) (by decide) ?_
    refine lv_iconst (v := 1) hx hb dX9_savesOf_42 (by decide) ?_
    refine lv_aload_n hx hb dX9_savesOf_43 rfl (lv_at hl 0 rfl) ?_
    refine va_get (D := D) (ci := 9) (v := .ref (aM 0)) (C := RX9) (T := TX9) (N := 29) hx hb hts iw9 hown hK hP 0 rfl rfl 0 (by decide) kw1 (fun _ h9 => h9) rfl dX9_savesOf_44 ?_
    refine lv_bipush (v := 6) hx hb dX9_savesOf_47 (by decide) ?_
    obtain ⟨g_4, hf⟩ := ht_gd_ob hf
    refine va_iald hx hb hK hP 1 1 rfl rfl (ht_ix_in g_4) dX9_savesOf_49 ?_
    refine lv_iadd hx hb dX9_savesOf_50 ?_
    have ho := Option.some.inj hf
    subst ho; subst hQ
    exact ht_iret hx hb hr hlk rfl hK hP hD hS dX9_savesOf_51
  replace hf := ht_f c_3 hf
  by_cases c_5 : o_1 = 3
  · replace hf := ht_t c_5 hf
    refine lv_tableIn (tgt := 40) hx hb dX9_savesOf_6 (by rw [c_5]; decide) (by rw [c_5]; decide) (by rw [c_5]; rfl) (by decide) ?_
    refine lv_iconst (v := 0) hx hb dX9_savesOf_40 (by decide) ?_
    have ho := Option.some.inj hf
    subst ho; subst hQ
    exact ht_iret hx hb hr hlk rfl hK hP hD hS dX9_savesOf_41
  replace hf := ht_f c_5 hf
  by_cases c_6 : o_1 = 4
  · replace hf := ht_t c_6 hf
    refine lv_tableIn (tgt := 52) hx hb dX9_savesOf_6 (by rw [c_6]; decide) (by rw [c_6]; decide) (by rw [c_6]; rfl) (by decide) ?_
    refine lv_iconst (v := 3) hx hb dX9_savesOf_52 (by decide) ?_
    refine lv_iconst (v := 1) hx hb dX9_savesOf_53 (by decide) ?_
    refine lv_aload_n hx hb dX9_savesOf_54 rfl (lv_at hl 0 rfl) ?_
    refine va_get (D := D) (ci := 9) (v := .ref (aM 0)) (C := RX9) (T := TX9) (N := 29) hx hb hts iw9 hown hK hP 0 rfl rfl 0 (by decide) kw1 (fun _ h9 => h9) rfl dX9_savesOf_55 ?_
    refine lv_bipush (v := 6) hx hb dX9_savesOf_58 (by decide) ?_
    obtain ⟨g_7, hf⟩ := ht_gd_ob hf
    refine va_iald hx hb hK hP 1 1 rfl rfl (ht_ix_in g_7) dX9_savesOf_60 ?_
    refine lv_iadd hx hb dX9_savesOf_61 ?_
    refine lv_imul hx hb dX9_savesOf_62 ?_
    have ho := Option.some.inj hf
    subst ho; subst hQ
    exact ht_iret hx hb hr hlk rfl hK hP hD hS dX9_savesOf_63
  replace hf := ht_f c_6 hf
  by_cases c_8 : o_1 = 5
  · replace hf := ht_t c_8 hf
    refine lv_tableIn (tgt := 64) hx hb dX9_savesOf_6 (by rw [c_8]; decide) (by rw [c_8]; decide) (by rw [c_8]; rfl) (by decide) ?_
    refine lv_aload_n hx hb dX9_savesOf_64 rfl (lv_at hl 0 rfl) ?_
    refine va_get (D := D) (ci := 9) (v := .ref (aM 0)) (C := RX9) (T := TX9) (N := 29) hx hb hts iw9 hown hK hP 0 rfl rfl 0 (by decide) kw1 (fun _ h9 => h9) rfl dX9_savesOf_65 ?_
    refine lv_iconst (v := 1) hx hb dX9_savesOf_68 (by decide) ?_
    obtain ⟨g_9, hf⟩ := ht_gd_ob hf
    refine va_iald hx hb hK hP 1 1 rfl rfl (ht_ix_in g_9) dX9_savesOf_69 ?_
    refine lv_bipush (v := 7) hx hb dX9_savesOf_70 (by decide) ?_
    refine lv_irem hx hb dX9_savesOf_72 (by decide) ?_
    refine lv_if_ne (tgt := 80) hx hb dX9_savesOf_73 (by decide) (fun c_10 => ?_) (fun c_10 => ?_)
    · replace hf := ht_f c_10 hf
      refine lv_iconst (v := 0) hx hb dX9_savesOf_80 (by decide) ?_
      have ho := Option.some.inj hf
      subst ho; subst hQ
      exact ht_iret hx hb hr hlk rfl hK hP hD hS dX9_savesOf_81
    · replace hf := ht_t c_10 hf
      refine lv_iconst (v := 1) hx hb dX9_savesOf_76 (by decide) ?_
      refine lv_goto (tgt := 81) hx hb dX9_savesOf_77 (by decide) ?_
      have ho := Option.some.inj hf
      subst ho; subst hQ
      exact ht_iret hx hb hr hlk rfl hK hP hD hS dX9_savesOf_81
  replace hf := ht_f c_8 hf
  refine lv_tableOut (tgt := 82) hx hb dX9_savesOf_6 (by have := lv_neT c_2 (a := 1) rfl; have := lv_neT c_3 (a := 2) rfl; have := lv_neT c_5 (a := 3) rfl; have := lv_neT c_6 (a := 4) rfl; have := lv_neT c_8 (a := 5) rfl; omega) (by decide) ?_
  refine lv_iconst (v := 1) hx hb dX9_savesOf_82 (by decide) ?_
  have ho := Option.some.inj hf
  subst ho; subst hQ
  exact ht_iret hx hb hr hlk rfl hK hP hD hS dX9_savesOf_83
abbrev rmX9_of : Room := { frames := 1, cells := 0, slots := 0, locals := 25 }
theorem hdX9_of : yX9_of.cls = RX9 ∧ yX9_of.cls ≠ "java/lang/invoke/MethodHandle" ∧ yX9_of.cls ≠ "java/lang/invoke/VarHandle" ∧ (parseMethodDescriptor yX9_of.desc).map (fun d => d.parameters.length) = some 2 := by decide +kernel
def fX9_of (RM : ModV) (p0 : Int32) (p1 : Int32) : Option Int32 := ht_bn (fX9_isOne RM p0) (fun o_1 => if o_1 = 0 then (some (-1 : Int32)) else (ht_bn (fX9_isIn p1.toInt64 (0 : Int64) (5 : Int64)) (fun o_3 => if o_3 = 0 then (some (-1 : Int32)) else (ht_bn (fX9_its RM p0 p1) (fun o_5 => some o_5)))))
set_option maxHeartbeats 1000000 in
set_option maxRecDepth 100000 in
theorem ctX9_of (l : Launch) (D : va_G) (K : Nat → ClassId) (jM : Nat) (aM : Nat → Nat) (RM : ModV) (p0 : Int32) (p1 : Int32) (o : Int32) (hf : fX9_of RM p0 p1 = some o) (sz : Nat) : Met l yX9_of wsX9_of rmX9_of (ht_Pre D K [.ref jM, .int p0, .int p1] (wMo K jM aM RM.s RM.held RM.aside RM.before RM.isHeld RM.tape RM.taped RM.token RM.frm RM.to RM.value RM.isWrong RM.unpaired RM.bestSound RM.bestWay RM.rows RM.rowN RM.sortOf RM.sizeOf RM.numbers RM.holdsWhat RM.holdsWhich RM.holdsMany RM.bodies RM.ran RM.actKind RM.actN RM.actA RM.isParted) sz) (ht_Qi D K (wMo K jM aM RM.s RM.held RM.aside RM.before RM.isHeld RM.tape RM.taped RM.token RM.frm RM.to RM.value RM.isWrong RM.unpaired RM.bestSound RM.bestWay RM.rows RM.rowN RM.sortOf RM.sizeOf RM.numbers RM.holdsWhat RM.holdsWhich RM.holdsMany RM.bodies RM.ran RM.actKind RM.actN RM.actA RM.isParted) o (va_A (wMo K jM aM RM.s RM.held RM.aside RM.before RM.isHeld RM.tape RM.taped RM.token RM.frm RM.to RM.value RM.isWrong RM.unpaired RM.bestSound RM.bestWay RM.rows RM.rowN RM.sortOf RM.sizeOf RM.numbers RM.holdsWhat RM.holdsWhich RM.holdsMany RM.bodies RM.ran RM.actKind RM.actN RM.actA RM.isParted) sz)) 0 0 (va_A (wMo K jM aM RM.s RM.held RM.aside RM.before RM.isHeld RM.tape RM.taped RM.token RM.frm RM.to RM.value RM.isWrong RM.unpaired RM.bestSound RM.bestWay RM.rows RM.rowN RM.sortOf RM.sizeOf RM.numbers RM.holdsWhat RM.holdsWhich RM.holdsMany RM.bodies RM.ran RM.actKind RM.actN RM.actA RM.isParted) sz) := by
  refine ht_enter (Qf := ht_Qi D K (wMo K jM aM RM.s RM.held RM.aside RM.before RM.isHeld RM.tape RM.taped RM.token RM.frm RM.to RM.value RM.isWrong RM.unpaired RM.bestSound RM.bestWay RM.rows RM.rowN RM.sortOf RM.sizeOf RM.numbers RM.holdsWhat RM.holdsWhich RM.holdsMany RM.bodies RM.ran RM.actKind RM.actN RM.actA RM.isParted) o) (cc := cX9_of) (maxL := 3) (rt := (some .int)) (by decide) rfl (Nat.le_of_ble_eq_true rfl) ?_ sz
  intro p e s m below meth c A Q H locs ls hQ hx hb hr hlk hmn hml hown hts hA hK hP hD hS hl
  have hown : s.vm.findClass RX9 = some m.cls := hown
  have hF : CallFix p m c cX9_of 3 s ([.ref jM, .int p0, .int p1] : List Value).toArray wsX9_of RX9 := ⟨hx, hb, hml, hown, hts⟩
  have hl : lv_has ls 3 [(0, .ref jM), (1, .int p0), (2, .int p1)] := hl
  have kw0 := hts (.constantLong RX9 170 (5)) (by decide +kernel)
  delta fX9_of at hf
  refine lv_aload_n hx hb dX9_of_0 rfl (lv_at hl 0 rfl) ?_
  refine lv_iload_n hx hb dX9_of_1 rfl (lv_at hl 1 rfl) ?_
  obtain ⟨o_1, ho_1, hf⟩ := ht_bn_ob hf
  refine ht_callVi (r := o_1) (rest := []) (As := [.int p0]) (wc := (wMo K jM aM RM.s RM.held RM.aside RM.before RM.isHeld RM.tape RM.taped RM.token RM.frm RM.to RM.value RM.isWrong RM.unpaired RM.bestSound RM.bestWay RM.rows RM.rowN RM.sortOf RM.sizeOf RM.numbers RM.holdsWhat RM.holdsWhich RM.holdsMany RM.bodies RM.ran RM.actKind RM.actN RM.actA RM.isParted)) (wr := []) (w1 := (wMo K jM aM RM.s RM.held RM.aside RM.before RM.isHeld RM.tape RM.taped RM.token RM.frm RM.to RM.value RM.isWrong RM.unpaired RM.bestSound RM.bestWay RM.rows RM.rowN RM.sortOf RM.sizeOf RM.numbers RM.holdsWhat RM.holdsWhich RM.holdsMany RM.bodies RM.ran RM.actKind RM.actN RM.actA RM.isParted)) (w2 := (wMo K jM aM RM.s RM.held RM.aside RM.before RM.isHeld RM.tape RM.taped RM.token RM.frm RM.to RM.value RM.isWrong RM.unpaired RM.bestSound RM.bestWay RM.rows RM.rowN RM.sortOf RM.sizeOf RM.numbers RM.holdsWhat RM.holdsWhich RM.holdsMany RM.bodies RM.ran RM.actKind RM.actN RM.actA RM.isParted)) hF (ctX9_isOne l D K jM aM RM p0 o_1 ho_1 H.size) (cwV 1 hts gX9_of_X9_isOne rfl rfl rfl hdX9_isOne ⟨Nat.le_of_ble_eq_true rfl, Nat.le_of_ble_eq_true rfl⟩) hK hP hD hS hA [0, 1, 2, 3, 4, 5, 6, 7, 8, 9, 10, 11, 12, 13, 14, 15] [] rfl rfl (by decide) (by decide) (by decide) [0, 1, 2, 3, 4, 5, 6, 7, 8, 9, 10, 11, 12, 13, 14, 15] rfl (by decide) (va_recv hK hP (ci := 9) (q0 := 0) rfl rfl) rfl hl.1 rfl (Nat.le_of_ble_eq_true rfl) dX9_of_2 ⟨Nat.zero_le _, Nat.zero_le _⟩ (fun H locs hP hD hS => ?_)
  refine lv_if_eq (tgt := 29) hx hb dX9_of_5 (by decide) (fun c_2 => ?_) (fun c_2 => ?_)
  · replace hf := ht_t c_2 hf
    refine lv_iconst (v := -1) hx hb dX9_of_29 (by decide) ?_
    have ho := Option.some.inj hf
    subst ho; subst hQ
    exact ht_iret hx hb hr hlk rfl hK hP hD hS dX9_of_30
  · replace hf := ht_f c_2 hf
    refine lv_iload_n hx hb dX9_of_8 rfl (lv_at hl 2 rfl) ?_
    refine lv_i2l hx hb dX9_of_9 rfl ?_
    refine lv_lconst (v := 0) hx hb dX9_of_10 (by decide) ?_
    refine lv_ldc2 hx hb hown kw0 dX9_of_11 ?_
    obtain ⟨o_3, ho_3, hf⟩ := ht_bn_ob hf
    refine ht_callSi (r := o_3) (rest := []) (As := [.long p1.toInt64, .long (0 : Int64), .long (5 : Int64)]) (wc := []) (wr := (wMo K jM aM RM.s RM.held RM.aside RM.before RM.isHeld RM.tape RM.taped RM.token RM.frm RM.to RM.value RM.isWrong RM.unpaired RM.bestSound RM.bestWay RM.rows RM.rowN RM.sortOf RM.sizeOf RM.numbers RM.holdsWhat RM.holdsWhich RM.holdsMany RM.bodies RM.ran RM.actKind RM.actN RM.actA RM.isParted)) (w1 := []) (w2 := (wMo K jM aM RM.s RM.held RM.aside RM.before RM.isHeld RM.tape RM.taped RM.token RM.frm RM.to RM.value RM.isWrong RM.unpaired RM.bestSound RM.bestWay RM.rows RM.rowN RM.sortOf RM.sizeOf RM.numbers RM.holdsWhat RM.holdsWhich RM.holdsMany RM.bodies RM.ran RM.actKind RM.actN RM.actA RM.isParted)) hF (ctX9_isIn l D K p1.toInt64 (0 : Int64) (5 : Int64) o_3 ho_3 H.size) (va_cwS 3 hts gX9_of_X9_isIn rfl rfl rfl hdX9_isIn ⟨Nat.le_of_ble_eq_true rfl, Nat.le_of_ble_eq_true rfl⟩) hK hP hD hS hA [] [0, 1, 2, 3, 4, 5, 6, 7, 8, 9, 10, 11, 12, 13, 14, 15] rfl rfl (by decide) (by decide) (by decide) [0, 1, 2, 3, 4, 5, 6, 7, 8, 9, 10, 11, 12, 13, 14, 15] rfl (by decide) rfl hl.1 rfl (Nat.le_of_ble_eq_true rfl) dX9_of_14 ⟨Nat.zero_le _, Nat.zero_le _⟩ (fun H locs hP hD hS => ?_)
    refine lv_if_eq (tgt := 29) hx hb dX9_of_17 (by decide) (fun c_4 => ?_) (fun c_4 => ?_)
    · replace hf := ht_t c_4 hf
      refine lv_iconst (v := -1) hx hb dX9_of_29 (by decide) ?_
      have ho := Option.some.inj hf
      subst ho; subst hQ
      exact ht_iret hx hb hr hlk rfl hK hP hD hS dX9_of_30
    · replace hf := ht_f c_4 hf
      refine lv_aload_n hx hb dX9_of_20 rfl (lv_at hl 0 rfl) ?_
      refine lv_iload_n hx hb dX9_of_21 rfl (lv_at hl 1 rfl) ?_
      refine lv_iload_n hx hb dX9_of_22 rfl (lv_at hl 2 rfl) ?_
      obtain ⟨o_5, ho_5, hf⟩ := ht_bn_ob hf
      refine ht_callVi (r := o_5) (rest := []) (As := [.int p0, .int p1]) (wc := (wMo K jM aM RM.s RM.held RM.aside RM.before RM.isHeld RM.tape RM.taped RM.token RM.frm RM.to RM.value RM.isWrong RM.unpaired RM.bestSound RM.bestWay RM.rows RM.rowN RM.sortOf RM.sizeOf RM.numbers RM.holdsWhat RM.holdsWhich RM.holdsMany RM.bodies RM.ran RM.actKind RM.actN RM.actA RM.isParted)) (wr := []) (w1 := (wMo K jM aM RM.s RM.held RM.aside RM.before RM.isHeld RM.tape RM.taped RM.token RM.frm RM.to RM.value RM.isWrong RM.unpaired RM.bestSound RM.bestWay RM.rows RM.rowN RM.sortOf RM.sizeOf RM.numbers RM.holdsWhat RM.holdsWhich RM.holdsMany RM.bodies RM.ran RM.actKind RM.actN RM.actA RM.isParted)) (w2 := (wMo K jM aM RM.s RM.held RM.aside RM.before RM.isHeld RM.tape RM.taped RM.token RM.frm RM.to RM.value RM.isWrong RM.unpaired RM.bestSound RM.bestWay RM.rows RM.rowN RM.sortOf RM.sizeOf RM.numbers RM.holdsWhat RM.holdsWhich RM.holdsMany RM.bodies RM.ran RM.actKind RM.actN RM.actA RM.isParted)) hF (ctX9_its l D K jM aM RM p0 p1 o_5 ho_5 H.size) (cwV 2 hts gX9_of_X9_its rfl rfl rfl hdX9_its ⟨Nat.le_of_ble_eq_true rfl, Nat.le_of_ble_eq_true rfl⟩) hK hP hD hS hA [0, 1, 2, 3, 4, 5, 6, 7, 8, 9, 10, 11, 12, 13, 14, 15] [] rfl rfl (by decide) (by decide) (by decide) [0, 1, 2, 3, 4, 5, 6, 7, 8, 9, 10, 11, 12, 13, 14, 15] rfl (by decide) (va_recv hK hP (ci := 9) (q0 := 0) rfl rfl) rfl hl.1 rfl (Nat.le_of_ble_eq_true rfl) dX9_of_23 ⟨Nat.zero_le _, Nat.zero_le _⟩ (fun H locs hP hD hS => ?_)
      refine lv_goto (tgt := 30) hx hb dX9_of_26 (by decide) ?_
      have ho := Option.some.inj hf
      subst ho; subst hQ
      exact ht_iret hx hb hr hlk rfl hK hP hD hS dX9_of_30
abbrev rmX9_does : Room := { frames := 2, cells := 0, slots := 0, locals := 45 }
theorem hdX9_does : yX9_does.cls = RX9 ∧ yX9_does.cls ≠ "java/lang/invoke/MethodHandle" ∧ yX9_does.cls ≠ "java/lang/invoke/VarHandle" ∧ (parseMethodDescriptor yX9_does.desc).map (fun d => d.parameters.length) = some 2 := by decide +kernel
def fX9_does_b55 (RM : ModV) (t0 : Int32) (t1 : Int32) : Option Int32 := some (t0 + t1)
def fX9_does (RM : ModV) (p0 : Int32) (p1 : Int32) : Option Int32 := ht_bn (fX9_isOne RM p0) (fun o_1 => if o_1 = 0 then (some (-1 : Int32)) else (ht_bn (fX9_isIn p1.toInt64 (0 : Int64) (2 : Int64)) (fun o_3 => if o_3 = 0 then (some (-1 : Int32)) else (if p1 = 0 then (ht_bn (fX9_saysOf RM p0) (fun o_9 => fX9_does_b55 RM (1000 : Int32) o_9)) else (if p1 = (1 : Int32) then (ht_bn (fX9_growsOf RM p0) (fun o_8 => fX9_does_b55 RM (1000 : Int32) o_8)) else (ht_bn (fX9_savesOf RM p0) (fun o_7 => fX9_does_b55 RM (1000 : Int32) o_7)))))))
set_option maxHeartbeats 1000000 in
set_option maxRecDepth 100000 in
theorem ctX9_does (l : Launch) (D : va_G) (K : Nat → ClassId) (jM : Nat) (aM : Nat → Nat) (RM : ModV) (p0 : Int32) (p1 : Int32) (o : Int32) (hf : fX9_does RM p0 p1 = some o) (sz : Nat) : Met l yX9_does wsX9_does rmX9_does (ht_Pre D K [.ref jM, .int p0, .int p1] (wMo K jM aM RM.s RM.held RM.aside RM.before RM.isHeld RM.tape RM.taped RM.token RM.frm RM.to RM.value RM.isWrong RM.unpaired RM.bestSound RM.bestWay RM.rows RM.rowN RM.sortOf RM.sizeOf RM.numbers RM.holdsWhat RM.holdsWhich RM.holdsMany RM.bodies RM.ran RM.actKind RM.actN RM.actA RM.isParted) sz) (ht_Qi D K (wMo K jM aM RM.s RM.held RM.aside RM.before RM.isHeld RM.tape RM.taped RM.token RM.frm RM.to RM.value RM.isWrong RM.unpaired RM.bestSound RM.bestWay RM.rows RM.rowN RM.sortOf RM.sizeOf RM.numbers RM.holdsWhat RM.holdsWhich RM.holdsMany RM.bodies RM.ran RM.actKind RM.actN RM.actA RM.isParted) o (va_A (wMo K jM aM RM.s RM.held RM.aside RM.before RM.isHeld RM.tape RM.taped RM.token RM.frm RM.to RM.value RM.isWrong RM.unpaired RM.bestSound RM.bestWay RM.rows RM.rowN RM.sortOf RM.sizeOf RM.numbers RM.holdsWhat RM.holdsWhich RM.holdsMany RM.bodies RM.ran RM.actKind RM.actN RM.actA RM.isParted) sz)) 0 0 (va_A (wMo K jM aM RM.s RM.held RM.aside RM.before RM.isHeld RM.tape RM.taped RM.token RM.frm RM.to RM.value RM.isWrong RM.unpaired RM.bestSound RM.bestWay RM.rows RM.rowN RM.sortOf RM.sizeOf RM.numbers RM.holdsWhat RM.holdsWhich RM.holdsMany RM.bodies RM.ran RM.actKind RM.actN RM.actA RM.isParted) sz) := by
  refine ht_enter (Qf := ht_Qi D K (wMo K jM aM RM.s RM.held RM.aside RM.before RM.isHeld RM.tape RM.taped RM.token RM.frm RM.to RM.value RM.isWrong RM.unpaired RM.bestSound RM.bestWay RM.rows RM.rowN RM.sortOf RM.sizeOf RM.numbers RM.holdsWhat RM.holdsWhich RM.holdsMany RM.bodies RM.ran RM.actKind RM.actN RM.actA RM.isParted) o) (cc := cX9_does) (maxL := 3) (rt := (some .int)) (by decide) rfl (Nat.le_of_ble_eq_true rfl) ?_ sz
  intro p e s m below meth c A Q H locs ls hQ hx hb hr hlk hmn hml hown hts hA hK hP hD hS hl
  have hown : s.vm.findClass RX9 = some m.cls := hown
  have hF : CallFix p m c cX9_does 3 s ([.ref jM, .int p0, .int p1] : List Value).toArray wsX9_does RX9 := ⟨hx, hb, hml, hown, hts⟩
  have hl : lv_has ls 3 [(0, .ref jM), (1, .int p0), (2, .int p1)] := hl
  have kw0 := hts (.constantLong RX9 178 (2)) (by decide +kernel)
  have b55 : ∀ (t0 : Int32) (t1 : Int32) (H : Heap) (locs : List Loc) (ls : Array Slot), fX9_does_b55 RM t0 t1 = some o → va_P D vwCl (wMo K jM aM RM.s RM.held RM.aside RM.before RM.isHeld RM.tape RM.taped RM.token RM.frm RM.to RM.value RM.isWrong RM.unpaired RM.bestSound RM.bestWay RM.rows RM.rowN RM.sortOf RM.sizeOf RM.numbers RM.holdsWhat RM.holdsWhich RM.holdsMany RM.bodies RM.ran RM.actKind RM.actN RM.actA RM.isParted) H → va_D A (wMo K jM aM RM.s RM.held RM.aside RM.before RM.isHeld RM.tape RM.taped RM.token RM.frm RM.to RM.value RM.isWrong RM.unpaired RM.bestSound RM.bestWay RM.rows RM.rowN RM.sortOf RM.sizeOf RM.numbers RM.holdsWhat RM.holdsWhich RM.holdsMany RM.bodies RM.ran RM.actKind RM.actN RM.actA RM.isParted) → va_S A s.heap H locs → lv_has ls 3 [] → W p l e (headSpec wsX9_does rmX9_does).room s m ([.ref jM, .int p0, .int p1] : List Value).toArray below meth c H locs 0 0 Q (F0 m 55 ls [.int t1, .int t0]) := by
    intro t0 t1 H locs ls hf hP hD hS hl
    delta fX9_does_b55 at hf
    refine lv_iadd hx hb dX9_does_55 ?_
    have ho := Option.some.inj hf
    subst ho; subst hQ
    exact ht_iret hx hb hr hlk rfl hK hP hD hS dX9_does_56
  delta fX9_does at hf
  refine lv_aload_n hx hb dX9_does_0 rfl (lv_at hl 0 rfl) ?_
  refine lv_iload_n hx hb dX9_does_1 rfl (lv_at hl 1 rfl) ?_
  obtain ⟨o_1, ho_1, hf⟩ := ht_bn_ob hf
  refine ht_callVi (r := o_1) (rest := []) (As := [.int p0]) (wc := (wMo K jM aM RM.s RM.held RM.aside RM.before RM.isHeld RM.tape RM.taped RM.token RM.frm RM.to RM.value RM.isWrong RM.unpaired RM.bestSound RM.bestWay RM.rows RM.rowN RM.sortOf RM.sizeOf RM.numbers RM.holdsWhat RM.holdsWhich RM.holdsMany RM.bodies RM.ran RM.actKind RM.actN RM.actA RM.isParted)) (wr := []) (w1 := (wMo K jM aM RM.s RM.held RM.aside RM.before RM.isHeld RM.tape RM.taped RM.token RM.frm RM.to RM.value RM.isWrong RM.unpaired RM.bestSound RM.bestWay RM.rows RM.rowN RM.sortOf RM.sizeOf RM.numbers RM.holdsWhat RM.holdsWhich RM.holdsMany RM.bodies RM.ran RM.actKind RM.actN RM.actA RM.isParted)) (w2 := (wMo K jM aM RM.s RM.held RM.aside RM.before RM.isHeld RM.tape RM.taped RM.token RM.frm RM.to RM.value RM.isWrong RM.unpaired RM.bestSound RM.bestWay RM.rows RM.rowN RM.sortOf RM.sizeOf RM.numbers RM.holdsWhat RM.holdsWhich RM.holdsMany RM.bodies RM.ran RM.actKind RM.actN RM.actA RM.isParted)) hF (ctX9_isOne l D K jM aM RM p0 o_1 ho_1 H.size) (cwV 1 hts gX9_does_X9_isOne rfl rfl rfl hdX9_isOne ⟨Nat.le_of_ble_eq_true rfl, Nat.le_of_ble_eq_true rfl⟩) hK hP hD hS hA [0, 1, 2, 3, 4, 5, 6, 7, 8, 9, 10, 11, 12, 13, 14, 15] [] rfl rfl (by decide) (by decide) (by decide) [0, 1, 2, 3, 4, 5, 6, 7, 8, 9, 10, 11, 12, 13, 14, 15] rfl (by decide) (va_recv hK hP (ci := 9) (q0 := 0) rfl rfl) rfl hl.1 rfl (Nat.le_of_ble_eq_true rfl) dX9_does_2 ⟨Nat.zero_le _, Nat.zero_le _⟩ (fun H locs hP hD hS => ?_)
  refine lv_if_eq (tgt := 20) hx hb dX9_does_5 (by decide) (fun c_2 => ?_) (fun c_2 => ?_)
  · replace hf := ht_t c_2 hf
    refine lv_iconst (v := -1) hx hb dX9_does_20 (by decide) ?_
    have ho := Option.some.inj hf
    subst ho; subst hQ
    exact ht_iret hx hb hr hlk rfl hK hP hD hS dX9_does_21
  · replace hf := ht_f c_2 hf
    refine lv_iload_n hx hb dX9_does_8 rfl (lv_at hl 2 rfl) ?_
    refine lv_i2l hx hb dX9_does_9 rfl ?_
    refine lv_lconst (v := 0) hx hb dX9_does_10 (by decide) ?_
    refine lv_ldc2 hx hb hown kw0 dX9_does_11 ?_
    obtain ⟨o_3, ho_3, hf⟩ := ht_bn_ob hf
    refine ht_callSi (r := o_3) (rest := []) (As := [.long p1.toInt64, .long (0 : Int64), .long (2 : Int64)]) (wc := []) (wr := (wMo K jM aM RM.s RM.held RM.aside RM.before RM.isHeld RM.tape RM.taped RM.token RM.frm RM.to RM.value RM.isWrong RM.unpaired RM.bestSound RM.bestWay RM.rows RM.rowN RM.sortOf RM.sizeOf RM.numbers RM.holdsWhat RM.holdsWhich RM.holdsMany RM.bodies RM.ran RM.actKind RM.actN RM.actA RM.isParted)) (w1 := []) (w2 := (wMo K jM aM RM.s RM.held RM.aside RM.before RM.isHeld RM.tape RM.taped RM.token RM.frm RM.to RM.value RM.isWrong RM.unpaired RM.bestSound RM.bestWay RM.rows RM.rowN RM.sortOf RM.sizeOf RM.numbers RM.holdsWhat RM.holdsWhich RM.holdsMany RM.bodies RM.ran RM.actKind RM.actN RM.actA RM.isParted)) hF (ctX9_isIn l D K p1.toInt64 (0 : Int64) (2 : Int64) o_3 ho_3 H.size) (va_cwS 3 hts gX9_does_X9_isIn rfl rfl rfl hdX9_isIn ⟨Nat.le_of_ble_eq_true rfl, Nat.le_of_ble_eq_true rfl⟩) hK hP hD hS hA [] [0, 1, 2, 3, 4, 5, 6, 7, 8, 9, 10, 11, 12, 13, 14, 15] rfl rfl (by decide) (by decide) (by decide) [0, 1, 2, 3, 4, 5, 6, 7, 8, 9, 10, 11, 12, 13, 14, 15] rfl (by decide) rfl hl.1 rfl (Nat.le_of_ble_eq_true rfl) dX9_does_14 ⟨Nat.zero_le _, Nat.zero_le _⟩ (fun H locs hP hD hS => ?_)
    refine lv_if_ne (tgt := 22) hx hb dX9_does_17 (by decide) (fun c_4 => ?_) (fun c_4 => ?_)
    · replace hf := ht_f c_4 hf
      refine lv_sipush (v := 1000) hx hb dX9_does_22 (by decide) ?_
      refine lv_iload_n hx hb dX9_does_25 rfl (lv_at hl 2 rfl) ?_
      refine lv_if_ne (tgt := 37) hx hb dX9_does_26 (by decide) (fun c_5 => ?_) (fun c_5 => ?_)
      · replace hf := ht_f c_5 hf
        refine lv_iload_n hx hb dX9_does_37 rfl (lv_at hl 2 rfl) ?_
        refine lv_iconst (v := 1) hx hb dX9_does_38 (by decide) ?_
        refine lv_icmp_ne (tgt := 50) hx hb dX9_does_39 (by decide) (fun c_6 => ?_) (fun c_6 => ?_)
        · replace hf := ht_f c_6 hf
          refine lv_aload_n hx hb dX9_does_50 rfl (lv_at hl 0 rfl) ?_
          refine lv_iload_n hx hb dX9_does_51 rfl (lv_at hl 1 rfl) ?_
          obtain ⟨o_7, ho_7, hf⟩ := ht_bn_ob hf
          refine ht_callVi (r := o_7) (rest := [.int (1000 : Int32)]) (As := [.int p0]) (wc := (wMo K jM aM RM.s RM.held RM.aside RM.before RM.isHeld RM.tape RM.taped RM.token RM.frm RM.to RM.value RM.isWrong RM.unpaired RM.bestSound RM.bestWay RM.rows RM.rowN RM.sortOf RM.sizeOf RM.numbers RM.holdsWhat RM.holdsWhich RM.holdsMany RM.bodies RM.ran RM.actKind RM.actN RM.actA RM.isParted)) (wr := []) (w1 := (wMo K jM aM RM.s RM.held RM.aside RM.before RM.isHeld RM.tape RM.taped RM.token RM.frm RM.to RM.value RM.isWrong RM.unpaired RM.bestSound RM.bestWay RM.rows RM.rowN RM.sortOf RM.sizeOf RM.numbers RM.holdsWhat RM.holdsWhich RM.holdsMany RM.bodies RM.ran RM.actKind RM.actN RM.actA RM.isParted)) (w2 := (wMo K jM aM RM.s RM.held RM.aside RM.before RM.isHeld RM.tape RM.taped RM.token RM.frm RM.to RM.value RM.isWrong RM.unpaired RM.bestSound RM.bestWay RM.rows RM.rowN RM.sortOf RM.sizeOf RM.numbers RM.holdsWhat RM.holdsWhich RM.holdsMany RM.bodies RM.ran RM.actKind RM.actN RM.actA RM.isParted)) hF (ctX9_savesOf l D K jM aM RM p0 o_7 ho_7 H.size) (cwV 1 hts gX9_does_X9_savesOf rfl rfl rfl hdX9_savesOf ⟨Nat.le_of_ble_eq_true rfl, Nat.le_of_ble_eq_true rfl⟩) hK hP hD hS hA [0, 1, 2, 3, 4, 5, 6, 7, 8, 9, 10, 11, 12, 13, 14, 15] [] rfl rfl (by decide) (by decide) (by decide) [0, 1, 2, 3, 4, 5, 6, 7, 8, 9, 10, 11, 12, 13, 14, 15] rfl (by decide) (va_recv hK hP (ci := 9) (q0 := 0) rfl rfl) rfl hl.1 rfl (Nat.le_of_ble_eq_true rfl) dX9_does_52 ⟨Nat.zero_le _, Nat.zero_le _⟩ (fun H locs hP hD hS => ?_)
          exact b55  (1000 : Int32) o_7 _ _ _ hf hP hD hS (lv_sub hl [] rfl)
        · replace hf := ht_t c_6 hf
          refine lv_aload_n hx hb dX9_does_42 rfl (lv_at hl 0 rfl) ?_
          refine lv_iload_n hx hb dX9_does_43 rfl (lv_at hl 1 rfl) ?_
          obtain ⟨o_8, ho_8, hf⟩ := ht_bn_ob hf
          refine ht_callVi (r := o_8) (rest := [.int (1000 : Int32)]) (As := [.int p0]) (wc := (wMo K jM aM RM.s RM.held RM.aside RM.before RM.isHeld RM.tape RM.taped RM.token RM.frm RM.to RM.value RM.isWrong RM.unpaired RM.bestSound RM.bestWay RM.rows RM.rowN RM.sortOf RM.sizeOf RM.numbers RM.holdsWhat RM.holdsWhich RM.holdsMany RM.bodies RM.ran RM.actKind RM.actN RM.actA RM.isParted)) (wr := []) (w1 := (wMo K jM aM RM.s RM.held RM.aside RM.before RM.isHeld RM.tape RM.taped RM.token RM.frm RM.to RM.value RM.isWrong RM.unpaired RM.bestSound RM.bestWay RM.rows RM.rowN RM.sortOf RM.sizeOf RM.numbers RM.holdsWhat RM.holdsWhich RM.holdsMany RM.bodies RM.ran RM.actKind RM.actN RM.actA RM.isParted)) (w2 := (wMo K jM aM RM.s RM.held RM.aside RM.before RM.isHeld RM.tape RM.taped RM.token RM.frm RM.to RM.value RM.isWrong RM.unpaired RM.bestSound RM.bestWay RM.rows RM.rowN RM.sortOf RM.sizeOf RM.numbers RM.holdsWhat RM.holdsWhich RM.holdsMany RM.bodies RM.ran RM.actKind RM.actN RM.actA RM.isParted)) hF (ctX9_growsOf l D K jM aM RM p0 o_8 ho_8 H.size) (cwV 1 hts gX9_does_X9_growsOf rfl rfl rfl hdX9_growsOf ⟨Nat.le_of_ble_eq_true rfl, Nat.le_of_ble_eq_true rfl⟩) hK hP hD hS hA [0, 1, 2, 3, 4, 5, 6, 7, 8, 9, 10, 11, 12, 13, 14, 15] [] rfl rfl (by decide) (by decide) (by decide) [0, 1, 2, 3, 4, 5, 6, 7, 8, 9, 10, 11, 12, 13, 14, 15] rfl (by decide) (va_recv hK hP (ci := 9) (q0 := 0) rfl rfl) rfl hl.1 rfl (Nat.le_of_ble_eq_true rfl) dX9_does_44 ⟨Nat.zero_le _, Nat.zero_le _⟩ (fun H locs hP hD hS => ?_)
          refine lv_goto (tgt := 55) hx hb dX9_does_47 (by decide) ?_
          exact b55  (1000 : Int32) o_8 _ _ _ hf hP hD hS (lv_sub hl [] rfl)
      · replace hf := ht_t c_5 hf
        refine lv_aload_n hx hb dX9_does_29 rfl (lv_at hl 0 rfl) ?_
        refine lv_iload_n hx hb dX9_does_30 rfl (lv_at hl 1 rfl) ?_
        obtain ⟨o_9, ho_9, hf⟩ := ht_bn_ob hf
        refine ht_callVi (r := o_9) (rest := [.int (1000 : Int32)]) (As := [.int p0]) (wc := (wMo K jM aM RM.s RM.held RM.aside RM.before RM.isHeld RM.tape RM.taped RM.token RM.frm RM.to RM.value RM.isWrong RM.unpaired RM.bestSound RM.bestWay RM.rows RM.rowN RM.sortOf RM.sizeOf RM.numbers RM.holdsWhat RM.holdsWhich RM.holdsMany RM.bodies RM.ran RM.actKind RM.actN RM.actA RM.isParted)) (wr := []) (w1 := (wMo K jM aM RM.s RM.held RM.aside RM.before RM.isHeld RM.tape RM.taped RM.token RM.frm RM.to RM.value RM.isWrong RM.unpaired RM.bestSound RM.bestWay RM.rows RM.rowN RM.sortOf RM.sizeOf RM.numbers RM.holdsWhat RM.holdsWhich RM.holdsMany RM.bodies RM.ran RM.actKind RM.actN RM.actA RM.isParted)) (w2 := (wMo K jM aM RM.s RM.held RM.aside RM.before RM.isHeld RM.tape RM.taped RM.token RM.frm RM.to RM.value RM.isWrong RM.unpaired RM.bestSound RM.bestWay RM.rows RM.rowN RM.sortOf RM.sizeOf RM.numbers RM.holdsWhat RM.holdsWhich RM.holdsMany RM.bodies RM.ran RM.actKind RM.actN RM.actA RM.isParted)) hF (ctX9_saysOf l D K jM aM RM p0 o_9 ho_9 H.size) (cwV 1 hts gX9_does_X9_saysOf rfl rfl rfl hdX9_saysOf ⟨Nat.le_of_ble_eq_true rfl, Nat.le_of_ble_eq_true rfl⟩) hK hP hD hS hA [0, 1, 2, 3, 4, 5, 6, 7, 8, 9, 10, 11, 12, 13, 14, 15] [] rfl rfl (by decide) (by decide) (by decide) [0, 1, 2, 3, 4, 5, 6, 7, 8, 9, 10, 11, 12, 13, 14, 15] rfl (by decide) (va_recv hK hP (ci := 9) (q0 := 0) rfl rfl) rfl hl.1 rfl (Nat.le_of_ble_eq_true rfl) dX9_does_31 ⟨Nat.zero_le _, Nat.zero_le _⟩ (fun H locs hP hD hS => ?_)
        refine lv_goto (tgt := 55) hx hb dX9_does_34 (by decide) ?_
        exact b55  (1000 : Int32) o_9 _ _ _ hf hP hD hS (lv_sub hl [] rfl)
    · replace hf := ht_t c_4 hf
      refine lv_iconst (v := -1) hx hb dX9_does_20 (by decide) ?_
      have ho := Option.some.inj hf
      subst ho; subst hQ
      exact ht_iret hx hb hr hlk rfl hK hP hD hS dX9_does_21
abbrev rmX9_mind : Room := { frames := 1, cells := 0, slots := 0, locals := 25 }
theorem hdX9_mind : yX9_mind.cls = RX9 ∧ yX9_mind.cls ≠ "java/lang/invoke/MethodHandle" ∧ yX9_mind.cls ≠ "java/lang/invoke/VarHandle" ∧ (parseMethodDescriptor yX9_mind.desc).map (fun d => d.parameters.length) = some 3 := by decide +kernel
def fX9_mind (RM : ModV) (p0 : Int32) (p1 : Int32) (p2 : Int32) : Option (Int32 × AI) := ht_bn (fX9_isOne RM p0) (fun o_1 => if o_1 = 0 then (some ((-1 : Int32), RM.s)) else (ht_bn (fX9_isIn p1.toInt64 (0 : Int64) (5 : Int64)) (fun o_3 => if o_3 = 0 then (some ((-1 : Int32), RM.s)) else (ht_bn (fX9_isIn p2.toInt64 (0 : Int64) (9 : Int64)) (fun o_5 => if o_5 = 0 then (some ((-1 : Int32), RM.s)) else (ht_gd (ht_ix (((9 : Int32) + ((6 : Int32) * p0)) + (3 : Int32)) 57) (ht_nm (upd RM.s (((9 : Int32) + ((6 : Int32) * p0)) + (3 : Int32)).toNatClampNeg p2) (fun vM_s_8 => ht_bn (fX9_becomes (vM_s_8, RM.held, RM.aside, RM.before, RM.isHeld, RM.tape, RM.taped, RM.token, RM.frm, RM.to, RM.value, RM.isWrong, RM.unpaired, RM.bestSound, RM.bestWay, RM.rows, RM.rowN, RM.sortOf, RM.sizeOf, RM.numbers, RM.holdsWhat, RM.holdsWhich, RM.holdsMany, RM.bodies, RM.ran, RM.actKind, RM.actN, RM.actA, RM.isParted) ((9 : Int32) + ((6 : Int32) * p0)) p1) (fun o_9 => some (o_9.1, o_9.2))))))))))
set_option maxHeartbeats 1000000 in
set_option maxRecDepth 100000 in
theorem ctX9_mind (l : Launch) (D : va_G) (K : Nat → ClassId) (jM : Nat) (aM : Nat → Nat) (RM : ModV) (p0 : Int32) (p1 : Int32) (p2 : Int32) (o : (Int32 × AI)) (hf : fX9_mind RM p0 p1 p2 = some o) (sz : Nat) : Met l yX9_mind wsX9_mind rmX9_mind (ht_Pre D K [.ref jM, .int p0, .int p1, .int p2] (wMo K jM aM RM.s RM.held RM.aside RM.before RM.isHeld RM.tape RM.taped RM.token RM.frm RM.to RM.value RM.isWrong RM.unpaired RM.bestSound RM.bestWay RM.rows RM.rowN RM.sortOf RM.sizeOf RM.numbers RM.holdsWhat RM.holdsWhich RM.holdsMany RM.bodies RM.ran RM.actKind RM.actN RM.actA RM.isParted) sz) (ht_Qi D K (wMo K jM aM o.2 RM.held RM.aside RM.before RM.isHeld RM.tape RM.taped RM.token RM.frm RM.to RM.value RM.isWrong RM.unpaired RM.bestSound RM.bestWay RM.rows RM.rowN RM.sortOf RM.sizeOf RM.numbers RM.holdsWhat RM.holdsWhich RM.holdsMany RM.bodies RM.ran RM.actKind RM.actN RM.actA RM.isParted) o.1 (va_A (wMo K jM aM RM.s RM.held RM.aside RM.before RM.isHeld RM.tape RM.taped RM.token RM.frm RM.to RM.value RM.isWrong RM.unpaired RM.bestSound RM.bestWay RM.rows RM.rowN RM.sortOf RM.sizeOf RM.numbers RM.holdsWhat RM.holdsWhich RM.holdsMany RM.bodies RM.ran RM.actKind RM.actN RM.actA RM.isParted) sz)) 0 0 (va_A (wMo K jM aM RM.s RM.held RM.aside RM.before RM.isHeld RM.tape RM.taped RM.token RM.frm RM.to RM.value RM.isWrong RM.unpaired RM.bestSound RM.bestWay RM.rows RM.rowN RM.sortOf RM.sizeOf RM.numbers RM.holdsWhat RM.holdsWhich RM.holdsMany RM.bodies RM.ran RM.actKind RM.actN RM.actA RM.isParted) sz) := by
  refine ht_enter (Qf := ht_Qi D K (wMo K jM aM o.2 RM.held RM.aside RM.before RM.isHeld RM.tape RM.taped RM.token RM.frm RM.to RM.value RM.isWrong RM.unpaired RM.bestSound RM.bestWay RM.rows RM.rowN RM.sortOf RM.sizeOf RM.numbers RM.holdsWhat RM.holdsWhich RM.holdsMany RM.bodies RM.ran RM.actKind RM.actN RM.actA RM.isParted) o.1) (cc := cX9_mind) (maxL := 4) (rt := (some .int)) (by decide) rfl (Nat.le_of_ble_eq_true rfl) ?_ sz
  intro p e s m below meth c A Q H locs ls hQ hx hb hr hlk hmn hml hown hts hA hK hP hD hS hl
  have hown : s.vm.findClass RX9 = some m.cls := hown
  have hF : CallFix p m c cX9_mind 4 s ([.ref jM, .int p0, .int p1, .int p2] : List Value).toArray wsX9_mind RX9 := ⟨hx, hb, hml, hown, hts⟩
  have hl : lv_has ls 4 [(0, .ref jM), (1, .int p0), (2, .int p1), (3, .int p2)] := hl
  have kw0 := hts (.constantLong RX9 170 (5)) (by decide +kernel)
  have kw1 := hts (.constantLong RX9 164 (9)) (by decide +kernel)
  have iw9 : ∀ w ∈ u_ws RX9 TX9 29, w ∈ wsX9_mind := by decide +kernel
  have kw3 := hts (.fieldLink RX9 7 "HeldTonguesModel" "s" "[I") (by decide +kernel)
  delta fX9_mind at hf
  refine lv_aload_n hx hb dX9_mind_0 rfl (lv_at hl 0 rfl) ?_
  refine lv_iload_n hx hb dX9_mind_1 rfl (lv_at hl 1 rfl) ?_
  obtain ⟨o_1, ho_1, hf⟩ := ht_bn_ob hf
  refine ht_callVi (r := o_1) (rest := []) (As := [.int p0]) (wc := (wMo K jM aM RM.s RM.held RM.aside RM.before RM.isHeld RM.tape RM.taped RM.token RM.frm RM.to RM.value RM.isWrong RM.unpaired RM.bestSound RM.bestWay RM.rows RM.rowN RM.sortOf RM.sizeOf RM.numbers RM.holdsWhat RM.holdsWhich RM.holdsMany RM.bodies RM.ran RM.actKind RM.actN RM.actA RM.isParted)) (wr := []) (w1 := (wMo K jM aM RM.s RM.held RM.aside RM.before RM.isHeld RM.tape RM.taped RM.token RM.frm RM.to RM.value RM.isWrong RM.unpaired RM.bestSound RM.bestWay RM.rows RM.rowN RM.sortOf RM.sizeOf RM.numbers RM.holdsWhat RM.holdsWhich RM.holdsMany RM.bodies RM.ran RM.actKind RM.actN RM.actA RM.isParted)) (w2 := (wMo K jM aM RM.s RM.held RM.aside RM.before RM.isHeld RM.tape RM.taped RM.token RM.frm RM.to RM.value RM.isWrong RM.unpaired RM.bestSound RM.bestWay RM.rows RM.rowN RM.sortOf RM.sizeOf RM.numbers RM.holdsWhat RM.holdsWhich RM.holdsMany RM.bodies RM.ran RM.actKind RM.actN RM.actA RM.isParted)) hF (ctX9_isOne l D K jM aM RM p0 o_1 ho_1 H.size) (cwV 1 hts gX9_mind_X9_isOne rfl rfl rfl hdX9_isOne ⟨Nat.le_of_ble_eq_true rfl, Nat.le_of_ble_eq_true rfl⟩) hK hP hD hS hA [0, 1, 2, 3, 4, 5, 6, 7, 8, 9, 10, 11, 12, 13, 14, 15] [] rfl rfl (by decide) (by decide) (by decide) [0, 1, 2, 3, 4, 5, 6, 7, 8, 9, 10, 11, 12, 13, 14, 15] rfl (by decide) (va_recv hK hP (ci := 9) (q0 := 0) rfl rfl) rfl hl.1 rfl (Nat.le_of_ble_eq_true rfl) dX9_mind_2 ⟨Nat.zero_le _, Nat.zero_le _⟩ (fun H locs hP hD hS => ?_)
  refine lv_if_eq (tgt := 32) hx hb dX9_mind_5 (by decide) (fun c_2 => ?_) (fun c_2 => ?_)
  · replace hf := ht_t c_2 hf
    refine lv_iconst (v := -1) hx hb dX9_mind_32 (by decide) ?_
    have ho := Option.some.inj hf
    subst ho; subst hQ
    exact ht_iret hx hb hr hlk rfl hK hP hD hS dX9_mind_33
  · replace hf := ht_f c_2 hf
    refine lv_iload_n hx hb dX9_mind_8 rfl (lv_at hl 2 rfl) ?_
    refine lv_i2l hx hb dX9_mind_9 rfl ?_
    refine lv_lconst (v := 0) hx hb dX9_mind_10 (by decide) ?_
    refine lv_ldc2 hx hb hown kw0 dX9_mind_11 ?_
    obtain ⟨o_3, ho_3, hf⟩ := ht_bn_ob hf
    refine ht_callSi (r := o_3) (rest := []) (As := [.long p1.toInt64, .long (0 : Int64), .long (5 : Int64)]) (wc := []) (wr := (wMo K jM aM RM.s RM.held RM.aside RM.before RM.isHeld RM.tape RM.taped RM.token RM.frm RM.to RM.value RM.isWrong RM.unpaired RM.bestSound RM.bestWay RM.rows RM.rowN RM.sortOf RM.sizeOf RM.numbers RM.holdsWhat RM.holdsWhich RM.holdsMany RM.bodies RM.ran RM.actKind RM.actN RM.actA RM.isParted)) (w1 := []) (w2 := (wMo K jM aM RM.s RM.held RM.aside RM.before RM.isHeld RM.tape RM.taped RM.token RM.frm RM.to RM.value RM.isWrong RM.unpaired RM.bestSound RM.bestWay RM.rows RM.rowN RM.sortOf RM.sizeOf RM.numbers RM.holdsWhat RM.holdsWhich RM.holdsMany RM.bodies RM.ran RM.actKind RM.actN RM.actA RM.isParted)) hF (ctX9_isIn l D K p1.toInt64 (0 : Int64) (5 : Int64) o_3 ho_3 H.size) (va_cwS 3 hts gX9_mind_X9_isIn rfl rfl rfl hdX9_isIn ⟨Nat.le_of_ble_eq_true rfl, Nat.le_of_ble_eq_true rfl⟩) hK hP hD hS hA [] [0, 1, 2, 3, 4, 5, 6, 7, 8, 9, 10, 11, 12, 13, 14, 15] rfl rfl (by decide) (by decide) (by decide) [0, 1, 2, 3, 4, 5, 6, 7, 8, 9, 10, 11, 12, 13, 14, 15] rfl (by decide) rfl hl.1 rfl (Nat.le_of_ble_eq_true rfl) dX9_mind_14 ⟨Nat.zero_le _, Nat.zero_le _⟩ (fun H locs hP hD hS => ?_)
    refine lv_if_eq (tgt := 32) hx hb dX9_mind_17 (by decide) (fun c_4 => ?_) (fun c_4 => ?_)
    · replace hf := ht_t c_4 hf
      refine lv_iconst (v := -1) hx hb dX9_mind_32 (by decide) ?_
      have ho := Option.some.inj hf
      subst ho; subst hQ
      exact ht_iret hx hb hr hlk rfl hK hP hD hS dX9_mind_33
    · replace hf := ht_f c_4 hf
      refine lv_iload_n hx hb dX9_mind_20 rfl (lv_at hl 3 rfl) ?_
      refine lv_i2l hx hb dX9_mind_21 rfl ?_
      refine lv_lconst (v := 0) hx hb dX9_mind_22 (by decide) ?_
      refine lv_ldc2 hx hb hown kw1 dX9_mind_23 ?_
      obtain ⟨o_5, ho_5, hf⟩ := ht_bn_ob hf
      refine ht_callSi (r := o_5) (rest := []) (As := [.long p2.toInt64, .long (0 : Int64), .long (9 : Int64)]) (wc := []) (wr := (wMo K jM aM RM.s RM.held RM.aside RM.before RM.isHeld RM.tape RM.taped RM.token RM.frm RM.to RM.value RM.isWrong RM.unpaired RM.bestSound RM.bestWay RM.rows RM.rowN RM.sortOf RM.sizeOf RM.numbers RM.holdsWhat RM.holdsWhich RM.holdsMany RM.bodies RM.ran RM.actKind RM.actN RM.actA RM.isParted)) (w1 := []) (w2 := (wMo K jM aM RM.s RM.held RM.aside RM.before RM.isHeld RM.tape RM.taped RM.token RM.frm RM.to RM.value RM.isWrong RM.unpaired RM.bestSound RM.bestWay RM.rows RM.rowN RM.sortOf RM.sizeOf RM.numbers RM.holdsWhat RM.holdsWhich RM.holdsMany RM.bodies RM.ran RM.actKind RM.actN RM.actA RM.isParted)) hF (ctX9_isIn l D K p2.toInt64 (0 : Int64) (9 : Int64) o_5 ho_5 H.size) (va_cwS 3 hts gX9_mind_X9_isIn rfl rfl rfl hdX9_isIn ⟨Nat.le_of_ble_eq_true rfl, Nat.le_of_ble_eq_true rfl⟩) hK hP hD hS hA [] [0, 1, 2, 3, 4, 5, 6, 7, 8, 9, 10, 11, 12, 13, 14, 15] rfl rfl (by decide) (by decide) (by decide) [0, 1, 2, 3, 4, 5, 6, 7, 8, 9, 10, 11, 12, 13, 14, 15] rfl (by decide) rfl hl.1 rfl (Nat.le_of_ble_eq_true rfl) dX9_mind_26 ⟨Nat.zero_le _, Nat.zero_le _⟩ (fun H locs hP hD hS => ?_)
      refine lv_if_ne (tgt := 34) hx hb dX9_mind_29 (by decide) (fun c_6 => ?_) (fun c_6 => ?_)
      · replace hf := ht_f c_6 hf
        refine lv_aload_n hx hb dX9_mind_34 rfl (lv_at hl 0 rfl) ?_
        refine va_get (D := D) (ci := 9) (v := .ref (aM 0)) (C := RX9) (T := TX9) (N := 29) hx hb hts iw9 hown hK hP 0 rfl rfl 0 (by decide) kw3 (fun _ h9 => h9) rfl dX9_mind_35 ?_
        refine lv_bipush (v := 9) hx hb dX9_mind_38 (by decide) ?_
        refine lv_bipush (v := 6) hx hb dX9_mind_40 (by decide) ?_
        refine lv_iload_n hx hb dX9_mind_42 rfl (lv_at hl 1 rfl) ?_
        refine lv_imul hx hb dX9_mind_43 ?_
        refine lv_iadd hx hb dX9_mind_44 ?_
        refine lv_iconst (v := 3) hx hb dX9_mind_45 (by decide) ?_
        refine lv_iadd hx hb dX9_mind_46 ?_
        refine lv_iload_n hx hb dX9_mind_47 rfl (lv_at hl 3 rfl) ?_
        obtain ⟨g_7, hf⟩ := ht_gd_ob hf
        obtain ⟨vM_s_8, evM_s_8, hf⟩ := ht_nm_ob hf
        refine ht_iast (w2 := (wMo K jM aM vM_s_8 RM.held RM.aside RM.before RM.isHeld RM.tape RM.taped RM.token RM.frm RM.to RM.value RM.isWrong RM.unpaired RM.bestSound RM.bestWay RM.rows RM.rowN RM.sortOf RM.sizeOf RM.numbers RM.holdsWhat RM.holdsWhich RM.holdsMany RM.bodies RM.ran RM.actKind RM.actN RM.actA RM.isParted)) hx hb hK hP hD hS 1 1 rfl rfl g_7 dX9_mind_48 evM_s_8 rfl (fun H locs hP hD hS => ?_)
        refine lv_aload_n hx hb dX9_mind_49 rfl (lv_at hl 0 rfl) ?_
        refine lv_bipush (v := 9) hx hb dX9_mind_50 (by decide) ?_
        refine lv_bipush (v := 6) hx hb dX9_mind_52 (by decide) ?_
        refine lv_iload_n hx hb dX9_mind_54 rfl (lv_at hl 1 rfl) ?_
        refine lv_imul hx hb dX9_mind_55 ?_
        refine lv_iadd hx hb dX9_mind_56 ?_
        refine lv_iload_n hx hb dX9_mind_57 rfl (lv_at hl 2 rfl) ?_
        obtain ⟨o_9, ho_9, hf⟩ := ht_bn_ob hf
        refine ht_callVi (r := o_9.1) (rest := []) (As := [.int ((9 : Int32) + ((6 : Int32) * p0)), .int p1]) (wc := (wMo K jM aM vM_s_8 RM.held RM.aside RM.before RM.isHeld RM.tape RM.taped RM.token RM.frm RM.to RM.value RM.isWrong RM.unpaired RM.bestSound RM.bestWay RM.rows RM.rowN RM.sortOf RM.sizeOf RM.numbers RM.holdsWhat RM.holdsWhich RM.holdsMany RM.bodies RM.ran RM.actKind RM.actN RM.actA RM.isParted)) (wr := []) (w1 := (wMo K jM aM o_9.2 RM.held RM.aside RM.before RM.isHeld RM.tape RM.taped RM.token RM.frm RM.to RM.value RM.isWrong RM.unpaired RM.bestSound RM.bestWay RM.rows RM.rowN RM.sortOf RM.sizeOf RM.numbers RM.holdsWhat RM.holdsWhich RM.holdsMany RM.bodies RM.ran RM.actKind RM.actN RM.actA RM.isParted)) (w2 := (wMo K jM aM o_9.2 RM.held RM.aside RM.before RM.isHeld RM.tape RM.taped RM.token RM.frm RM.to RM.value RM.isWrong RM.unpaired RM.bestSound RM.bestWay RM.rows RM.rowN RM.sortOf RM.sizeOf RM.numbers RM.holdsWhat RM.holdsWhich RM.holdsMany RM.bodies RM.ran RM.actKind RM.actN RM.actA RM.isParted)) hF (ctX9_becomes l D K jM aM (vM_s_8, RM.held, RM.aside, RM.before, RM.isHeld, RM.tape, RM.taped, RM.token, RM.frm, RM.to, RM.value, RM.isWrong, RM.unpaired, RM.bestSound, RM.bestWay, RM.rows, RM.rowN, RM.sortOf, RM.sizeOf, RM.numbers, RM.holdsWhat, RM.holdsWhich, RM.holdsMany, RM.bodies, RM.ran, RM.actKind, RM.actN, RM.actA, RM.isParted) ((9 : Int32) + ((6 : Int32) * p0)) p1 o_9 ho_9 H.size) (cwV 2 hts gX9_mind_X9_becomes rfl rfl rfl hdX9_becomes ⟨Nat.le_of_ble_eq_true rfl, Nat.le_of_ble_eq_true rfl⟩) hK hP hD hS hA [0, 1, 2, 3, 4, 5, 6, 7, 8, 9, 10, 11, 12, 13, 14, 15] [] rfl rfl (by decide) (by decide) (by decide) [0, 1, 2, 3, 4, 5, 6, 7, 8, 9, 10, 11, 12, 13, 14, 15] rfl (by decide) (va_recv hK hP (ci := 9) (q0 := 0) rfl rfl) rfl hl.1 rfl (Nat.le_of_ble_eq_true rfl) dX9_mind_58 ⟨Nat.zero_le _, Nat.zero_le _⟩ (fun H locs hP hD hS => ?_)
        have ho := Option.some.inj hf
        subst ho; subst hQ
        exact ht_iret hx hb hr hlk rfl hK hP hD hS dX9_mind_61
      · replace hf := ht_t c_6 hf
        refine lv_iconst (v := -1) hx hb dX9_mind_32 (by decide) ?_
        have ho := Option.some.inj hf
        subst ho; subst hQ
        exact ht_iret hx hb hr hlk rfl hK hP hD hS dX9_mind_33
abbrev rmX9_change : Room := { frames := 1, cells := 0, slots := 0, locals := 25 }
theorem hdX9_change : yX9_change.cls = RX9 ∧ yX9_change.cls ≠ "java/lang/invoke/MethodHandle" ∧ yX9_change.cls ≠ "java/lang/invoke/VarHandle" ∧ (parseMethodDescriptor yX9_change.desc).map (fun d => d.parameters.length) = some 3 := by decide +kernel
def fX9_change (RM : ModV) (p0 : Int32) (p1 : Int32) (p2 : Int32) : Option (Int32 × AI) := ht_bn (fX9_isOne RM p0) (fun o_1 => if o_1 = 0 then (some ((-1 : Int32), RM.s)) else (ht_bn (fX9_isIn p1.toInt64 (1 : Int64) (2 : Int64)) (fun o_3 => if o_3 = 0 then (some ((-1 : Int32), RM.s)) else (ht_bn (fX9_isIn p2.toInt64 (0 : Int64) (99 : Int64)) (fun o_5 => if o_5 = 0 then (some ((-1 : Int32), RM.s)) else (ht_bn (fX9_becomes RM (((9 : Int32) + ((6 : Int32) * p0)) + p1) p2) (fun o_7 => some (o_7.1, o_7.2))))))))
set_option maxHeartbeats 1000000 in
set_option maxRecDepth 100000 in
theorem ctX9_change (l : Launch) (D : va_G) (K : Nat → ClassId) (jM : Nat) (aM : Nat → Nat) (RM : ModV) (p0 : Int32) (p1 : Int32) (p2 : Int32) (o : (Int32 × AI)) (hf : fX9_change RM p0 p1 p2 = some o) (sz : Nat) : Met l yX9_change wsX9_change rmX9_change (ht_Pre D K [.ref jM, .int p0, .int p1, .int p2] (wMo K jM aM RM.s RM.held RM.aside RM.before RM.isHeld RM.tape RM.taped RM.token RM.frm RM.to RM.value RM.isWrong RM.unpaired RM.bestSound RM.bestWay RM.rows RM.rowN RM.sortOf RM.sizeOf RM.numbers RM.holdsWhat RM.holdsWhich RM.holdsMany RM.bodies RM.ran RM.actKind RM.actN RM.actA RM.isParted) sz) (ht_Qi D K (wMo K jM aM o.2 RM.held RM.aside RM.before RM.isHeld RM.tape RM.taped RM.token RM.frm RM.to RM.value RM.isWrong RM.unpaired RM.bestSound RM.bestWay RM.rows RM.rowN RM.sortOf RM.sizeOf RM.numbers RM.holdsWhat RM.holdsWhich RM.holdsMany RM.bodies RM.ran RM.actKind RM.actN RM.actA RM.isParted) o.1 (va_A (wMo K jM aM RM.s RM.held RM.aside RM.before RM.isHeld RM.tape RM.taped RM.token RM.frm RM.to RM.value RM.isWrong RM.unpaired RM.bestSound RM.bestWay RM.rows RM.rowN RM.sortOf RM.sizeOf RM.numbers RM.holdsWhat RM.holdsWhich RM.holdsMany RM.bodies RM.ran RM.actKind RM.actN RM.actA RM.isParted) sz)) 0 0 (va_A (wMo K jM aM RM.s RM.held RM.aside RM.before RM.isHeld RM.tape RM.taped RM.token RM.frm RM.to RM.value RM.isWrong RM.unpaired RM.bestSound RM.bestWay RM.rows RM.rowN RM.sortOf RM.sizeOf RM.numbers RM.holdsWhat RM.holdsWhich RM.holdsMany RM.bodies RM.ran RM.actKind RM.actN RM.actA RM.isParted) sz) := by
  refine ht_enter (Qf := ht_Qi D K (wMo K jM aM o.2 RM.held RM.aside RM.before RM.isHeld RM.tape RM.taped RM.token RM.frm RM.to RM.value RM.isWrong RM.unpaired RM.bestSound RM.bestWay RM.rows RM.rowN RM.sortOf RM.sizeOf RM.numbers RM.holdsWhat RM.holdsWhich RM.holdsMany RM.bodies RM.ran RM.actKind RM.actN RM.actA RM.isParted) o.1) (cc := cX9_change) (maxL := 4) (rt := (some .int)) (by decide) rfl (Nat.le_of_ble_eq_true rfl) ?_ sz
  intro p e s m below meth c A Q H locs ls hQ hx hb hr hlk hmn hml hown hts hA hK hP hD hS hl
  have hown : s.vm.findClass RX9 = some m.cls := hown
  have hF : CallFix p m c cX9_change 4 s ([.ref jM, .int p0, .int p1, .int p2] : List Value).toArray wsX9_change RX9 := ⟨hx, hb, hml, hown, hts⟩
  have hl : lv_has ls 4 [(0, .ref jM), (1, .int p0), (2, .int p1), (3, .int p2)] := hl
  have kw0 := hts (.constantLong RX9 178 (2)) (by decide +kernel)
  have kw1 := hts (.constantLong RX9 162 (99)) (by decide +kernel)
  delta fX9_change at hf
  refine lv_aload_n hx hb dX9_change_0 rfl (lv_at hl 0 rfl) ?_
  refine lv_iload_n hx hb dX9_change_1 rfl (lv_at hl 1 rfl) ?_
  obtain ⟨o_1, ho_1, hf⟩ := ht_bn_ob hf
  refine ht_callVi (r := o_1) (rest := []) (As := [.int p0]) (wc := (wMo K jM aM RM.s RM.held RM.aside RM.before RM.isHeld RM.tape RM.taped RM.token RM.frm RM.to RM.value RM.isWrong RM.unpaired RM.bestSound RM.bestWay RM.rows RM.rowN RM.sortOf RM.sizeOf RM.numbers RM.holdsWhat RM.holdsWhich RM.holdsMany RM.bodies RM.ran RM.actKind RM.actN RM.actA RM.isParted)) (wr := []) (w1 := (wMo K jM aM RM.s RM.held RM.aside RM.before RM.isHeld RM.tape RM.taped RM.token RM.frm RM.to RM.value RM.isWrong RM.unpaired RM.bestSound RM.bestWay RM.rows RM.rowN RM.sortOf RM.sizeOf RM.numbers RM.holdsWhat RM.holdsWhich RM.holdsMany RM.bodies RM.ran RM.actKind RM.actN RM.actA RM.isParted)) (w2 := (wMo K jM aM RM.s RM.held RM.aside RM.before RM.isHeld RM.tape RM.taped RM.token RM.frm RM.to RM.value RM.isWrong RM.unpaired RM.bestSound RM.bestWay RM.rows RM.rowN RM.sortOf RM.sizeOf RM.numbers RM.holdsWhat RM.holdsWhich RM.holdsMany RM.bodies RM.ran RM.actKind RM.actN RM.actA RM.isParted)) hF (ctX9_isOne l D K jM aM RM p0 o_1 ho_1 H.size) (cwV 1 hts gX9_change_X9_isOne rfl rfl rfl hdX9_isOne ⟨Nat.le_of_ble_eq_true rfl, Nat.le_of_ble_eq_true rfl⟩) hK hP hD hS hA [0, 1, 2, 3, 4, 5, 6, 7, 8, 9, 10, 11, 12, 13, 14, 15] [] rfl rfl (by decide) (by decide) (by decide) [0, 1, 2, 3, 4, 5, 6, 7, 8, 9, 10, 11, 12, 13, 14, 15] rfl (by decide) (va_recv hK hP (ci := 9) (q0 := 0) rfl rfl) rfl hl.1 rfl (Nat.le_of_ble_eq_true rfl) dX9_change_2 ⟨Nat.zero_le _, Nat.zero_le _⟩ (fun H locs hP hD hS => ?_)
  refine lv_if_eq (tgt := 49) hx hb dX9_change_5 (by decide) (fun c_2 => ?_) (fun c_2 => ?_)
  · replace hf := ht_t c_2 hf
    refine lv_iconst (v := -1) hx hb dX9_change_49 (by decide) ?_
    have ho := Option.some.inj hf
    subst ho; subst hQ
    exact ht_iret hx hb hr hlk rfl hK hP hD hS dX9_change_50
  · replace hf := ht_f c_2 hf
    refine lv_iload_n hx hb dX9_change_8 rfl (lv_at hl 2 rfl) ?_
    refine lv_i2l hx hb dX9_change_9 rfl ?_
    refine lv_lconst (v := 1) hx hb dX9_change_10 (by decide) ?_
    refine lv_ldc2 hx hb hown kw0 dX9_change_11 ?_
    obtain ⟨o_3, ho_3, hf⟩ := ht_bn_ob hf
    refine ht_callSi (r := o_3) (rest := []) (As := [.long p1.toInt64, .long (1 : Int64), .long (2 : Int64)]) (wc := []) (wr := (wMo K jM aM RM.s RM.held RM.aside RM.before RM.isHeld RM.tape RM.taped RM.token RM.frm RM.to RM.value RM.isWrong RM.unpaired RM.bestSound RM.bestWay RM.rows RM.rowN RM.sortOf RM.sizeOf RM.numbers RM.holdsWhat RM.holdsWhich RM.holdsMany RM.bodies RM.ran RM.actKind RM.actN RM.actA RM.isParted)) (w1 := []) (w2 := (wMo K jM aM RM.s RM.held RM.aside RM.before RM.isHeld RM.tape RM.taped RM.token RM.frm RM.to RM.value RM.isWrong RM.unpaired RM.bestSound RM.bestWay RM.rows RM.rowN RM.sortOf RM.sizeOf RM.numbers RM.holdsWhat RM.holdsWhich RM.holdsMany RM.bodies RM.ran RM.actKind RM.actN RM.actA RM.isParted)) hF (ctX9_isIn l D K p1.toInt64 (1 : Int64) (2 : Int64) o_3 ho_3 H.size) (va_cwS 3 hts gX9_change_X9_isIn rfl rfl rfl hdX9_isIn ⟨Nat.le_of_ble_eq_true rfl, Nat.le_of_ble_eq_true rfl⟩) hK hP hD hS hA [] [0, 1, 2, 3, 4, 5, 6, 7, 8, 9, 10, 11, 12, 13, 14, 15] rfl rfl (by decide) (by decide) (by decide) [0, 1, 2, 3, 4, 5, 6, 7, 8, 9, 10, 11, 12, 13, 14, 15] rfl (by decide) rfl hl.1 rfl (Nat.le_of_ble_eq_true rfl) dX9_change_14 ⟨Nat.zero_le _, Nat.zero_le _⟩ (fun H locs hP hD hS => ?_)
    refine lv_if_eq (tgt := 49) hx hb dX9_change_17 (by decide) (fun c_4 => ?_) (fun c_4 => ?_)
    · replace hf := ht_t c_4 hf
      refine lv_iconst (v := -1) hx hb dX9_change_49 (by decide) ?_
      have ho := Option.some.inj hf
      subst ho; subst hQ
      exact ht_iret hx hb hr hlk rfl hK hP hD hS dX9_change_50
    · replace hf := ht_f c_4 hf
      refine lv_iload_n hx hb dX9_change_20 rfl (lv_at hl 3 rfl) ?_
      refine lv_i2l hx hb dX9_change_21 rfl ?_
      refine lv_lconst (v := 0) hx hb dX9_change_22 (by decide) ?_
      refine lv_ldc2 hx hb hown kw1 dX9_change_23 ?_
      obtain ⟨o_5, ho_5, hf⟩ := ht_bn_ob hf
      refine ht_callSi (r := o_5) (rest := []) (As := [.long p2.toInt64, .long (0 : Int64), .long (99 : Int64)]) (wc := []) (wr := (wMo K jM aM RM.s RM.held RM.aside RM.before RM.isHeld RM.tape RM.taped RM.token RM.frm RM.to RM.value RM.isWrong RM.unpaired RM.bestSound RM.bestWay RM.rows RM.rowN RM.sortOf RM.sizeOf RM.numbers RM.holdsWhat RM.holdsWhich RM.holdsMany RM.bodies RM.ran RM.actKind RM.actN RM.actA RM.isParted)) (w1 := []) (w2 := (wMo K jM aM RM.s RM.held RM.aside RM.before RM.isHeld RM.tape RM.taped RM.token RM.frm RM.to RM.value RM.isWrong RM.unpaired RM.bestSound RM.bestWay RM.rows RM.rowN RM.sortOf RM.sizeOf RM.numbers RM.holdsWhat RM.holdsWhich RM.holdsMany RM.bodies RM.ran RM.actKind RM.actN RM.actA RM.isParted)) hF (ctX9_isIn l D K p2.toInt64 (0 : Int64) (99 : Int64) o_5 ho_5 H.size) (va_cwS 3 hts gX9_change_X9_isIn rfl rfl rfl hdX9_isIn ⟨Nat.le_of_ble_eq_true rfl, Nat.le_of_ble_eq_true rfl⟩) hK hP hD hS hA [] [0, 1, 2, 3, 4, 5, 6, 7, 8, 9, 10, 11, 12, 13, 14, 15] rfl rfl (by decide) (by decide) (by decide) [0, 1, 2, 3, 4, 5, 6, 7, 8, 9, 10, 11, 12, 13, 14, 15] rfl (by decide) rfl hl.1 rfl (Nat.le_of_ble_eq_true rfl) dX9_change_26 ⟨Nat.zero_le _, Nat.zero_le _⟩ (fun H locs hP hD hS => ?_)
      refine lv_if_eq (tgt := 49) hx hb dX9_change_29 (by decide) (fun c_6 => ?_) (fun c_6 => ?_)
      · replace hf := ht_t c_6 hf
        refine lv_iconst (v := -1) hx hb dX9_change_49 (by decide) ?_
        have ho := Option.some.inj hf
        subst ho; subst hQ
        exact ht_iret hx hb hr hlk rfl hK hP hD hS dX9_change_50
      · replace hf := ht_f c_6 hf
        refine lv_aload_n hx hb dX9_change_32 rfl (lv_at hl 0 rfl) ?_
        refine lv_bipush (v := 9) hx hb dX9_change_33 (by decide) ?_
        refine lv_bipush (v := 6) hx hb dX9_change_35 (by decide) ?_
        refine lv_iload_n hx hb dX9_change_37 rfl (lv_at hl 1 rfl) ?_
        refine lv_imul hx hb dX9_change_38 ?_
        refine lv_iadd hx hb dX9_change_39 ?_
        refine lv_iload_n hx hb dX9_change_40 rfl (lv_at hl 2 rfl) ?_
        refine lv_iadd hx hb dX9_change_41 ?_
        refine lv_iload_n hx hb dX9_change_42 rfl (lv_at hl 3 rfl) ?_
        obtain ⟨o_7, ho_7, hf⟩ := ht_bn_ob hf
        refine ht_callVi (r := o_7.1) (rest := []) (As := [.int (((9 : Int32) + ((6 : Int32) * p0)) + p1), .int p2]) (wc := (wMo K jM aM RM.s RM.held RM.aside RM.before RM.isHeld RM.tape RM.taped RM.token RM.frm RM.to RM.value RM.isWrong RM.unpaired RM.bestSound RM.bestWay RM.rows RM.rowN RM.sortOf RM.sizeOf RM.numbers RM.holdsWhat RM.holdsWhich RM.holdsMany RM.bodies RM.ran RM.actKind RM.actN RM.actA RM.isParted)) (wr := []) (w1 := (wMo K jM aM o_7.2 RM.held RM.aside RM.before RM.isHeld RM.tape RM.taped RM.token RM.frm RM.to RM.value RM.isWrong RM.unpaired RM.bestSound RM.bestWay RM.rows RM.rowN RM.sortOf RM.sizeOf RM.numbers RM.holdsWhat RM.holdsWhich RM.holdsMany RM.bodies RM.ran RM.actKind RM.actN RM.actA RM.isParted)) (w2 := (wMo K jM aM o_7.2 RM.held RM.aside RM.before RM.isHeld RM.tape RM.taped RM.token RM.frm RM.to RM.value RM.isWrong RM.unpaired RM.bestSound RM.bestWay RM.rows RM.rowN RM.sortOf RM.sizeOf RM.numbers RM.holdsWhat RM.holdsWhich RM.holdsMany RM.bodies RM.ran RM.actKind RM.actN RM.actA RM.isParted)) hF (ctX9_becomes l D K jM aM RM (((9 : Int32) + ((6 : Int32) * p0)) + p1) p2 o_7 ho_7 H.size) (cwV 2 hts gX9_change_X9_becomes rfl rfl rfl hdX9_becomes ⟨Nat.le_of_ble_eq_true rfl, Nat.le_of_ble_eq_true rfl⟩) hK hP hD hS hA [0, 1, 2, 3, 4, 5, 6, 7, 8, 9, 10, 11, 12, 13, 14, 15] [] rfl rfl (by decide) (by decide) (by decide) [0, 1, 2, 3, 4, 5, 6, 7, 8, 9, 10, 11, 12, 13, 14, 15] rfl (by decide) (va_recv hK hP (ci := 9) (q0 := 0) rfl rfl) rfl hl.1 rfl (Nat.le_of_ble_eq_true rfl) dX9_change_43 ⟨Nat.zero_le _, Nat.zero_le _⟩ (fun H locs hP hD hS => ?_)
        refine lv_goto (tgt := 50) hx hb dX9_change_46 (by decide) ?_
        have ho := Option.some.inj hf
        subst ho; subst hQ
        exact ht_iret hx hb hr hlk rfl hK hP hD hS dX9_change_50
abbrev rmX9_pair : Room := { frames := 3, cells := 0, slots := 0, locals := 66 }
theorem hdX9_pair : yX9_pair.cls = RX9 ∧ yX9_pair.cls ≠ "java/lang/invoke/MethodHandle" ∧ yX9_pair.cls ≠ "java/lang/invoke/VarHandle" ∧ (parseMethodDescriptor yX9_pair.desc).map (fun d => d.parameters.length) = some 2 := by decide +kernel
def fX9_pair_b40 (RM : ModV) (x1 : Int32) (x2 : Int32) (t0 : Int32) (vM_s : AI) : Option (Int32 × AI) := ht_bn (fX9_pairs (vM_s, RM.held, RM.aside, RM.before, RM.isHeld, RM.tape, RM.taped, RM.token, RM.frm, RM.to, RM.value, RM.isWrong, RM.unpaired, RM.bestSound, RM.bestWay, RM.rows, RM.rowN, RM.sortOf, RM.sizeOf, RM.numbers, RM.holdsWhat, RM.holdsWhich, RM.holdsMany, RM.bodies, RM.ran, RM.actKind, RM.actN, RM.actA, RM.isParted) x1 x2) (fun o_1 => if t0 = 0 then (some ((0 : Int32), o_1)) else (some ((1 : Int32), o_1)))
def fX9_pair (RM : ModV) (p0 : Int32) (p1 : Int32) : Option (Int32 × AI) := ht_bn (fX9_isOne RM p0) (fun o_3 => if o_3 = 0 then (some ((-1 : Int32), RM.s)) else (ht_bn (fX9_isOne RM p1) (fun o_5 => if o_5 = 0 then (some ((-1 : Int32), RM.s)) else (if p0 = p1 then (some ((-1 : Int32), RM.s)) else (ht_bn (fX9_its RM p0 (4 : Int32)) (fun o_8 => if o_8 = ((1 : Int32) + p1) then (fX9_pair_b40 RM p0 p1 (1 : Int32) RM.s) else (fX9_pair_b40 RM p0 p1 (0 : Int32) RM.s)))))))
set_option maxHeartbeats 1000000 in
set_option maxRecDepth 100000 in
theorem ctX9_pair (l : Launch) (D : va_G) (K : Nat → ClassId) (jM : Nat) (aM : Nat → Nat) (RM : ModV) (p0 : Int32) (p1 : Int32) (o : (Int32 × AI)) (hf : fX9_pair RM p0 p1 = some o) (sz : Nat) : Met l yX9_pair wsX9_pair rmX9_pair (ht_Pre D K [.ref jM, .int p0, .int p1] (wMo K jM aM RM.s RM.held RM.aside RM.before RM.isHeld RM.tape RM.taped RM.token RM.frm RM.to RM.value RM.isWrong RM.unpaired RM.bestSound RM.bestWay RM.rows RM.rowN RM.sortOf RM.sizeOf RM.numbers RM.holdsWhat RM.holdsWhich RM.holdsMany RM.bodies RM.ran RM.actKind RM.actN RM.actA RM.isParted) sz) (ht_Qi D K (wMo K jM aM o.2 RM.held RM.aside RM.before RM.isHeld RM.tape RM.taped RM.token RM.frm RM.to RM.value RM.isWrong RM.unpaired RM.bestSound RM.bestWay RM.rows RM.rowN RM.sortOf RM.sizeOf RM.numbers RM.holdsWhat RM.holdsWhich RM.holdsMany RM.bodies RM.ran RM.actKind RM.actN RM.actA RM.isParted) o.1 (va_A (wMo K jM aM RM.s RM.held RM.aside RM.before RM.isHeld RM.tape RM.taped RM.token RM.frm RM.to RM.value RM.isWrong RM.unpaired RM.bestSound RM.bestWay RM.rows RM.rowN RM.sortOf RM.sizeOf RM.numbers RM.holdsWhat RM.holdsWhich RM.holdsMany RM.bodies RM.ran RM.actKind RM.actN RM.actA RM.isParted) sz)) 0 0 (va_A (wMo K jM aM RM.s RM.held RM.aside RM.before RM.isHeld RM.tape RM.taped RM.token RM.frm RM.to RM.value RM.isWrong RM.unpaired RM.bestSound RM.bestWay RM.rows RM.rowN RM.sortOf RM.sizeOf RM.numbers RM.holdsWhat RM.holdsWhich RM.holdsMany RM.bodies RM.ran RM.actKind RM.actN RM.actA RM.isParted) sz) := by
  refine ht_enter (Qf := ht_Qi D K (wMo K jM aM o.2 RM.held RM.aside RM.before RM.isHeld RM.tape RM.taped RM.token RM.frm RM.to RM.value RM.isWrong RM.unpaired RM.bestSound RM.bestWay RM.rows RM.rowN RM.sortOf RM.sizeOf RM.numbers RM.holdsWhat RM.holdsWhich RM.holdsMany RM.bodies RM.ran RM.actKind RM.actN RM.actA RM.isParted) o.1) (cc := cX9_pair) (maxL := 4) (rt := (some .int)) (by decide) rfl (Nat.le_of_ble_eq_true rfl) ?_ sz
  intro p e s m below meth c A Q H locs ls hQ hx hb hr hlk hmn hml hown hts hA hK hP hD hS hl
  have hown : s.vm.findClass RX9 = some m.cls := hown
  have hF : CallFix p m c cX9_pair 4 s ([.ref jM, .int p0, .int p1] : List Value).toArray wsX9_pair RX9 := ⟨hx, hb, hml, hown, hts⟩
  have hl : lv_has ls 4 [(0, .ref jM), (1, .int p0), (2, .int p1)] := hl
  have b40 : ∀ (x1 : Int32) (x2 : Int32) (t0 : Int32) (vM_s : AI) (H : Heap) (locs : List Loc) (ls : Array Slot), fX9_pair_b40 RM x1 x2 t0 vM_s = some o → va_P D vwCl (wMo K jM aM vM_s RM.held RM.aside RM.before RM.isHeld RM.tape RM.taped RM.token RM.frm RM.to RM.value RM.isWrong RM.unpaired RM.bestSound RM.bestWay RM.rows RM.rowN RM.sortOf RM.sizeOf RM.numbers RM.holdsWhat RM.holdsWhich RM.holdsMany RM.bodies RM.ran RM.actKind RM.actN RM.actA RM.isParted) H → va_D A (wMo K jM aM vM_s RM.held RM.aside RM.before RM.isHeld RM.tape RM.taped RM.token RM.frm RM.to RM.value RM.isWrong RM.unpaired RM.bestSound RM.bestWay RM.rows RM.rowN RM.sortOf RM.sizeOf RM.numbers RM.holdsWhat RM.holdsWhich RM.holdsMany RM.bodies RM.ran RM.actKind RM.actN RM.actA RM.isParted) → va_S A s.heap H locs → lv_has ls 4 [(0, .ref jM), (1, .int x1), (2, .int x2)] → W p l e (headSpec wsX9_pair rmX9_pair).room s m ([.ref jM, .int p0, .int p1] : List Value).toArray below meth c H locs 0 0 Q (F0 m 40 ls [.int t0]) := by
    intro x1 x2 t0 vM_s H locs ls hf hP hD hS hl
    delta fX9_pair_b40 at hf
    refine lv_istore_n (lv' := [(3, .int t0), (0, .ref jM), (1, .int x1), (2, .int x2)]) hx hb dX9_pair_40 rfl hl (by decide) rfl (fun ls hl => ?_)
    refine lv_aload_n hx hb dX9_pair_41 rfl (lv_at hl 1 rfl) ?_
    refine lv_iload_n hx hb dX9_pair_42 rfl (lv_at hl 2 rfl) ?_
    refine lv_iload_n hx hb dX9_pair_43 rfl (lv_at hl 3 rfl) ?_
    obtain ⟨o_1, ho_1, hf⟩ := ht_bn_ob hf
    refine ht_callVv (rest := []) (As := [.int x1, .int x2]) (wc := (wMo K jM aM vM_s RM.held RM.aside RM.before RM.isHeld RM.tape RM.taped RM.token RM.frm RM.to RM.value RM.isWrong RM.unpaired RM.bestSound RM.bestWay RM.rows RM.rowN RM.sortOf RM.sizeOf RM.numbers RM.holdsWhat RM.holdsWhich RM.holdsMany RM.bodies RM.ran RM.actKind RM.actN RM.actA RM.isParted)) (wr := []) (w1 := (wMo K jM aM o_1 RM.held RM.aside RM.before RM.isHeld RM.tape RM.taped RM.token RM.frm RM.to RM.value RM.isWrong RM.unpaired RM.bestSound RM.bestWay RM.rows RM.rowN RM.sortOf RM.sizeOf RM.numbers RM.holdsWhat RM.holdsWhich RM.holdsMany RM.bodies RM.ran RM.actKind RM.actN RM.actA RM.isParted)) (w2 := (wMo K jM aM o_1 RM.held RM.aside RM.before RM.isHeld RM.tape RM.taped RM.token RM.frm RM.to RM.value RM.isWrong RM.unpaired RM.bestSound RM.bestWay RM.rows RM.rowN RM.sortOf RM.sizeOf RM.numbers RM.holdsWhat RM.holdsWhich RM.holdsMany RM.bodies RM.ran RM.actKind RM.actN RM.actA RM.isParted)) hF (ctX9_pairs l D K jM aM (vM_s, RM.held, RM.aside, RM.before, RM.isHeld, RM.tape, RM.taped, RM.token, RM.frm, RM.to, RM.value, RM.isWrong, RM.unpaired, RM.bestSound, RM.bestWay, RM.rows, RM.rowN, RM.sortOf, RM.sizeOf, RM.numbers, RM.holdsWhat, RM.holdsWhich, RM.holdsMany, RM.bodies, RM.ran, RM.actKind, RM.actN, RM.actA, RM.isParted) x1 x2 o_1 ho_1 H.size) (cwV 2 hts gX9_pair_X9_pairs rfl rfl rfl hdX9_pairs ⟨Nat.le_of_ble_eq_true rfl, Nat.le_of_ble_eq_true rfl⟩) hK hP hD hS hA [0, 1, 2, 3, 4, 5, 6, 7, 8, 9, 10, 11, 12, 13, 14, 15] [] rfl rfl (by decide) (by decide) (by decide) [0, 1, 2, 3, 4, 5, 6, 7, 8, 9, 10, 11, 12, 13, 14, 15] rfl (by decide) (va_recv hK hP (ci := 9) (q0 := 0) rfl rfl) rfl hl.1 rfl (Nat.le_of_ble_eq_true rfl) dX9_pair_44 ⟨Nat.zero_le _, Nat.zero_le _⟩ (fun H locs hP hD hS => ?_)
    refine lv_iload_n hx hb dX9_pair_47 rfl (lv_at hl 0 rfl) ?_
    refine lv_if_eq (tgt := 55) hx hb dX9_pair_48 (by decide) (fun c_2 => ?_) (fun c_2 => ?_)
    · replace hf := ht_t c_2 hf
      refine lv_iconst (v := 0) hx hb dX9_pair_55 (by decide) ?_
      have ho := Option.some.inj hf
      subst ho; subst hQ
      exact ht_iret hx hb hr hlk rfl hK hP hD hS dX9_pair_56
    · replace hf := ht_f c_2 hf
      refine lv_iconst (v := 1) hx hb dX9_pair_51 (by decide) ?_
      refine lv_goto (tgt := 56) hx hb dX9_pair_52 (by decide) ?_
      have ho := Option.some.inj hf
      subst ho; subst hQ
      exact ht_iret hx hb hr hlk rfl hK hP hD hS dX9_pair_56
  delta fX9_pair at hf
  refine lv_aload_n hx hb dX9_pair_0 rfl (lv_at hl 0 rfl) ?_
  refine lv_iload_n hx hb dX9_pair_1 rfl (lv_at hl 1 rfl) ?_
  obtain ⟨o_3, ho_3, hf⟩ := ht_bn_ob hf
  refine ht_callVi (r := o_3) (rest := []) (As := [.int p0]) (wc := (wMo K jM aM RM.s RM.held RM.aside RM.before RM.isHeld RM.tape RM.taped RM.token RM.frm RM.to RM.value RM.isWrong RM.unpaired RM.bestSound RM.bestWay RM.rows RM.rowN RM.sortOf RM.sizeOf RM.numbers RM.holdsWhat RM.holdsWhich RM.holdsMany RM.bodies RM.ran RM.actKind RM.actN RM.actA RM.isParted)) (wr := []) (w1 := (wMo K jM aM RM.s RM.held RM.aside RM.before RM.isHeld RM.tape RM.taped RM.token RM.frm RM.to RM.value RM.isWrong RM.unpaired RM.bestSound RM.bestWay RM.rows RM.rowN RM.sortOf RM.sizeOf RM.numbers RM.holdsWhat RM.holdsWhich RM.holdsMany RM.bodies RM.ran RM.actKind RM.actN RM.actA RM.isParted)) (w2 := (wMo K jM aM RM.s RM.held RM.aside RM.before RM.isHeld RM.tape RM.taped RM.token RM.frm RM.to RM.value RM.isWrong RM.unpaired RM.bestSound RM.bestWay RM.rows RM.rowN RM.sortOf RM.sizeOf RM.numbers RM.holdsWhat RM.holdsWhich RM.holdsMany RM.bodies RM.ran RM.actKind RM.actN RM.actA RM.isParted)) hF (ctX9_isOne l D K jM aM RM p0 o_3 ho_3 H.size) (cwV 1 hts gX9_pair_X9_isOne rfl rfl rfl hdX9_isOne ⟨Nat.le_of_ble_eq_true rfl, Nat.le_of_ble_eq_true rfl⟩) hK hP hD hS hA [0, 1, 2, 3, 4, 5, 6, 7, 8, 9, 10, 11, 12, 13, 14, 15] [] rfl rfl (by decide) (by decide) (by decide) [0, 1, 2, 3, 4, 5, 6, 7, 8, 9, 10, 11, 12, 13, 14, 15] rfl (by decide) (va_recv hK hP (ci := 9) (q0 := 0) rfl rfl) rfl hl.1 rfl (Nat.le_of_ble_eq_true rfl) dX9_pair_2 ⟨Nat.zero_le _, Nat.zero_le _⟩ (fun H locs hP hD hS => ?_)
  refine lv_if_eq (tgt := 21) hx hb dX9_pair_5 (by decide) (fun c_4 => ?_) (fun c_4 => ?_)
  · replace hf := ht_t c_4 hf
    refine lv_iconst (v := -1) hx hb dX9_pair_21 (by decide) ?_
    have ho := Option.some.inj hf
    subst ho; subst hQ
    exact ht_iret hx hb hr hlk rfl hK hP hD hS dX9_pair_22
  · replace hf := ht_f c_4 hf
    refine lv_aload_n hx hb dX9_pair_8 rfl (lv_at hl 0 rfl) ?_
    refine lv_iload_n hx hb dX9_pair_9 rfl (lv_at hl 2 rfl) ?_
    obtain ⟨o_5, ho_5, hf⟩ := ht_bn_ob hf
    refine ht_callVi (r := o_5) (rest := []) (As := [.int p1]) (wc := (wMo K jM aM RM.s RM.held RM.aside RM.before RM.isHeld RM.tape RM.taped RM.token RM.frm RM.to RM.value RM.isWrong RM.unpaired RM.bestSound RM.bestWay RM.rows RM.rowN RM.sortOf RM.sizeOf RM.numbers RM.holdsWhat RM.holdsWhich RM.holdsMany RM.bodies RM.ran RM.actKind RM.actN RM.actA RM.isParted)) (wr := []) (w1 := (wMo K jM aM RM.s RM.held RM.aside RM.before RM.isHeld RM.tape RM.taped RM.token RM.frm RM.to RM.value RM.isWrong RM.unpaired RM.bestSound RM.bestWay RM.rows RM.rowN RM.sortOf RM.sizeOf RM.numbers RM.holdsWhat RM.holdsWhich RM.holdsMany RM.bodies RM.ran RM.actKind RM.actN RM.actA RM.isParted)) (w2 := (wMo K jM aM RM.s RM.held RM.aside RM.before RM.isHeld RM.tape RM.taped RM.token RM.frm RM.to RM.value RM.isWrong RM.unpaired RM.bestSound RM.bestWay RM.rows RM.rowN RM.sortOf RM.sizeOf RM.numbers RM.holdsWhat RM.holdsWhich RM.holdsMany RM.bodies RM.ran RM.actKind RM.actN RM.actA RM.isParted)) hF (ctX9_isOne l D K jM aM RM p1 o_5 ho_5 H.size) (cwV 1 hts gX9_pair_X9_isOne rfl rfl rfl hdX9_isOne ⟨Nat.le_of_ble_eq_true rfl, Nat.le_of_ble_eq_true rfl⟩) hK hP hD hS hA [0, 1, 2, 3, 4, 5, 6, 7, 8, 9, 10, 11, 12, 13, 14, 15] [] rfl rfl (by decide) (by decide) (by decide) [0, 1, 2, 3, 4, 5, 6, 7, 8, 9, 10, 11, 12, 13, 14, 15] rfl (by decide) (va_recv hK hP (ci := 9) (q0 := 0) rfl rfl) rfl hl.1 rfl (Nat.le_of_ble_eq_true rfl) dX9_pair_10 ⟨Nat.zero_le _, Nat.zero_le _⟩ (fun H locs hP hD hS => ?_)
    refine lv_if_eq (tgt := 21) hx hb dX9_pair_13 (by decide) (fun c_6 => ?_) (fun c_6 => ?_)
    · replace hf := ht_t c_6 hf
      refine lv_iconst (v := -1) hx hb dX9_pair_21 (by decide) ?_
      have ho := Option.some.inj hf
      subst ho; subst hQ
      exact ht_iret hx hb hr hlk rfl hK hP hD hS dX9_pair_22
    · replace hf := ht_f c_6 hf
      refine lv_iload_n hx hb dX9_pair_16 rfl (lv_at hl 1 rfl) ?_
      refine lv_iload_n hx hb dX9_pair_17 rfl (lv_at hl 2 rfl) ?_
      refine lv_icmp_ne (tgt := 23) hx hb dX9_pair_18 (by decide) (fun c_7 => ?_) (fun c_7 => ?_)
      · replace hf := ht_f c_7 hf
        refine lv_aload_n hx hb dX9_pair_23 rfl (lv_at hl 0 rfl) ?_
        refine lv_iload_n hx hb dX9_pair_24 rfl (lv_at hl 1 rfl) ?_
        refine lv_iconst (v := 4) hx hb dX9_pair_25 (by decide) ?_
        obtain ⟨o_8, ho_8, hf⟩ := ht_bn_ob hf
        refine ht_callVi (r := o_8) (rest := []) (As := [.int p0, .int (4 : Int32)]) (wc := (wMo K jM aM RM.s RM.held RM.aside RM.before RM.isHeld RM.tape RM.taped RM.token RM.frm RM.to RM.value RM.isWrong RM.unpaired RM.bestSound RM.bestWay RM.rows RM.rowN RM.sortOf RM.sizeOf RM.numbers RM.holdsWhat RM.holdsWhich RM.holdsMany RM.bodies RM.ran RM.actKind RM.actN RM.actA RM.isParted)) (wr := []) (w1 := (wMo K jM aM RM.s RM.held RM.aside RM.before RM.isHeld RM.tape RM.taped RM.token RM.frm RM.to RM.value RM.isWrong RM.unpaired RM.bestSound RM.bestWay RM.rows RM.rowN RM.sortOf RM.sizeOf RM.numbers RM.holdsWhat RM.holdsWhich RM.holdsMany RM.bodies RM.ran RM.actKind RM.actN RM.actA RM.isParted)) (w2 := (wMo K jM aM RM.s RM.held RM.aside RM.before RM.isHeld RM.tape RM.taped RM.token RM.frm RM.to RM.value RM.isWrong RM.unpaired RM.bestSound RM.bestWay RM.rows RM.rowN RM.sortOf RM.sizeOf RM.numbers RM.holdsWhat RM.holdsWhich RM.holdsMany RM.bodies RM.ran RM.actKind RM.actN RM.actA RM.isParted)) hF (ctX9_its l D K jM aM RM p0 (4 : Int32) o_8 ho_8 H.size) (cwV 2 hts gX9_pair_X9_its rfl rfl rfl hdX9_its ⟨Nat.le_of_ble_eq_true rfl, Nat.le_of_ble_eq_true rfl⟩) hK hP hD hS hA [0, 1, 2, 3, 4, 5, 6, 7, 8, 9, 10, 11, 12, 13, 14, 15] [] rfl rfl (by decide) (by decide) (by decide) [0, 1, 2, 3, 4, 5, 6, 7, 8, 9, 10, 11, 12, 13, 14, 15] rfl (by decide) (va_recv hK hP (ci := 9) (q0 := 0) rfl rfl) rfl hl.1 rfl (Nat.le_of_ble_eq_true rfl) dX9_pair_26 ⟨Nat.zero_le _, Nat.zero_le _⟩ (fun H locs hP hD hS => ?_)
        refine lv_iconst (v := 1) hx hb dX9_pair_29 (by decide) ?_
        refine lv_iload_n hx hb dX9_pair_30 rfl (lv_at hl 2 rfl) ?_
        refine lv_iadd hx hb dX9_pair_31 ?_
        refine lv_icmp_ne (tgt := 39) hx hb dX9_pair_32 (by decide) (fun c_9 => ?_) (fun c_9 => ?_)
        · replace hf := ht_f c_9 hf
          refine lv_iconst (v := 0) hx hb dX9_pair_39 (by decide) ?_
          exact b40  p0 p1 (0 : Int32) RM.s _ _ _ hf hP hD hS hl
        · replace hf := ht_t c_9 hf
          refine lv_iconst (v := 1) hx hb dX9_pair_35 (by decide) ?_
          refine lv_goto (tgt := 40) hx hb dX9_pair_36 (by decide) ?_
          exact b40  p0 p1 (1 : Int32) RM.s _ _ _ hf hP hD hS hl
      · replace hf := ht_t c_7 hf
        refine lv_iconst (v := -1) hx hb dX9_pair_21 (by decide) ?_
        have ho := Option.some.inj hf
        subst ho; subst hQ
        exact ht_iret hx hb hr hlk rfl hK hP hD hS dX9_pair_22
abbrev rmX9_leave : Room := { frames := 2, cells := 0, slots := 0, locals := 44 }
theorem hdX9_leave : yX9_leave.cls = RX9 ∧ yX9_leave.cls ≠ "java/lang/invoke/MethodHandle" ∧ yX9_leave.cls ≠ "java/lang/invoke/VarHandle" ∧ (parseMethodDescriptor yX9_leave.desc).map (fun d => d.parameters.length) = some 1 := by decide +kernel
def fX9_leave_b24 (RM : ModV) (x1 : Int32) (t0 : Int32) (vM_s : AI) : Option (Int32 × AI) := ht_bn (fX9_leaves (vM_s, RM.held, RM.aside, RM.before, RM.isHeld, RM.tape, RM.taped, RM.token, RM.frm, RM.to, RM.value, RM.isWrong, RM.unpaired, RM.bestSound, RM.bestWay, RM.rows, RM.rowN, RM.sortOf, RM.sizeOf, RM.numbers, RM.holdsWhat, RM.holdsWhich, RM.holdsMany, RM.bodies, RM.ran, RM.actKind, RM.actN, RM.actA, RM.isParted) x1) (fun o_1 => if t0 = 0 then (some ((0 : Int32), o_1)) else (some ((1 : Int32), o_1)))
def fX9_leave (RM : ModV) (p0 : Int32) : Option (Int32 × AI) := ht_bn (fX9_isOne RM p0) (fun o_3 => if o_3 = 0 then (some ((-1 : Int32), RM.s)) else (ht_bn (fX9_its RM p0 (4 : Int32)) (fun o_5 => if o_5 ≤ 0 then (fX9_leave_b24 RM p0 (0 : Int32) RM.s) else (fX9_leave_b24 RM p0 (1 : Int32) RM.s))))
set_option maxHeartbeats 1000000 in
set_option maxRecDepth 100000 in
theorem ctX9_leave (l : Launch) (D : va_G) (K : Nat → ClassId) (jM : Nat) (aM : Nat → Nat) (RM : ModV) (p0 : Int32) (o : (Int32 × AI)) (hf : fX9_leave RM p0 = some o) (sz : Nat) : Met l yX9_leave wsX9_leave rmX9_leave (ht_Pre D K [.ref jM, .int p0] (wMo K jM aM RM.s RM.held RM.aside RM.before RM.isHeld RM.tape RM.taped RM.token RM.frm RM.to RM.value RM.isWrong RM.unpaired RM.bestSound RM.bestWay RM.rows RM.rowN RM.sortOf RM.sizeOf RM.numbers RM.holdsWhat RM.holdsWhich RM.holdsMany RM.bodies RM.ran RM.actKind RM.actN RM.actA RM.isParted) sz) (ht_Qi D K (wMo K jM aM o.2 RM.held RM.aside RM.before RM.isHeld RM.tape RM.taped RM.token RM.frm RM.to RM.value RM.isWrong RM.unpaired RM.bestSound RM.bestWay RM.rows RM.rowN RM.sortOf RM.sizeOf RM.numbers RM.holdsWhat RM.holdsWhich RM.holdsMany RM.bodies RM.ran RM.actKind RM.actN RM.actA RM.isParted) o.1 (va_A (wMo K jM aM RM.s RM.held RM.aside RM.before RM.isHeld RM.tape RM.taped RM.token RM.frm RM.to RM.value RM.isWrong RM.unpaired RM.bestSound RM.bestWay RM.rows RM.rowN RM.sortOf RM.sizeOf RM.numbers RM.holdsWhat RM.holdsWhich RM.holdsMany RM.bodies RM.ran RM.actKind RM.actN RM.actA RM.isParted) sz)) 0 0 (va_A (wMo K jM aM RM.s RM.held RM.aside RM.before RM.isHeld RM.tape RM.taped RM.token RM.frm RM.to RM.value RM.isWrong RM.unpaired RM.bestSound RM.bestWay RM.rows RM.rowN RM.sortOf RM.sizeOf RM.numbers RM.holdsWhat RM.holdsWhich RM.holdsMany RM.bodies RM.ran RM.actKind RM.actN RM.actA RM.isParted) sz) := by
  refine ht_enter (Qf := ht_Qi D K (wMo K jM aM o.2 RM.held RM.aside RM.before RM.isHeld RM.tape RM.taped RM.token RM.frm RM.to RM.value RM.isWrong RM.unpaired RM.bestSound RM.bestWay RM.rows RM.rowN RM.sortOf RM.sizeOf RM.numbers RM.holdsWhat RM.holdsWhich RM.holdsMany RM.bodies RM.ran RM.actKind RM.actN RM.actA RM.isParted) o.1) (cc := cX9_leave) (maxL := 3) (rt := (some .int)) (by decide) rfl (Nat.le_of_ble_eq_true rfl) ?_ sz
  intro p e s m below meth c A Q H locs ls hQ hx hb hr hlk hmn hml hown hts hA hK hP hD hS hl
  have hown : s.vm.findClass RX9 = some m.cls := hown
  have hF : CallFix p m c cX9_leave 3 s ([.ref jM, .int p0] : List Value).toArray wsX9_leave RX9 := ⟨hx, hb, hml, hown, hts⟩
  have hl : lv_has ls 3 [(0, .ref jM), (1, .int p0)] := hl
  have b24 : ∀ (x1 : Int32) (t0 : Int32) (vM_s : AI) (H : Heap) (locs : List Loc) (ls : Array Slot), fX9_leave_b24 RM x1 t0 vM_s = some o → va_P D vwCl (wMo K jM aM vM_s RM.held RM.aside RM.before RM.isHeld RM.tape RM.taped RM.token RM.frm RM.to RM.value RM.isWrong RM.unpaired RM.bestSound RM.bestWay RM.rows RM.rowN RM.sortOf RM.sizeOf RM.numbers RM.holdsWhat RM.holdsWhich RM.holdsMany RM.bodies RM.ran RM.actKind RM.actN RM.actA RM.isParted) H → va_D A (wMo K jM aM vM_s RM.held RM.aside RM.before RM.isHeld RM.tape RM.taped RM.token RM.frm RM.to RM.value RM.isWrong RM.unpaired RM.bestSound RM.bestWay RM.rows RM.rowN RM.sortOf RM.sizeOf RM.numbers RM.holdsWhat RM.holdsWhich RM.holdsMany RM.bodies RM.ran RM.actKind RM.actN RM.actA RM.isParted) → va_S A s.heap H locs → lv_has ls 3 [(0, .ref jM), (1, .int x1)] → W p l e (headSpec wsX9_leave rmX9_leave).room s m ([.ref jM, .int p0] : List Value).toArray below meth c H locs 0 0 Q (F0 m 24 ls [.int t0]) := by
    intro x1 t0 vM_s H locs ls hf hP hD hS hl
    delta fX9_leave_b24 at hf
    refine lv_istore_n (lv' := [(2, .int t0), (0, .ref jM), (1, .int x1)]) hx hb dX9_leave_24 rfl hl (by decide) rfl (fun ls hl => ?_)
    refine lv_aload_n hx hb dX9_leave_25 rfl (lv_at hl 1 rfl) ?_
    refine lv_iload_n hx hb dX9_leave_26 rfl (lv_at hl 2 rfl) ?_
    obtain ⟨o_1, ho_1, hf⟩ := ht_bn_ob hf
    refine ht_callVv (rest := []) (As := [.int x1]) (wc := (wMo K jM aM vM_s RM.held RM.aside RM.before RM.isHeld RM.tape RM.taped RM.token RM.frm RM.to RM.value RM.isWrong RM.unpaired RM.bestSound RM.bestWay RM.rows RM.rowN RM.sortOf RM.sizeOf RM.numbers RM.holdsWhat RM.holdsWhich RM.holdsMany RM.bodies RM.ran RM.actKind RM.actN RM.actA RM.isParted)) (wr := []) (w1 := (wMo K jM aM o_1 RM.held RM.aside RM.before RM.isHeld RM.tape RM.taped RM.token RM.frm RM.to RM.value RM.isWrong RM.unpaired RM.bestSound RM.bestWay RM.rows RM.rowN RM.sortOf RM.sizeOf RM.numbers RM.holdsWhat RM.holdsWhich RM.holdsMany RM.bodies RM.ran RM.actKind RM.actN RM.actA RM.isParted)) (w2 := (wMo K jM aM o_1 RM.held RM.aside RM.before RM.isHeld RM.tape RM.taped RM.token RM.frm RM.to RM.value RM.isWrong RM.unpaired RM.bestSound RM.bestWay RM.rows RM.rowN RM.sortOf RM.sizeOf RM.numbers RM.holdsWhat RM.holdsWhich RM.holdsMany RM.bodies RM.ran RM.actKind RM.actN RM.actA RM.isParted)) hF (ctX9_leaves l D K jM aM (vM_s, RM.held, RM.aside, RM.before, RM.isHeld, RM.tape, RM.taped, RM.token, RM.frm, RM.to, RM.value, RM.isWrong, RM.unpaired, RM.bestSound, RM.bestWay, RM.rows, RM.rowN, RM.sortOf, RM.sizeOf, RM.numbers, RM.holdsWhat, RM.holdsWhich, RM.holdsMany, RM.bodies, RM.ran, RM.actKind, RM.actN, RM.actA, RM.isParted) x1 o_1 ho_1 H.size) (cwV 1 hts gX9_leave_X9_leaves rfl rfl rfl hdX9_leaves ⟨Nat.le_of_ble_eq_true rfl, Nat.le_of_ble_eq_true rfl⟩) hK hP hD hS hA [0, 1, 2, 3, 4, 5, 6, 7, 8, 9, 10, 11, 12, 13, 14, 15] [] rfl rfl (by decide) (by decide) (by decide) [0, 1, 2, 3, 4, 5, 6, 7, 8, 9, 10, 11, 12, 13, 14, 15] rfl (by decide) (va_recv hK hP (ci := 9) (q0 := 0) rfl rfl) rfl hl.1 rfl (Nat.le_of_ble_eq_true rfl) dX9_leave_27 ⟨Nat.zero_le _, Nat.zero_le _⟩ (fun H locs hP hD hS => ?_)
    refine lv_iload_n hx hb dX9_leave_30 rfl (lv_at hl 0 rfl) ?_
    refine lv_if_eq (tgt := 38) hx hb dX9_leave_31 (by decide) (fun c_2 => ?_) (fun c_2 => ?_)
    · replace hf := ht_t c_2 hf
      refine lv_iconst (v := 0) hx hb dX9_leave_38 (by decide) ?_
      have ho := Option.some.inj hf
      subst ho; subst hQ
      exact ht_iret hx hb hr hlk rfl hK hP hD hS dX9_leave_39
    · replace hf := ht_f c_2 hf
      refine lv_iconst (v := 1) hx hb dX9_leave_34 (by decide) ?_
      refine lv_goto (tgt := 39) hx hb dX9_leave_35 (by decide) ?_
      have ho := Option.some.inj hf
      subst ho; subst hQ
      exact ht_iret hx hb hr hlk rfl hK hP hD hS dX9_leave_39
  delta fX9_leave at hf
  refine lv_aload_n hx hb dX9_leave_0 rfl (lv_at hl 0 rfl) ?_
  refine lv_iload_n hx hb dX9_leave_1 rfl (lv_at hl 1 rfl) ?_
  obtain ⟨o_3, ho_3, hf⟩ := ht_bn_ob hf
  refine ht_callVi (r := o_3) (rest := []) (As := [.int p0]) (wc := (wMo K jM aM RM.s RM.held RM.aside RM.before RM.isHeld RM.tape RM.taped RM.token RM.frm RM.to RM.value RM.isWrong RM.unpaired RM.bestSound RM.bestWay RM.rows RM.rowN RM.sortOf RM.sizeOf RM.numbers RM.holdsWhat RM.holdsWhich RM.holdsMany RM.bodies RM.ran RM.actKind RM.actN RM.actA RM.isParted)) (wr := []) (w1 := (wMo K jM aM RM.s RM.held RM.aside RM.before RM.isHeld RM.tape RM.taped RM.token RM.frm RM.to RM.value RM.isWrong RM.unpaired RM.bestSound RM.bestWay RM.rows RM.rowN RM.sortOf RM.sizeOf RM.numbers RM.holdsWhat RM.holdsWhich RM.holdsMany RM.bodies RM.ran RM.actKind RM.actN RM.actA RM.isParted)) (w2 := (wMo K jM aM RM.s RM.held RM.aside RM.before RM.isHeld RM.tape RM.taped RM.token RM.frm RM.to RM.value RM.isWrong RM.unpaired RM.bestSound RM.bestWay RM.rows RM.rowN RM.sortOf RM.sizeOf RM.numbers RM.holdsWhat RM.holdsWhich RM.holdsMany RM.bodies RM.ran RM.actKind RM.actN RM.actA RM.isParted)) hF (ctX9_isOne l D K jM aM RM p0 o_3 ho_3 H.size) (cwV 1 hts gX9_leave_X9_isOne rfl rfl rfl hdX9_isOne ⟨Nat.le_of_ble_eq_true rfl, Nat.le_of_ble_eq_true rfl⟩) hK hP hD hS hA [0, 1, 2, 3, 4, 5, 6, 7, 8, 9, 10, 11, 12, 13, 14, 15] [] rfl rfl (by decide) (by decide) (by decide) [0, 1, 2, 3, 4, 5, 6, 7, 8, 9, 10, 11, 12, 13, 14, 15] rfl (by decide) (va_recv hK hP (ci := 9) (q0 := 0) rfl rfl) rfl hl.1 rfl (Nat.le_of_ble_eq_true rfl) dX9_leave_2 ⟨Nat.zero_le _, Nat.zero_le _⟩ (fun H locs hP hD hS => ?_)
  refine lv_if_ne (tgt := 10) hx hb dX9_leave_5 (by decide) (fun c_4 => ?_) (fun c_4 => ?_)
  · replace hf := ht_f c_4 hf
    refine lv_aload_n hx hb dX9_leave_10 rfl (lv_at hl 0 rfl) ?_
    refine lv_iload_n hx hb dX9_leave_11 rfl (lv_at hl 1 rfl) ?_
    refine lv_iconst (v := 4) hx hb dX9_leave_12 (by decide) ?_
    obtain ⟨o_5, ho_5, hf⟩ := ht_bn_ob hf
    refine ht_callVi (r := o_5) (rest := []) (As := [.int p0, .int (4 : Int32)]) (wc := (wMo K jM aM RM.s RM.held RM.aside RM.before RM.isHeld RM.tape RM.taped RM.token RM.frm RM.to RM.value RM.isWrong RM.unpaired RM.bestSound RM.bestWay RM.rows RM.rowN RM.sortOf RM.sizeOf RM.numbers RM.holdsWhat RM.holdsWhich RM.holdsMany RM.bodies RM.ran RM.actKind RM.actN RM.actA RM.isParted)) (wr := []) (w1 := (wMo K jM aM RM.s RM.held RM.aside RM.before RM.isHeld RM.tape RM.taped RM.token RM.frm RM.to RM.value RM.isWrong RM.unpaired RM.bestSound RM.bestWay RM.rows RM.rowN RM.sortOf RM.sizeOf RM.numbers RM.holdsWhat RM.holdsWhich RM.holdsMany RM.bodies RM.ran RM.actKind RM.actN RM.actA RM.isParted)) (w2 := (wMo K jM aM RM.s RM.held RM.aside RM.before RM.isHeld RM.tape RM.taped RM.token RM.frm RM.to RM.value RM.isWrong RM.unpaired RM.bestSound RM.bestWay RM.rows RM.rowN RM.sortOf RM.sizeOf RM.numbers RM.holdsWhat RM.holdsWhich RM.holdsMany RM.bodies RM.ran RM.actKind RM.actN RM.actA RM.isParted)) hF (ctX9_its l D K jM aM RM p0 (4 : Int32) o_5 ho_5 H.size) (cwV 2 hts gX9_leave_X9_its rfl rfl rfl hdX9_its ⟨Nat.le_of_ble_eq_true rfl, Nat.le_of_ble_eq_true rfl⟩) hK hP hD hS hA [0, 1, 2, 3, 4, 5, 6, 7, 8, 9, 10, 11, 12, 13, 14, 15] [] rfl rfl (by decide) (by decide) (by decide) [0, 1, 2, 3, 4, 5, 6, 7, 8, 9, 10, 11, 12, 13, 14, 15] rfl (by decide) (va_recv hK hP (ci := 9) (q0 := 0) rfl rfl) rfl hl.1 rfl (Nat.le_of_ble_eq_true rfl) dX9_leave_13 ⟨Nat.zero_le _, Nat.zero_le _⟩ (fun H locs hP hD hS => ?_)
    refine lv_if_le (tgt := 23) hx hb dX9_leave_16 (by decide) (fun c_6 => ?_) (fun c_6 => ?_)
    · replace hf := ht_t c_6 hf
      refine lv_iconst (v := 0) hx hb dX9_leave_23 (by decide) ?_
      exact b24  p0 (0 : Int32) RM.s _ _ _ hf hP hD hS hl
    · replace hf := ht_f c_6 hf
      refine lv_iconst (v := 1) hx hb dX9_leave_19 (by decide) ?_
      refine lv_goto (tgt := 24) hx hb dX9_leave_20 (by decide) ?_
      exact b24  p0 (1 : Int32) RM.s _ _ _ hf hP hD hS hl
  · replace hf := ht_t c_4 hf
    refine lv_iconst (v := -1) hx hb dX9_leave_8 (by decide) ?_
    have ho := Option.some.inj hf
    subst ho; subst hQ
    exact ht_iret hx hb hr hlk rfl hK hP hD hS dX9_leave_9
abbrev rmX9_spend : Room := { frames := 1, cells := 0, slots := 0, locals := 21 }
theorem hdX9_spend : yX9_spend.cls = RX9 ∧ yX9_spend.cls ≠ "java/lang/invoke/MethodHandle" ∧ yX9_spend.cls ≠ "java/lang/invoke/VarHandle" ∧ (parseMethodDescriptor yX9_spend.desc).map (fun d => d.parameters.length) = some 1 := by decide +kernel
def fX9_spend (RM : ModV) (p0 : Int32) : Option (Int32 × AI) := ht_bn (fX9_isOne RM p0) (fun o_1 => if o_1 = 0 then (some ((-1 : Int32), RM.s)) else (ht_nm ((9 : Int32) + ((6 : Int32) * p0)) (fun x2_3 => ht_gd (ht_ix (x2_3 + (2 : Int32)) 57) (ht_gd (ht_ix (x2_3 + (1 : Int32)) 57) (ht_bn (fX9_least (RM.s (x2_3 + (2 : Int32)).toNatClampNeg) ((99 : Int32) - (RM.s (x2_3 + (1 : Int32)).toNatClampNeg))) (fun o_6 => ht_gd (ht_ix (x2_3 + (2 : Int32)) 57) (ht_gd (ht_ix (x2_3 + (2 : Int32)) 57) (ht_nm (upd RM.s (x2_3 + (2 : Int32)).toNatClampNeg ((RM.s (x2_3 + (2 : Int32)).toNatClampNeg) - o_6)) (fun vM_s_9 => ht_gd (ht_ix (x2_3 + (1 : Int32)) 57) (ht_gd (ht_ix (x2_3 + (1 : Int32)) 57) (ht_nm (upd vM_s_9 (x2_3 + (1 : Int32)).toNatClampNeg ((vM_s_9 (x2_3 + (1 : Int32)).toNatClampNeg) + o_6)) (fun vM_s_12 => ht_gd (ht_ix (x2_3 + (1 : Int32)) 57) (some ((vM_s_12 (x2_3 + (1 : Int32)).toNatClampNeg), vM_s_12))))))))))))))
set_option maxHeartbeats 1000000 in
set_option maxRecDepth 100000 in
theorem ctX9_spend (l : Launch) (D : va_G) (K : Nat → ClassId) (jM : Nat) (aM : Nat → Nat) (RM : ModV) (p0 : Int32) (o : (Int32 × AI)) (hf : fX9_spend RM p0 = some o) (sz : Nat) : Met l yX9_spend wsX9_spend rmX9_spend (ht_Pre D K [.ref jM, .int p0] (wMo K jM aM RM.s RM.held RM.aside RM.before RM.isHeld RM.tape RM.taped RM.token RM.frm RM.to RM.value RM.isWrong RM.unpaired RM.bestSound RM.bestWay RM.rows RM.rowN RM.sortOf RM.sizeOf RM.numbers RM.holdsWhat RM.holdsWhich RM.holdsMany RM.bodies RM.ran RM.actKind RM.actN RM.actA RM.isParted) sz) (ht_Qi D K (wMo K jM aM o.2 RM.held RM.aside RM.before RM.isHeld RM.tape RM.taped RM.token RM.frm RM.to RM.value RM.isWrong RM.unpaired RM.bestSound RM.bestWay RM.rows RM.rowN RM.sortOf RM.sizeOf RM.numbers RM.holdsWhat RM.holdsWhich RM.holdsMany RM.bodies RM.ran RM.actKind RM.actN RM.actA RM.isParted) o.1 (va_A (wMo K jM aM RM.s RM.held RM.aside RM.before RM.isHeld RM.tape RM.taped RM.token RM.frm RM.to RM.value RM.isWrong RM.unpaired RM.bestSound RM.bestWay RM.rows RM.rowN RM.sortOf RM.sizeOf RM.numbers RM.holdsWhat RM.holdsWhich RM.holdsMany RM.bodies RM.ran RM.actKind RM.actN RM.actA RM.isParted) sz)) 0 0 (va_A (wMo K jM aM RM.s RM.held RM.aside RM.before RM.isHeld RM.tape RM.taped RM.token RM.frm RM.to RM.value RM.isWrong RM.unpaired RM.bestSound RM.bestWay RM.rows RM.rowN RM.sortOf RM.sizeOf RM.numbers RM.holdsWhat RM.holdsWhich RM.holdsMany RM.bodies RM.ran RM.actKind RM.actN RM.actA RM.isParted) sz) := by
  refine ht_enter (Qf := ht_Qi D K (wMo K jM aM o.2 RM.held RM.aside RM.before RM.isHeld RM.tape RM.taped RM.token RM.frm RM.to RM.value RM.isWrong RM.unpaired RM.bestSound RM.bestWay RM.rows RM.rowN RM.sortOf RM.sizeOf RM.numbers RM.holdsWhat RM.holdsWhich RM.holdsMany RM.bodies RM.ran RM.actKind RM.actN RM.actA RM.isParted) o.1) (cc := cX9_spend) (maxL := 4) (rt := (some .int)) (by decide) rfl (Nat.le_of_ble_eq_true rfl) ?_ sz
  intro p e s m below meth c A Q H locs ls hQ hx hb hr hlk hmn hml hown hts hA hK hP hD hS hl
  have hown : s.vm.findClass RX9 = some m.cls := hown
  have hF : CallFix p m c cX9_spend 4 s ([.ref jM, .int p0] : List Value).toArray wsX9_spend RX9 := ⟨hx, hb, hml, hown, hts⟩
  have hl : lv_has ls 4 [(0, .ref jM), (1, .int p0)] := hl
  have iw9 : ∀ w ∈ u_ws RX9 TX9 29, w ∈ wsX9_spend := by decide +kernel
  have kw1 := hts (.fieldLink RX9 7 "HeldTonguesModel" "s" "[I") (by decide +kernel)
  delta fX9_spend at hf
  refine lv_aload_n hx hb dX9_spend_0 rfl (lv_at hl 0 rfl) ?_
  refine lv_iload_n hx hb dX9_spend_1 rfl (lv_at hl 1 rfl) ?_
  obtain ⟨o_1, ho_1, hf⟩ := ht_bn_ob hf
  refine ht_callVi (r := o_1) (rest := []) (As := [.int p0]) (wc := (wMo K jM aM RM.s RM.held RM.aside RM.before RM.isHeld RM.tape RM.taped RM.token RM.frm RM.to RM.value RM.isWrong RM.unpaired RM.bestSound RM.bestWay RM.rows RM.rowN RM.sortOf RM.sizeOf RM.numbers RM.holdsWhat RM.holdsWhich RM.holdsMany RM.bodies RM.ran RM.actKind RM.actN RM.actA RM.isParted)) (wr := []) (w1 := (wMo K jM aM RM.s RM.held RM.aside RM.before RM.isHeld RM.tape RM.taped RM.token RM.frm RM.to RM.value RM.isWrong RM.unpaired RM.bestSound RM.bestWay RM.rows RM.rowN RM.sortOf RM.sizeOf RM.numbers RM.holdsWhat RM.holdsWhich RM.holdsMany RM.bodies RM.ran RM.actKind RM.actN RM.actA RM.isParted)) (w2 := (wMo K jM aM RM.s RM.held RM.aside RM.before RM.isHeld RM.tape RM.taped RM.token RM.frm RM.to RM.value RM.isWrong RM.unpaired RM.bestSound RM.bestWay RM.rows RM.rowN RM.sortOf RM.sizeOf RM.numbers RM.holdsWhat RM.holdsWhich RM.holdsMany RM.bodies RM.ran RM.actKind RM.actN RM.actA RM.isParted)) hF (ctX9_isOne l D K jM aM RM p0 o_1 ho_1 H.size) (cwV 1 hts gX9_spend_X9_isOne rfl rfl rfl hdX9_isOne ⟨Nat.le_of_ble_eq_true rfl, Nat.le_of_ble_eq_true rfl⟩) hK hP hD hS hA [0, 1, 2, 3, 4, 5, 6, 7, 8, 9, 10, 11, 12, 13, 14, 15] [] rfl rfl (by decide) (by decide) (by decide) [0, 1, 2, 3, 4, 5, 6, 7, 8, 9, 10, 11, 12, 13, 14, 15] rfl (by decide) (va_recv hK hP (ci := 9) (q0 := 0) rfl rfl) rfl hl.1 rfl (Nat.le_of_ble_eq_true rfl) dX9_spend_2 ⟨Nat.zero_le _, Nat.zero_le _⟩ (fun H locs hP hD hS => ?_)
  refine lv_if_ne (tgt := 10) hx hb dX9_spend_5 (by decide) (fun c_2 => ?_) (fun c_2 => ?_)
  · replace hf := ht_f c_2 hf
    refine lv_bipush (v := 9) hx hb dX9_spend_10 (by decide) ?_
    refine lv_bipush (v := 6) hx hb dX9_spend_12 (by decide) ?_
    refine lv_iload_n hx hb dX9_spend_14 rfl (lv_at hl 1 rfl) ?_
    refine lv_imul hx hb dX9_spend_15 ?_
    refine lv_iadd hx hb dX9_spend_16 ?_
    obtain ⟨x2_3, ex2_3, hf⟩ := ht_nm_ob hf
    rw [← ex2_3]
    refine lv_istore_n (lv' := [(2, .int x2_3), (0, .ref jM), (1, .int p0)]) hx hb dX9_spend_17 rfl hl (by decide) rfl (fun ls hl => ?_)
    refine lv_aload_n hx hb dX9_spend_18 rfl (lv_at hl 1 rfl) ?_
    refine va_get (D := D) (ci := 9) (v := .ref (aM 0)) (C := RX9) (T := TX9) (N := 29) hx hb hts iw9 hown hK hP 0 rfl rfl 0 (by decide) kw1 (fun _ h9 => h9) rfl dX9_spend_19 ?_
    refine lv_iload_n hx hb dX9_spend_22 rfl (lv_at hl 0 rfl) ?_
    refine lv_iconst (v := 2) hx hb dX9_spend_23 (by decide) ?_
    refine lv_iadd hx hb dX9_spend_24 ?_
    obtain ⟨g_4, hf⟩ := ht_gd_ob hf
    refine va_iald hx hb hK hP 1 1 rfl rfl (ht_ix_in g_4) dX9_spend_25 ?_
    refine lv_bipush (v := 99) hx hb dX9_spend_26 (by decide) ?_
    refine lv_aload_n hx hb dX9_spend_28 rfl (lv_at hl 1 rfl) ?_
    refine va_get (D := D) (ci := 9) (v := .ref (aM 0)) (C := RX9) (T := TX9) (N := 29) hx hb hts iw9 hown hK hP 0 rfl rfl 0 (by decide) kw1 (fun _ h9 => h9) rfl dX9_spend_29 ?_
    refine lv_iload_n hx hb dX9_spend_32 rfl (lv_at hl 0 rfl) ?_
    refine lv_iconst (v := 1) hx hb dX9_spend_33 (by decide) ?_
    refine lv_iadd hx hb dX9_spend_34 ?_
    obtain ⟨g_5, hf⟩ := ht_gd_ob hf
    refine va_iald hx hb hK hP 1 1 rfl rfl (ht_ix_in g_5) dX9_spend_35 ?_
    refine lv_isub hx hb dX9_spend_36 ?_
    obtain ⟨o_6, ho_6, hf⟩ := ht_bn_ob hf
    refine ht_callSi (r := o_6) (rest := []) (As := [.int (RM.s (x2_3 + (2 : Int32)).toNatClampNeg), .int ((99 : Int32) - (RM.s (x2_3 + (1 : Int32)).toNatClampNeg))]) (wc := []) (wr := (wMo K jM aM RM.s RM.held RM.aside RM.before RM.isHeld RM.tape RM.taped RM.token RM.frm RM.to RM.value RM.isWrong RM.unpaired RM.bestSound RM.bestWay RM.rows RM.rowN RM.sortOf RM.sizeOf RM.numbers RM.holdsWhat RM.holdsWhich RM.holdsMany RM.bodies RM.ran RM.actKind RM.actN RM.actA RM.isParted)) (w1 := []) (w2 := (wMo K jM aM RM.s RM.held RM.aside RM.before RM.isHeld RM.tape RM.taped RM.token RM.frm RM.to RM.value RM.isWrong RM.unpaired RM.bestSound RM.bestWay RM.rows RM.rowN RM.sortOf RM.sizeOf RM.numbers RM.holdsWhat RM.holdsWhich RM.holdsMany RM.bodies RM.ran RM.actKind RM.actN RM.actA RM.isParted)) hF (ctX9_least l D K (RM.s (x2_3 + (2 : Int32)).toNatClampNeg) ((99 : Int32) - (RM.s (x2_3 + (1 : Int32)).toNatClampNeg)) o_6 ho_6 H.size) (va_cwS 2 hts gX9_spend_X9_least rfl rfl rfl hdX9_least ⟨Nat.le_of_ble_eq_true rfl, Nat.le_of_ble_eq_true rfl⟩) hK hP hD hS hA [] [0, 1, 2, 3, 4, 5, 6, 7, 8, 9, 10, 11, 12, 13, 14, 15] rfl rfl (by decide) (by decide) (by decide) [0, 1, 2, 3, 4, 5, 6, 7, 8, 9, 10, 11, 12, 13, 14, 15] rfl (by decide) rfl hl.1 rfl (Nat.le_of_ble_eq_true rfl) dX9_spend_37 ⟨Nat.zero_le _, Nat.zero_le _⟩ (fun H locs hP hD hS => ?_)
    refine lv_istore_n (lv' := [(3, .int o_6), (2, .int x2_3), (0, .ref jM), (1, .int p0)]) hx hb dX9_spend_40 rfl hl (by decide) rfl (fun ls hl => ?_)
    refine lv_aload_n hx hb dX9_spend_41 rfl (lv_at hl 2 rfl) ?_
    refine va_get (D := D) (ci := 9) (v := .ref (aM 0)) (C := RX9) (T := TX9) (N := 29) hx hb hts iw9 hown hK hP 0 rfl rfl 0 (by decide) kw1 (fun _ h9 => h9) rfl dX9_spend_42 ?_
    refine lv_iload_n hx hb dX9_spend_45 rfl (lv_at hl 1 rfl) ?_
    refine lv_iconst (v := 2) hx hb dX9_spend_46 (by decide) ?_
    refine lv_iadd hx hb dX9_spend_47 ?_
    refine lv_dup2_11 hx hb dX9_spend_48 rfl rfl ?_
    obtain ⟨g_7, hf⟩ := ht_gd_ob hf
    refine va_iald hx hb hK hP 1 1 rfl rfl (ht_ix_in g_7) dX9_spend_49 ?_
    refine lv_iload_n hx hb dX9_spend_50 rfl (lv_at hl 0 rfl) ?_
    refine lv_isub hx hb dX9_spend_51 ?_
    obtain ⟨g_8, hf⟩ := ht_gd_ob hf
    obtain ⟨vM_s_9, evM_s_9, hf⟩ := ht_nm_ob hf
    refine ht_iast (w2 := (wMo K jM aM vM_s_9 RM.held RM.aside RM.before RM.isHeld RM.tape RM.taped RM.token RM.frm RM.to RM.value RM.isWrong RM.unpaired RM.bestSound RM.bestWay RM.rows RM.rowN RM.sortOf RM.sizeOf RM.numbers RM.holdsWhat RM.holdsWhich RM.holdsMany RM.bodies RM.ran RM.actKind RM.actN RM.actA RM.isParted)) hx hb hK hP hD hS 1 1 rfl rfl g_8 dX9_spend_52 evM_s_9 rfl (fun H locs hP hD hS => ?_)
    refine lv_aload_n hx hb dX9_spend_53 rfl (lv_at hl 2 rfl) ?_
    refine va_get (D := D) (ci := 9) (v := .ref (aM 0)) (C := RX9) (T := TX9) (N := 29) hx hb hts iw9 hown hK hP 0 rfl rfl 0 (by decide) kw1 (fun _ h9 => h9) rfl dX9_spend_54 ?_
    refine lv_iload_n hx hb dX9_spend_57 rfl (lv_at hl 1 rfl) ?_
    refine lv_iconst (v := 1) hx hb dX9_spend_58 (by decide) ?_
    refine lv_iadd hx hb dX9_spend_59 ?_
    refine lv_dup2_11 hx hb dX9_spend_60 rfl rfl ?_
    obtain ⟨g_10, hf⟩ := ht_gd_ob hf
    refine va_iald hx hb hK hP 1 1 rfl rfl (ht_ix_in g_10) dX9_spend_61 ?_
    refine lv_iload_n hx hb dX9_spend_62 rfl (lv_at hl 0 rfl) ?_
    refine lv_iadd hx hb dX9_spend_63 ?_
    obtain ⟨g_11, hf⟩ := ht_gd_ob hf
    obtain ⟨vM_s_12, evM_s_12, hf⟩ := ht_nm_ob hf
    refine ht_iast (w2 := (wMo K jM aM vM_s_12 RM.held RM.aside RM.before RM.isHeld RM.tape RM.taped RM.token RM.frm RM.to RM.value RM.isWrong RM.unpaired RM.bestSound RM.bestWay RM.rows RM.rowN RM.sortOf RM.sizeOf RM.numbers RM.holdsWhat RM.holdsWhich RM.holdsMany RM.bodies RM.ran RM.actKind RM.actN RM.actA RM.isParted)) hx hb hK hP hD hS 1 1 rfl rfl g_11 dX9_spend_64 evM_s_12 rfl (fun H locs hP hD hS => ?_)
    refine lv_aload_n hx hb dX9_spend_65 rfl (lv_at hl 2 rfl) ?_
    refine va_get (D := D) (ci := 9) (v := .ref (aM 0)) (C := RX9) (T := TX9) (N := 29) hx hb hts iw9 hown hK hP 0 rfl rfl 0 (by decide) kw1 (fun _ h9 => h9) rfl dX9_spend_66 ?_
    refine lv_iload_n hx hb dX9_spend_69 rfl (lv_at hl 1 rfl) ?_
    refine lv_iconst (v := 1) hx hb dX9_spend_70 (by decide) ?_
    refine lv_iadd hx hb dX9_spend_71 ?_
    obtain ⟨g_13, hf⟩ := ht_gd_ob hf
    refine va_iald hx hb hK hP 1 1 rfl rfl (ht_ix_in g_13) dX9_spend_72 ?_
    have ho := Option.some.inj hf
    subst ho; subst hQ
    exact ht_iret hx hb hr hlk rfl hK hP hD hS dX9_spend_73
  · replace hf := ht_t c_2 hf
    refine lv_iconst (v := -1) hx hb dX9_spend_8 (by decide) ?_
    have ho := Option.some.inj hf
    subst ho; subst hQ
    exact ht_iret hx hb hr hlk rfl hK hP hD hS dX9_spend_9
abbrev rmX9_growsNow : Room := { frames := 2, cells := 0, slots := 0, locals := 44 }
theorem hdX9_growsNow : yX9_growsNow.cls = RX9 ∧ yX9_growsNow.cls ≠ "java/lang/invoke/MethodHandle" ∧ yX9_growsNow.cls ≠ "java/lang/invoke/VarHandle" ∧ (parseMethodDescriptor yX9_growsNow.desc).map (fun d => d.parameters.length) = some 1 := by decide +kernel
def fX9_growsNow (RM : ModV) (p0 : Int32) : Option AI := ht_nm (((9 : Int32) + ((6 : Int32) * p0)) + (1 : Int32)) (fun x2_1 => ht_gd (ht_ix x2_1 57) (ht_bn (fX9_growsOf RM p0) (fun o_3 => ht_bn (fX9_greatest (0 : Int32) ((RM.s x2_1.toNatClampNeg) + o_3)) (fun o_4 => ht_bn (fX9_least (99 : Int32) o_4) (fun o_5 => ht_gd (ht_ix x2_1 57) (ht_nm (upd RM.s x2_1.toNatClampNeg o_5) (fun vM_s_7 => ht_gd (ht_ix (4 : Int32) 57) (ht_gd (ht_ix x2_1 57) (ht_bn (fX9_least (99999 : Int32) (((vM_s_7 (4 : Int32).toNatClampNeg) + o_4) - (vM_s_7 x2_1.toNatClampNeg))) (fun o_10 => ht_gd (ht_ix (4 : Int32) 57) (ht_nm (upd vM_s_7 (4 : Int32).toNatClampNeg o_10) (fun vM_s_12 => some vM_s_12))))))))))))
set_option maxHeartbeats 1000000 in
set_option maxRecDepth 100000 in
theorem ctX9_growsNow (l : Launch) (D : va_G) (K : Nat → ClassId) (jM : Nat) (aM : Nat → Nat) (RM : ModV) (p0 : Int32) (o : AI) (hf : fX9_growsNow RM p0 = some o) (sz : Nat) : Met l yX9_growsNow wsX9_growsNow rmX9_growsNow (ht_Pre D K [.ref jM, .int p0] (wMo K jM aM RM.s RM.held RM.aside RM.before RM.isHeld RM.tape RM.taped RM.token RM.frm RM.to RM.value RM.isWrong RM.unpaired RM.bestSound RM.bestWay RM.rows RM.rowN RM.sortOf RM.sizeOf RM.numbers RM.holdsWhat RM.holdsWhich RM.holdsMany RM.bodies RM.ran RM.actKind RM.actN RM.actA RM.isParted) sz) (ht_Qv D K (wMo K jM aM o RM.held RM.aside RM.before RM.isHeld RM.tape RM.taped RM.token RM.frm RM.to RM.value RM.isWrong RM.unpaired RM.bestSound RM.bestWay RM.rows RM.rowN RM.sortOf RM.sizeOf RM.numbers RM.holdsWhat RM.holdsWhich RM.holdsMany RM.bodies RM.ran RM.actKind RM.actN RM.actA RM.isParted) (va_A (wMo K jM aM RM.s RM.held RM.aside RM.before RM.isHeld RM.tape RM.taped RM.token RM.frm RM.to RM.value RM.isWrong RM.unpaired RM.bestSound RM.bestWay RM.rows RM.rowN RM.sortOf RM.sizeOf RM.numbers RM.holdsWhat RM.holdsWhich RM.holdsMany RM.bodies RM.ran RM.actKind RM.actN RM.actA RM.isParted) sz)) 0 0 (va_A (wMo K jM aM RM.s RM.held RM.aside RM.before RM.isHeld RM.tape RM.taped RM.token RM.frm RM.to RM.value RM.isWrong RM.unpaired RM.bestSound RM.bestWay RM.rows RM.rowN RM.sortOf RM.sizeOf RM.numbers RM.holdsWhat RM.holdsWhich RM.holdsMany RM.bodies RM.ran RM.actKind RM.actN RM.actA RM.isParted) sz) := by
  refine ht_enter (Qf := ht_Qv D K (wMo K jM aM o RM.held RM.aside RM.before RM.isHeld RM.tape RM.taped RM.token RM.frm RM.to RM.value RM.isWrong RM.unpaired RM.bestSound RM.bestWay RM.rows RM.rowN RM.sortOf RM.sizeOf RM.numbers RM.holdsWhat RM.holdsWhich RM.holdsMany RM.bodies RM.ran RM.actKind RM.actN RM.actA RM.isParted)) (cc := cX9_growsNow) (maxL := 4) (rt := none) (by decide) rfl (Nat.le_of_ble_eq_true rfl) ?_ sz
  intro p e s m below meth c A Q H locs ls hQ hx hb hr hlk hmn hml hown hts hA hK hP hD hS hl
  have hown : s.vm.findClass RX9 = some m.cls := hown
  have hF : CallFix p m c cX9_growsNow 4 s ([.ref jM, .int p0] : List Value).toArray wsX9_growsNow RX9 := ⟨hx, hb, hml, hown, hts⟩
  have hl : lv_has ls 4 [(0, .ref jM), (1, .int p0)] := hl
  have iw9 : ∀ w ∈ u_ws RX9 TX9 29, w ∈ wsX9_growsNow := by decide +kernel
  have kw1 := hts (.fieldLink RX9 7 "HeldTonguesModel" "s" "[I") (by decide +kernel)
  have kw2 := hts (.constant RX9 195 (99999)) (by decide +kernel)
  delta fX9_growsNow at hf
  refine lv_bipush (v := 9) hx hb dX9_growsNow_0 (by decide) ?_
  refine lv_bipush (v := 6) hx hb dX9_growsNow_2 (by decide) ?_
  refine lv_iload_n hx hb dX9_growsNow_4 rfl (lv_at hl 1 rfl) ?_
  refine lv_imul hx hb dX9_growsNow_5 ?_
  refine lv_iadd hx hb dX9_growsNow_6 ?_
  refine lv_iconst (v := 1) hx hb dX9_growsNow_7 (by decide) ?_
  refine lv_iadd hx hb dX9_growsNow_8 ?_
  obtain ⟨x2_1, ex2_1, hf⟩ := ht_nm_ob hf
  rw [← ex2_1]
  refine lv_istore_n (lv' := [(2, .int x2_1), (0, .ref jM), (1, .int p0)]) hx hb dX9_growsNow_9 rfl hl (by decide) rfl (fun ls hl => ?_)
  refine lv_iconst (v := 0) hx hb dX9_growsNow_10 (by decide) ?_
  refine lv_aload_n hx hb dX9_growsNow_11 rfl (lv_at hl 1 rfl) ?_
  refine va_get (D := D) (ci := 9) (v := .ref (aM 0)) (C := RX9) (T := TX9) (N := 29) hx hb hts iw9 hown hK hP 0 rfl rfl 0 (by decide) kw1 (fun _ h9 => h9) rfl dX9_growsNow_12 ?_
  refine lv_iload_n hx hb dX9_growsNow_15 rfl (lv_at hl 0 rfl) ?_
  obtain ⟨g_2, hf⟩ := ht_gd_ob hf
  refine va_iald hx hb hK hP 1 1 rfl rfl (ht_ix_in g_2) dX9_growsNow_16 ?_
  refine lv_aload_n hx hb dX9_growsNow_17 rfl (lv_at hl 1 rfl) ?_
  refine lv_iload_n hx hb dX9_growsNow_18 rfl (lv_at hl 2 rfl) ?_
  obtain ⟨o_3, ho_3, hf⟩ := ht_bn_ob hf
  refine ht_callVi (r := o_3) (rest := [.int (RM.s x2_1.toNatClampNeg), .int (0 : Int32)]) (As := [.int p0]) (wc := (wMo K jM aM RM.s RM.held RM.aside RM.before RM.isHeld RM.tape RM.taped RM.token RM.frm RM.to RM.value RM.isWrong RM.unpaired RM.bestSound RM.bestWay RM.rows RM.rowN RM.sortOf RM.sizeOf RM.numbers RM.holdsWhat RM.holdsWhich RM.holdsMany RM.bodies RM.ran RM.actKind RM.actN RM.actA RM.isParted)) (wr := []) (w1 := (wMo K jM aM RM.s RM.held RM.aside RM.before RM.isHeld RM.tape RM.taped RM.token RM.frm RM.to RM.value RM.isWrong RM.unpaired RM.bestSound RM.bestWay RM.rows RM.rowN RM.sortOf RM.sizeOf RM.numbers RM.holdsWhat RM.holdsWhich RM.holdsMany RM.bodies RM.ran RM.actKind RM.actN RM.actA RM.isParted)) (w2 := (wMo K jM aM RM.s RM.held RM.aside RM.before RM.isHeld RM.tape RM.taped RM.token RM.frm RM.to RM.value RM.isWrong RM.unpaired RM.bestSound RM.bestWay RM.rows RM.rowN RM.sortOf RM.sizeOf RM.numbers RM.holdsWhat RM.holdsWhich RM.holdsMany RM.bodies RM.ran RM.actKind RM.actN RM.actA RM.isParted)) hF (ctX9_growsOf l D K jM aM RM p0 o_3 ho_3 H.size) (cwV 1 hts gX9_growsNow_X9_growsOf rfl rfl rfl hdX9_growsOf ⟨Nat.le_of_ble_eq_true rfl, Nat.le_of_ble_eq_true rfl⟩) hK hP hD hS hA [0, 1, 2, 3, 4, 5, 6, 7, 8, 9, 10, 11, 12, 13, 14, 15] [] rfl rfl (by decide) (by decide) (by decide) [0, 1, 2, 3, 4, 5, 6, 7, 8, 9, 10, 11, 12, 13, 14, 15] rfl (by decide) (va_recv hK hP (ci := 9) (q0 := 0) rfl rfl) rfl hl.1 rfl (Nat.le_of_ble_eq_true rfl) dX9_growsNow_19 ⟨Nat.zero_le _, Nat.zero_le _⟩ (fun H locs hP hD hS => ?_)
  refine lv_iadd hx hb dX9_growsNow_22 ?_
  obtain ⟨o_4, ho_4, hf⟩ := ht_bn_ob hf
  refine ht_callSi (r := o_4) (rest := []) (As := [.int (0 : Int32), .int ((RM.s x2_1.toNatClampNeg) + o_3)]) (wc := []) (wr := (wMo K jM aM RM.s RM.held RM.aside RM.before RM.isHeld RM.tape RM.taped RM.token RM.frm RM.to RM.value RM.isWrong RM.unpaired RM.bestSound RM.bestWay RM.rows RM.rowN RM.sortOf RM.sizeOf RM.numbers RM.holdsWhat RM.holdsWhich RM.holdsMany RM.bodies RM.ran RM.actKind RM.actN RM.actA RM.isParted)) (w1 := []) (w2 := (wMo K jM aM RM.s RM.held RM.aside RM.before RM.isHeld RM.tape RM.taped RM.token RM.frm RM.to RM.value RM.isWrong RM.unpaired RM.bestSound RM.bestWay RM.rows RM.rowN RM.sortOf RM.sizeOf RM.numbers RM.holdsWhat RM.holdsWhich RM.holdsMany RM.bodies RM.ran RM.actKind RM.actN RM.actA RM.isParted)) hF (ctX9_greatest l D K (0 : Int32) ((RM.s x2_1.toNatClampNeg) + o_3) o_4 ho_4 H.size) (va_cwS 2 hts gX9_growsNow_X9_greatest rfl rfl rfl hdX9_greatest ⟨Nat.le_of_ble_eq_true rfl, Nat.le_of_ble_eq_true rfl⟩) hK hP hD hS hA [] [0, 1, 2, 3, 4, 5, 6, 7, 8, 9, 10, 11, 12, 13, 14, 15] rfl rfl (by decide) (by decide) (by decide) [0, 1, 2, 3, 4, 5, 6, 7, 8, 9, 10, 11, 12, 13, 14, 15] rfl (by decide) rfl hl.1 rfl (Nat.le_of_ble_eq_true rfl) dX9_growsNow_23 ⟨Nat.zero_le _, Nat.zero_le _⟩ (fun H locs hP hD hS => ?_)
  refine lv_istore_n (lv' := [(3, .int o_4), (2, .int x2_1), (0, .ref jM), (1, .int p0)]) hx hb dX9_growsNow_26 rfl hl (by decide) rfl (fun ls hl => ?_)
  refine lv_aload_n hx hb dX9_growsNow_27 rfl (lv_at hl 2 rfl) ?_
  refine va_get (D := D) (ci := 9) (v := .ref (aM 0)) (C := RX9) (T := TX9) (N := 29) hx hb hts iw9 hown hK hP 0 rfl rfl 0 (by decide) kw1 (fun _ h9 => h9) rfl dX9_growsNow_28 ?_
  refine lv_iload_n hx hb dX9_growsNow_31 rfl (lv_at hl 1 rfl) ?_
  refine lv_bipush (v := 99) hx hb dX9_growsNow_32 (by decide) ?_
  refine lv_iload_n hx hb dX9_growsNow_34 rfl (lv_at hl 0 rfl) ?_
  obtain ⟨o_5, ho_5, hf⟩ := ht_bn_ob hf
  refine ht_callSi (r := o_5) (rest := [.int x2_1, .ref (aM 0)]) (As := [.int (99 : Int32), .int o_4]) (wc := []) (wr := (wMo K jM aM RM.s RM.held RM.aside RM.before RM.isHeld RM.tape RM.taped RM.token RM.frm RM.to RM.value RM.isWrong RM.unpaired RM.bestSound RM.bestWay RM.rows RM.rowN RM.sortOf RM.sizeOf RM.numbers RM.holdsWhat RM.holdsWhich RM.holdsMany RM.bodies RM.ran RM.actKind RM.actN RM.actA RM.isParted)) (w1 := []) (w2 := (wMo K jM aM RM.s RM.held RM.aside RM.before RM.isHeld RM.tape RM.taped RM.token RM.frm RM.to RM.value RM.isWrong RM.unpaired RM.bestSound RM.bestWay RM.rows RM.rowN RM.sortOf RM.sizeOf RM.numbers RM.holdsWhat RM.holdsWhich RM.holdsMany RM.bodies RM.ran RM.actKind RM.actN RM.actA RM.isParted)) hF (ctX9_least l D K (99 : Int32) o_4 o_5 ho_5 H.size) (va_cwS 2 hts gX9_growsNow_X9_least rfl rfl rfl hdX9_least ⟨Nat.le_of_ble_eq_true rfl, Nat.le_of_ble_eq_true rfl⟩) hK hP hD hS hA [] [0, 1, 2, 3, 4, 5, 6, 7, 8, 9, 10, 11, 12, 13, 14, 15] rfl rfl (by decide) (by decide) (by decide) [0, 1, 2, 3, 4, 5, 6, 7, 8, 9, 10, 11, 12, 13, 14, 15] rfl (by decide) rfl hl.1 rfl (Nat.le_of_ble_eq_true rfl) dX9_growsNow_35 ⟨Nat.zero_le _, Nat.zero_le _⟩ (fun H locs hP hD hS => ?_)
  obtain ⟨g_6, hf⟩ := ht_gd_ob hf
  obtain ⟨vM_s_7, evM_s_7, hf⟩ := ht_nm_ob hf
  refine ht_iast (w2 := (wMo K jM aM vM_s_7 RM.held RM.aside RM.before RM.isHeld RM.tape RM.taped RM.token RM.frm RM.to RM.value RM.isWrong RM.unpaired RM.bestSound RM.bestWay RM.rows RM.rowN RM.sortOf RM.sizeOf RM.numbers RM.holdsWhat RM.holdsWhich RM.holdsMany RM.bodies RM.ran RM.actKind RM.actN RM.actA RM.isParted)) hx hb hK hP hD hS 1 1 rfl rfl g_6 dX9_growsNow_38 evM_s_7 rfl (fun H locs hP hD hS => ?_)
  refine lv_aload_n hx hb dX9_growsNow_39 rfl (lv_at hl 2 rfl) ?_
  refine va_get (D := D) (ci := 9) (v := .ref (aM 0)) (C := RX9) (T := TX9) (N := 29) hx hb hts iw9 hown hK hP 0 rfl rfl 0 (by decide) kw1 (fun _ h9 => h9) rfl dX9_growsNow_40 ?_
  refine lv_iconst (v := 4) hx hb dX9_growsNow_43 (by decide) ?_
  refine lv_ldc hx hb hown kw2 dX9_growsNow_44 ?_
  refine lv_aload_n hx hb dX9_growsNow_46 rfl (lv_at hl 2 rfl) ?_
  refine va_get (D := D) (ci := 9) (v := .ref (aM 0)) (C := RX9) (T := TX9) (N := 29) hx hb hts iw9 hown hK hP 0 rfl rfl 0 (by decide) kw1 (fun _ h9 => h9) rfl dX9_growsNow_47 ?_
  refine lv_iconst (v := 4) hx hb dX9_growsNow_50 (by decide) ?_
  obtain ⟨g_8, hf⟩ := ht_gd_ob hf
  refine va_iald hx hb hK hP 1 1 rfl rfl (ht_ix_in g_8) dX9_growsNow_51 ?_
  refine lv_iload_n hx hb dX9_growsNow_52 rfl (lv_at hl 0 rfl) ?_
  refine lv_iadd hx hb dX9_growsNow_53 ?_
  refine lv_aload_n hx hb dX9_growsNow_54 rfl (lv_at hl 2 rfl) ?_
  refine va_get (D := D) (ci := 9) (v := .ref (aM 0)) (C := RX9) (T := TX9) (N := 29) hx hb hts iw9 hown hK hP 0 rfl rfl 0 (by decide) kw1 (fun _ h9 => h9) rfl dX9_growsNow_55 ?_
  refine lv_iload_n hx hb dX9_growsNow_58 rfl (lv_at hl 1 rfl) ?_
  obtain ⟨g_9, hf⟩ := ht_gd_ob hf
  refine va_iald hx hb hK hP 1 1 rfl rfl (ht_ix_in g_9) dX9_growsNow_59 ?_
  refine lv_isub hx hb dX9_growsNow_60 ?_
  obtain ⟨o_10, ho_10, hf⟩ := ht_bn_ob hf
  refine ht_callSi (r := o_10) (rest := [.int (4 : Int32), .ref (aM 0)]) (As := [.int (99999 : Int32), .int (((vM_s_7 (4 : Int32).toNatClampNeg) + o_4) - (vM_s_7 x2_1.toNatClampNeg))]) (wc := []) (wr := (wMo K jM aM vM_s_7 RM.held RM.aside RM.before RM.isHeld RM.tape RM.taped RM.token RM.frm RM.to RM.value RM.isWrong RM.unpaired RM.bestSound RM.bestWay RM.rows RM.rowN RM.sortOf RM.sizeOf RM.numbers RM.holdsWhat RM.holdsWhich RM.holdsMany RM.bodies RM.ran RM.actKind RM.actN RM.actA RM.isParted)) (w1 := []) (w2 := (wMo K jM aM vM_s_7 RM.held RM.aside RM.before RM.isHeld RM.tape RM.taped RM.token RM.frm RM.to RM.value RM.isWrong RM.unpaired RM.bestSound RM.bestWay RM.rows RM.rowN RM.sortOf RM.sizeOf RM.numbers RM.holdsWhat RM.holdsWhich RM.holdsMany RM.bodies RM.ran RM.actKind RM.actN RM.actA RM.isParted)) hF (ctX9_least l D K (99999 : Int32) (((vM_s_7 (4 : Int32).toNatClampNeg) + o_4) - (vM_s_7 x2_1.toNatClampNeg)) o_10 ho_10 H.size) (va_cwS 2 hts gX9_growsNow_X9_least rfl rfl rfl hdX9_least ⟨Nat.le_of_ble_eq_true rfl, Nat.le_of_ble_eq_true rfl⟩) hK hP hD hS hA [] [0, 1, 2, 3, 4, 5, 6, 7, 8, 9, 10, 11, 12, 13, 14, 15] rfl rfl (by decide) (by decide) (by decide) [0, 1, 2, 3, 4, 5, 6, 7, 8, 9, 10, 11, 12, 13, 14, 15] rfl (by decide) rfl hl.1 rfl (Nat.le_of_ble_eq_true rfl) dX9_growsNow_61 ⟨Nat.zero_le _, Nat.zero_le _⟩ (fun H locs hP hD hS => ?_)
  obtain ⟨g_11, hf⟩ := ht_gd_ob hf
  obtain ⟨vM_s_12, evM_s_12, hf⟩ := ht_nm_ob hf
  refine ht_iast (w2 := (wMo K jM aM vM_s_12 RM.held RM.aside RM.before RM.isHeld RM.tape RM.taped RM.token RM.frm RM.to RM.value RM.isWrong RM.unpaired RM.bestSound RM.bestWay RM.rows RM.rowN RM.sortOf RM.sizeOf RM.numbers RM.holdsWhat RM.holdsWhich RM.holdsMany RM.bodies RM.ran RM.actKind RM.actN RM.actA RM.isParted)) hx hb hK hP hD hS 1 1 rfl rfl g_11 dX9_growsNow_64 evM_s_12 rfl (fun H locs hP hD hS => ?_)
  have ho := Option.some.inj hf
  subst ho; subst hQ
  exact ht_vret hx hb hr hlk hK hP hD hS dX9_growsNow_65
abbrev rmX9_saysNow : Room := { frames := 2, cells := 0, slots := 0, locals := 45 }
theorem hdX9_saysNow : yX9_saysNow.cls = RX9 ∧ yX9_saysNow.cls ≠ "java/lang/invoke/MethodHandle" ∧ yX9_saysNow.cls ≠ "java/lang/invoke/VarHandle" ∧ (parseMethodDescriptor yX9_saysNow.desc).map (fun d => d.parameters.length) = some 1 := by decide +kernel
def fX9_saysNow_b111 (RM : ModV) (x5 : Int32) (x6 : Int32) (vM_s : AI) : Option (Int32 × AI) := some ((x5 + x6), vM_s)
def fX9_saysNow_b86 (RM : ModV) (x3 : Int32) (x5 : Int32) (t0 : Int32) (vM_s : AI) : Option (Int32 × AI) := if x3 < 0 then (fX9_saysNow_b111 RM x5 t0 vM_s) else (ht_gd (ht_ix (((9 : Int32) + ((6 : Int32) * x3)) + (1 : Int32)) 57) (ht_gd (ht_ix (((9 : Int32) + ((6 : Int32) * x3)) + (1 : Int32)) 57) (ht_nm (upd vM_s (((9 : Int32) + ((6 : Int32) * x3)) + (1 : Int32)).toNatClampNeg ((vM_s (((9 : Int32) + ((6 : Int32) * x3)) + (1 : Int32)).toNatClampNeg) - t0)) (fun vM_s_4 => fX9_saysNow_b111 RM x5 t0 vM_s_4))))
def fX9_saysNow_b38 (RM : ModV) (x2 : Int32) (x3 : Int32) (t0 : Int32) (vM_s : AI) : Option (Int32 × AI) := ht_gd (ht_ix x2 57) (ht_bn (fX9_least t0 (vM_s x2.toNatClampNeg)) (fun o_6 => ht_gd (ht_ix x2 57) (ht_gd (ht_ix x2 57) (ht_nm (upd vM_s x2.toNatClampNeg ((vM_s x2.toNatClampNeg) - o_6)) (fun vM_s_9 => if 0 ≤ x3 then (ht_bn (fX9_its (vM_s_9, RM.held, RM.aside, RM.before, RM.isHeld, RM.tape, RM.taped, RM.token, RM.frm, RM.to, RM.value, RM.isWrong, RM.unpaired, RM.bestSound, RM.bestWay, RM.rows, RM.rowN, RM.sortOf, RM.sizeOf, RM.numbers, RM.holdsWhat, RM.holdsWhich, RM.holdsMany, RM.bodies, RM.ran, RM.actKind, RM.actN, RM.actA, RM.isParted) x3 (1 : Int32)) (fun o_11 => ht_bn (fX9_least (t0 - o_6) o_11) (fun o_12 => fX9_saysNow_b86 RM x3 o_6 o_12 vM_s_9))) else (fX9_saysNow_b86 RM x3 o_6 (0 : Int32) vM_s_9))))))
def fX9_saysNow (RM : ModV) (p0 : Int32) : Option (Int32 × AI) := ht_nm (((9 : Int32) + ((6 : Int32) * p0)) + (1 : Int32)) (fun x2_13 => ht_bn (fX9_its RM p0 (4 : Int32)) (fun o_14 => ht_nm (o_14 - (1 : Int32)) (fun x3_15 => if 0 ≤ x3_15 then (ht_bn (fX9_saysOf RM p0) (fun o_17 => fX9_saysNow_b38 RM x2_13 x3_15 ((2 : Int32) * o_17) RM.s)) else (ht_bn (fX9_saysOf RM p0) (fun o_18 => fX9_saysNow_b38 RM x2_13 x3_15 o_18 RM.s)))))
set_option maxHeartbeats 1000000 in
set_option maxRecDepth 100000 in
theorem ctX9_saysNow (l : Launch) (D : va_G) (K : Nat → ClassId) (jM : Nat) (aM : Nat → Nat) (RM : ModV) (p0 : Int32) (o : (Int32 × AI)) (hf : fX9_saysNow RM p0 = some o) (sz : Nat) : Met l yX9_saysNow wsX9_saysNow rmX9_saysNow (ht_Pre D K [.ref jM, .int p0] (wMo K jM aM RM.s RM.held RM.aside RM.before RM.isHeld RM.tape RM.taped RM.token RM.frm RM.to RM.value RM.isWrong RM.unpaired RM.bestSound RM.bestWay RM.rows RM.rowN RM.sortOf RM.sizeOf RM.numbers RM.holdsWhat RM.holdsWhich RM.holdsMany RM.bodies RM.ran RM.actKind RM.actN RM.actA RM.isParted) sz) (ht_Qi D K (wMo K jM aM o.2 RM.held RM.aside RM.before RM.isHeld RM.tape RM.taped RM.token RM.frm RM.to RM.value RM.isWrong RM.unpaired RM.bestSound RM.bestWay RM.rows RM.rowN RM.sortOf RM.sizeOf RM.numbers RM.holdsWhat RM.holdsWhich RM.holdsMany RM.bodies RM.ran RM.actKind RM.actN RM.actA RM.isParted) o.1 (va_A (wMo K jM aM RM.s RM.held RM.aside RM.before RM.isHeld RM.tape RM.taped RM.token RM.frm RM.to RM.value RM.isWrong RM.unpaired RM.bestSound RM.bestWay RM.rows RM.rowN RM.sortOf RM.sizeOf RM.numbers RM.holdsWhat RM.holdsWhich RM.holdsMany RM.bodies RM.ran RM.actKind RM.actN RM.actA RM.isParted) sz)) 0 0 (va_A (wMo K jM aM RM.s RM.held RM.aside RM.before RM.isHeld RM.tape RM.taped RM.token RM.frm RM.to RM.value RM.isWrong RM.unpaired RM.bestSound RM.bestWay RM.rows RM.rowN RM.sortOf RM.sizeOf RM.numbers RM.holdsWhat RM.holdsWhich RM.holdsMany RM.bodies RM.ran RM.actKind RM.actN RM.actA RM.isParted) sz) := by
  refine ht_enter (Qf := ht_Qi D K (wMo K jM aM o.2 RM.held RM.aside RM.before RM.isHeld RM.tape RM.taped RM.token RM.frm RM.to RM.value RM.isWrong RM.unpaired RM.bestSound RM.bestWay RM.rows RM.rowN RM.sortOf RM.sizeOf RM.numbers RM.holdsWhat RM.holdsWhich RM.holdsMany RM.bodies RM.ran RM.actKind RM.actN RM.actA RM.isParted) o.1) (cc := cX9_saysNow) (maxL := 7) (rt := (some .int)) (by decide) rfl (Nat.le_of_ble_eq_true rfl) ?_ sz
  intro p e s m below meth c A Q H locs ls hQ hx hb hr hlk hmn hml hown hts hA hK hP hD hS hl
  have hown : s.vm.findClass RX9 = some m.cls := hown
  have hF : CallFix p m c cX9_saysNow 7 s ([.ref jM, .int p0] : List Value).toArray wsX9_saysNow RX9 := ⟨hx, hb, hml, hown, hts⟩
  have hl : lv_has ls 7 [(0, .ref jM), (1, .int p0)] := hl
  have iw9 : ∀ w ∈ u_ws RX9 TX9 29, w ∈ wsX9_saysNow := by decide +kernel
  have kw1 := hts (.fieldLink RX9 7 "HeldTonguesModel" "s" "[I") (by decide +kernel)
  have b111 : ∀ (x5 : Int32) (x6 : Int32) (vM_s : AI) (H : Heap) (locs : List Loc) (ls : Array Slot), fX9_saysNow_b111 RM x5 x6 vM_s = some o → va_P D vwCl (wMo K jM aM vM_s RM.held RM.aside RM.before RM.isHeld RM.tape RM.taped RM.token RM.frm RM.to RM.value RM.isWrong RM.unpaired RM.bestSound RM.bestWay RM.rows RM.rowN RM.sortOf RM.sizeOf RM.numbers RM.holdsWhat RM.holdsWhich RM.holdsMany RM.bodies RM.ran RM.actKind RM.actN RM.actA RM.isParted) H → va_D A (wMo K jM aM vM_s RM.held RM.aside RM.before RM.isHeld RM.tape RM.taped RM.token RM.frm RM.to RM.value RM.isWrong RM.unpaired RM.bestSound RM.bestWay RM.rows RM.rowN RM.sortOf RM.sizeOf RM.numbers RM.holdsWhat RM.holdsWhich RM.holdsMany RM.bodies RM.ran RM.actKind RM.actN RM.actA RM.isParted) → va_S A s.heap H locs → lv_has ls 7 [(5, .int x5), (6, .int x6)] → W p l e (headSpec wsX9_saysNow rmX9_saysNow).room s m ([.ref jM, .int p0] : List Value).toArray below meth c H locs 0 0 Q (F0 m 111 ls []) := by
    intro x5 x6 vM_s H locs ls hf hP hD hS hl
    delta fX9_saysNow_b111 at hf
    refine lv_iload hx hb dX9_saysNow_111 (lv_at hl 0 rfl) ?_
    refine lv_iload hx hb dX9_saysNow_113 (lv_at hl 1 rfl) ?_
    refine lv_iadd hx hb dX9_saysNow_115 ?_
    have ho := Option.some.inj hf
    subst ho; subst hQ
    exact ht_iret hx hb hr hlk rfl hK hP hD hS dX9_saysNow_116
  have b86 : ∀ (x3 : Int32) (x5 : Int32) (t0 : Int32) (vM_s : AI) (H : Heap) (locs : List Loc) (ls : Array Slot), fX9_saysNow_b86 RM x3 x5 t0 vM_s = some o → va_P D vwCl (wMo K jM aM vM_s RM.held RM.aside RM.before RM.isHeld RM.tape RM.taped RM.token RM.frm RM.to RM.value RM.isWrong RM.unpaired RM.bestSound RM.bestWay RM.rows RM.rowN RM.sortOf RM.sizeOf RM.numbers RM.holdsWhat RM.holdsWhich RM.holdsMany RM.bodies RM.ran RM.actKind RM.actN RM.actA RM.isParted) H → va_D A (wMo K jM aM vM_s RM.held RM.aside RM.before RM.isHeld RM.tape RM.taped RM.token RM.frm RM.to RM.value RM.isWrong RM.unpaired RM.bestSound RM.bestWay RM.rows RM.rowN RM.sortOf RM.sizeOf RM.numbers RM.holdsWhat RM.holdsWhich RM.holdsMany RM.bodies RM.ran RM.actKind RM.actN RM.actA RM.isParted) → va_S A s.heap H locs → lv_has ls 7 [(0, .ref jM), (3, .int x3), (5, .int x5)] → W p l e (headSpec wsX9_saysNow rmX9_saysNow).room s m ([.ref jM, .int p0] : List Value).toArray below meth c H locs 0 0 Q (F0 m 86 ls [.int t0]) := by
    intro x3 x5 t0 vM_s H locs ls hf hP hD hS hl
    delta fX9_saysNow_b86 at hf
    refine lv_istore (lv' := [(6, .int t0), (0, .ref jM), (3, .int x3), (5, .int x5)]) hx hb dX9_saysNow_86 hl (by decide) rfl (fun ls hl => ?_)
    refine lv_iload_n hx hb dX9_saysNow_88 rfl (lv_at hl 2 rfl) ?_
    refine lv_if_lt (tgt := 111) hx hb dX9_saysNow_89 (by decide) (fun c_1 => ?_) (fun c_1 => ?_)
    · replace hf := ht_t c_1 hf
      exact b111  x5 t0 vM_s _ _ _ hf hP hD hS (lv_sub hl [3, 0] rfl)
    · replace hf := ht_f c_1 hf
      refine lv_aload_n hx hb dX9_saysNow_92 rfl (lv_at hl 1 rfl) ?_
      refine va_get (D := D) (ci := 9) (v := .ref (aM 0)) (C := RX9) (T := TX9) (N := 29) hx hb hts iw9 hown hK hP 0 rfl rfl 0 (by decide) kw1 (fun _ h9 => h9) rfl dX9_saysNow_93 ?_
      refine lv_bipush (v := 9) hx hb dX9_saysNow_96 (by decide) ?_
      refine lv_bipush (v := 6) hx hb dX9_saysNow_98 (by decide) ?_
      refine lv_iload_n hx hb dX9_saysNow_100 rfl (lv_at hl 2 rfl) ?_
      refine lv_imul hx hb dX9_saysNow_101 ?_
      refine lv_iadd hx hb dX9_saysNow_102 ?_
      refine lv_iconst (v := 1) hx hb dX9_saysNow_103 (by decide) ?_
      refine lv_iadd hx hb dX9_saysNow_104 ?_
      refine lv_dup2_11 hx hb dX9_saysNow_105 rfl rfl ?_
      obtain ⟨g_2, hf⟩ := ht_gd_ob hf
      refine va_iald hx hb hK hP 1 1 rfl rfl (ht_ix_in g_2) dX9_saysNow_106 ?_
      refine lv_iload hx hb dX9_saysNow_107 (lv_at hl 0 rfl) ?_
      refine lv_isub hx hb dX9_saysNow_109 ?_
      obtain ⟨g_3, hf⟩ := ht_gd_ob hf
      obtain ⟨vM_s_4, evM_s_4, hf⟩ := ht_nm_ob hf
      refine ht_iast (w2 := (wMo K jM aM vM_s_4 RM.held RM.aside RM.before RM.isHeld RM.tape RM.taped RM.token RM.frm RM.to RM.value RM.isWrong RM.unpaired RM.bestSound RM.bestWay RM.rows RM.rowN RM.sortOf RM.sizeOf RM.numbers RM.holdsWhat RM.holdsWhich RM.holdsMany RM.bodies RM.ran RM.actKind RM.actN RM.actA RM.isParted)) hx hb hK hP hD hS 1 1 rfl rfl g_3 dX9_saysNow_110 evM_s_4 rfl (fun H locs hP hD hS => ?_)
      exact b111  x5 t0 vM_s_4 _ _ _ hf hP hD hS (lv_sub hl [3, 0] rfl)
  have b38 : ∀ (x2 : Int32) (x3 : Int32) (t0 : Int32) (vM_s : AI) (H : Heap) (locs : List Loc) (ls : Array Slot), fX9_saysNow_b38 RM x2 x3 t0 vM_s = some o → va_P D vwCl (wMo K jM aM vM_s RM.held RM.aside RM.before RM.isHeld RM.tape RM.taped RM.token RM.frm RM.to RM.value RM.isWrong RM.unpaired RM.bestSound RM.bestWay RM.rows RM.rowN RM.sortOf RM.sizeOf RM.numbers RM.holdsWhat RM.holdsWhich RM.holdsMany RM.bodies RM.ran RM.actKind RM.actN RM.actA RM.isParted) H → va_D A (wMo K jM aM vM_s RM.held RM.aside RM.before RM.isHeld RM.tape RM.taped RM.token RM.frm RM.to RM.value RM.isWrong RM.unpaired RM.bestSound RM.bestWay RM.rows RM.rowN RM.sortOf RM.sizeOf RM.numbers RM.holdsWhat RM.holdsWhich RM.holdsMany RM.bodies RM.ran RM.actKind RM.actN RM.actA RM.isParted) → va_S A s.heap H locs → lv_has ls 7 [(0, .ref jM), (2, .int x2), (3, .int x3)] → W p l e (headSpec wsX9_saysNow rmX9_saysNow).room s m ([.ref jM, .int p0] : List Value).toArray below meth c H locs 0 0 Q (F0 m 38 ls [.int t0]) := by
    intro x2 x3 t0 vM_s H locs ls hf hP hD hS hl
    delta fX9_saysNow_b38 at hf
    refine lv_istore (lv' := [(4, .int t0), (0, .ref jM), (2, .int x2), (3, .int x3)]) hx hb dX9_saysNow_38 hl (by decide) rfl (fun ls hl => ?_)
    refine lv_iload hx hb dX9_saysNow_40 (lv_at hl 0 rfl) ?_
    refine lv_aload_n hx hb dX9_saysNow_42 rfl (lv_at hl 1 rfl) ?_
    refine va_get (D := D) (ci := 9) (v := .ref (aM 0)) (C := RX9) (T := TX9) (N := 29) hx hb hts iw9 hown hK hP 0 rfl rfl 0 (by decide) kw1 (fun _ h9 => h9) rfl dX9_saysNow_43 ?_
    refine lv_iload_n hx hb dX9_saysNow_46 rfl (lv_at hl 2 rfl) ?_
    obtain ⟨g_5, hf⟩ := ht_gd_ob hf
    refine va_iald hx hb hK hP 1 1 rfl rfl (ht_ix_in g_5) dX9_saysNow_47 ?_
    obtain ⟨o_6, ho_6, hf⟩ := ht_bn_ob hf
    refine ht_callSi (r := o_6) (rest := []) (As := [.int t0, .int (vM_s x2.toNatClampNeg)]) (wc := []) (wr := (wMo K jM aM vM_s RM.held RM.aside RM.before RM.isHeld RM.tape RM.taped RM.token RM.frm RM.to RM.value RM.isWrong RM.unpaired RM.bestSound RM.bestWay RM.rows RM.rowN RM.sortOf RM.sizeOf RM.numbers RM.holdsWhat RM.holdsWhich RM.holdsMany RM.bodies RM.ran RM.actKind RM.actN RM.actA RM.isParted)) (w1 := []) (w2 := (wMo K jM aM vM_s RM.held RM.aside RM.before RM.isHeld RM.tape RM.taped RM.token RM.frm RM.to RM.value RM.isWrong RM.unpaired RM.bestSound RM.bestWay RM.rows RM.rowN RM.sortOf RM.sizeOf RM.numbers RM.holdsWhat RM.holdsWhich RM.holdsMany RM.bodies RM.ran RM.actKind RM.actN RM.actA RM.isParted)) hF (ctX9_least l D K t0 (vM_s x2.toNatClampNeg) o_6 ho_6 H.size) (va_cwS 2 hts gX9_saysNow_X9_least rfl rfl rfl hdX9_least ⟨Nat.le_of_ble_eq_true rfl, Nat.le_of_ble_eq_true rfl⟩) hK hP hD hS hA [] [0, 1, 2, 3, 4, 5, 6, 7, 8, 9, 10, 11, 12, 13, 14, 15] rfl rfl (by decide) (by decide) (by decide) [0, 1, 2, 3, 4, 5, 6, 7, 8, 9, 10, 11, 12, 13, 14, 15] rfl (by decide) rfl hl.1 rfl (Nat.le_of_ble_eq_true rfl) dX9_saysNow_48 ⟨Nat.zero_le _, Nat.zero_le _⟩ (fun H locs hP hD hS => ?_)
    refine lv_istore (lv' := [(5, .int o_6), (4, .int t0), (0, .ref jM), (2, .int x2), (3, .int x3)]) hx hb dX9_saysNow_51 hl (by decide) rfl (fun ls hl => ?_)
    refine lv_aload_n hx hb dX9_saysNow_53 rfl (lv_at hl 2 rfl) ?_
    refine va_get (D := D) (ci := 9) (v := .ref (aM 0)) (C := RX9) (T := TX9) (N := 29) hx hb hts iw9 hown hK hP 0 rfl rfl 0 (by decide) kw1 (fun _ h9 => h9) rfl dX9_saysNow_54 ?_
    refine lv_iload_n hx hb dX9_saysNow_57 rfl (lv_at hl 3 rfl) ?_
    refine lv_dup2_11 hx hb dX9_saysNow_58 rfl rfl ?_
    obtain ⟨g_7, hf⟩ := ht_gd_ob hf
    refine va_iald hx hb hK hP 1 1 rfl rfl (ht_ix_in g_7) dX9_saysNow_59 ?_
    refine lv_iload hx hb dX9_saysNow_60 (lv_at hl 0 rfl) ?_
    refine lv_isub hx hb dX9_saysNow_62 ?_
    obtain ⟨g_8, hf⟩ := ht_gd_ob hf
    obtain ⟨vM_s_9, evM_s_9, hf⟩ := ht_nm_ob hf
    refine ht_iast (w2 := (wMo K jM aM vM_s_9 RM.held RM.aside RM.before RM.isHeld RM.tape RM.taped RM.token RM.frm RM.to RM.value RM.isWrong RM.unpaired RM.bestSound RM.bestWay RM.rows RM.rowN RM.sortOf RM.sizeOf RM.numbers RM.holdsWhat RM.holdsWhich RM.holdsMany RM.bodies RM.ran RM.actKind RM.actN RM.actA RM.isParted)) hx hb hK hP hD hS 1 1 rfl rfl g_8 dX9_saysNow_63 evM_s_9 rfl (fun H locs hP hD hS => ?_)
    refine lv_iload_n hx hb dX9_saysNow_64 rfl (lv_at hl 4 rfl) ?_
    refine lv_if_ge (tgt := 72) hx hb dX9_saysNow_65 (by decide) (fun c_10 => ?_) (fun c_10 => ?_)
    · replace hf := ht_t c_10 hf
      refine lv_iload hx hb dX9_saysNow_72 (lv_at hl 1 rfl) ?_
      refine lv_iload hx hb dX9_saysNow_74 (lv_at hl 0 rfl) ?_
      refine lv_isub hx hb dX9_saysNow_76 ?_
      refine lv_aload_n hx hb dX9_saysNow_77 rfl (lv_at hl 2 rfl) ?_
      refine lv_iload_n hx hb dX9_saysNow_78 rfl (lv_at hl 4 rfl) ?_
      refine lv_iconst (v := 1) hx hb dX9_saysNow_79 (by decide) ?_
      obtain ⟨o_11, ho_11, hf⟩ := ht_bn_ob hf
      refine ht_callVi (r := o_11) (rest := [.int (t0 - o_6)]) (As := [.int x3, .int (1 : Int32)]) (wc := (wMo K jM aM vM_s_9 RM.held RM.aside RM.before RM.isHeld RM.tape RM.taped RM.token RM.frm RM.to RM.value RM.isWrong RM.unpaired RM.bestSound RM.bestWay RM.rows RM.rowN RM.sortOf RM.sizeOf RM.numbers RM.holdsWhat RM.holdsWhich RM.holdsMany RM.bodies RM.ran RM.actKind RM.actN RM.actA RM.isParted)) (wr := []) (w1 := (wMo K jM aM vM_s_9 RM.held RM.aside RM.before RM.isHeld RM.tape RM.taped RM.token RM.frm RM.to RM.value RM.isWrong RM.unpaired RM.bestSound RM.bestWay RM.rows RM.rowN RM.sortOf RM.sizeOf RM.numbers RM.holdsWhat RM.holdsWhich RM.holdsMany RM.bodies RM.ran RM.actKind RM.actN RM.actA RM.isParted)) (w2 := (wMo K jM aM vM_s_9 RM.held RM.aside RM.before RM.isHeld RM.tape RM.taped RM.token RM.frm RM.to RM.value RM.isWrong RM.unpaired RM.bestSound RM.bestWay RM.rows RM.rowN RM.sortOf RM.sizeOf RM.numbers RM.holdsWhat RM.holdsWhich RM.holdsMany RM.bodies RM.ran RM.actKind RM.actN RM.actA RM.isParted)) hF (ctX9_its l D K jM aM (vM_s_9, RM.held, RM.aside, RM.before, RM.isHeld, RM.tape, RM.taped, RM.token, RM.frm, RM.to, RM.value, RM.isWrong, RM.unpaired, RM.bestSound, RM.bestWay, RM.rows, RM.rowN, RM.sortOf, RM.sizeOf, RM.numbers, RM.holdsWhat, RM.holdsWhich, RM.holdsMany, RM.bodies, RM.ran, RM.actKind, RM.actN, RM.actA, RM.isParted) x3 (1 : Int32) o_11 ho_11 H.size) (cwV 2 hts gX9_saysNow_X9_its rfl rfl rfl hdX9_its ⟨Nat.le_of_ble_eq_true rfl, Nat.le_of_ble_eq_true rfl⟩) hK hP hD hS hA [0, 1, 2, 3, 4, 5, 6, 7, 8, 9, 10, 11, 12, 13, 14, 15] [] rfl rfl (by decide) (by decide) (by decide) [0, 1, 2, 3, 4, 5, 6, 7, 8, 9, 10, 11, 12, 13, 14, 15] rfl (by decide) (va_recv hK hP (ci := 9) (q0 := 0) rfl rfl) rfl hl.1 rfl (Nat.le_of_ble_eq_true rfl) dX9_saysNow_80 ⟨Nat.zero_le _, Nat.zero_le _⟩ (fun H locs hP hD hS => ?_)
      obtain ⟨o_12, ho_12, hf⟩ := ht_bn_ob hf
      refine ht_callSi (r := o_12) (rest := []) (As := [.int (t0 - o_6), .int o_11]) (wc := []) (wr := (wMo K jM aM vM_s_9 RM.held RM.aside RM.before RM.isHeld RM.tape RM.taped RM.token RM.frm RM.to RM.value RM.isWrong RM.unpaired RM.bestSound RM.bestWay RM.rows RM.rowN RM.sortOf RM.sizeOf RM.numbers RM.holdsWhat RM.holdsWhich RM.holdsMany RM.bodies RM.ran RM.actKind RM.actN RM.actA RM.isParted)) (w1 := []) (w2 := (wMo K jM aM vM_s_9 RM.held RM.aside RM.before RM.isHeld RM.tape RM.taped RM.token RM.frm RM.to RM.value RM.isWrong RM.unpaired RM.bestSound RM.bestWay RM.rows RM.rowN RM.sortOf RM.sizeOf RM.numbers RM.holdsWhat RM.holdsWhich RM.holdsMany RM.bodies RM.ran RM.actKind RM.actN RM.actA RM.isParted)) hF (ctX9_least l D K (t0 - o_6) o_11 o_12 ho_12 H.size) (va_cwS 2 hts gX9_saysNow_X9_least rfl rfl rfl hdX9_least ⟨Nat.le_of_ble_eq_true rfl, Nat.le_of_ble_eq_true rfl⟩) hK hP hD hS hA [] [0, 1, 2, 3, 4, 5, 6, 7, 8, 9, 10, 11, 12, 13, 14, 15] rfl rfl (by decide) (by decide) (by decide) [0, 1, 2, 3, 4, 5, 6, 7, 8, 9, 10, 11, 12, 13, 14, 15] rfl (by decide) rfl hl.1 rfl (Nat.le_of_ble_eq_true rfl) dX9_saysNow_83 ⟨Nat.zero_le _, Nat.zero_le _⟩ (fun H locs hP hD hS => ?_)
      exact b86  x3 o_6 o_12 vM_s_9 _ _ _ hf hP hD hS (lv_sub hl [2, 4, 0] rfl)
    · replace hf := ht_f c_10 hf
      refine lv_iconst (v := 0) hx hb dX9_saysNow_68 (by decide) ?_
      refine lv_goto (tgt := 86) hx hb dX9_saysNow_69 (by decide) ?_
      exact b86  x3 o_6 (0 : Int32) vM_s_9 _ _ _ hf hP hD hS (lv_sub hl [2, 4, 0] rfl)
  delta fX9_saysNow at hf
  refine lv_bipush (v := 9) hx hb dX9_saysNow_0 (by decide) ?_
  refine lv_bipush (v := 6) hx hb dX9_saysNow_2 (by decide) ?_
  refine lv_iload_n hx hb dX9_saysNow_4 rfl (lv_at hl 1 rfl) ?_
  refine lv_imul hx hb dX9_saysNow_5 ?_
  refine lv_iadd hx hb dX9_saysNow_6 ?_
  refine lv_iconst (v := 1) hx hb dX9_saysNow_7 (by decide) ?_
  refine lv_iadd hx hb dX9_saysNow_8 ?_
  obtain ⟨x2_13, ex2_13, hf⟩ := ht_nm_ob hf
  rw [← ex2_13]
  refine lv_istore_n (lv' := [(2, .int x2_13), (0, .ref jM), (1, .int p0)]) hx hb dX9_saysNow_9 rfl hl (by decide) rfl (fun ls hl => ?_)
  refine lv_aload_n hx hb dX9_saysNow_10 rfl (lv_at hl 1 rfl) ?_
  refine lv_iload_n hx hb dX9_saysNow_11 rfl (lv_at hl 2 rfl) ?_
  refine lv_iconst (v := 4) hx hb dX9_saysNow_12 (by decide) ?_
  obtain ⟨o_14, ho_14, hf⟩ := ht_bn_ob hf
  refine ht_callVi (r := o_14) (rest := []) (As := [.int p0, .int (4 : Int32)]) (wc := (wMo K jM aM RM.s RM.held RM.aside RM.before RM.isHeld RM.tape RM.taped RM.token RM.frm RM.to RM.value RM.isWrong RM.unpaired RM.bestSound RM.bestWay RM.rows RM.rowN RM.sortOf RM.sizeOf RM.numbers RM.holdsWhat RM.holdsWhich RM.holdsMany RM.bodies RM.ran RM.actKind RM.actN RM.actA RM.isParted)) (wr := []) (w1 := (wMo K jM aM RM.s RM.held RM.aside RM.before RM.isHeld RM.tape RM.taped RM.token RM.frm RM.to RM.value RM.isWrong RM.unpaired RM.bestSound RM.bestWay RM.rows RM.rowN RM.sortOf RM.sizeOf RM.numbers RM.holdsWhat RM.holdsWhich RM.holdsMany RM.bodies RM.ran RM.actKind RM.actN RM.actA RM.isParted)) (w2 := (wMo K jM aM RM.s RM.held RM.aside RM.before RM.isHeld RM.tape RM.taped RM.token RM.frm RM.to RM.value RM.isWrong RM.unpaired RM.bestSound RM.bestWay RM.rows RM.rowN RM.sortOf RM.sizeOf RM.numbers RM.holdsWhat RM.holdsWhich RM.holdsMany RM.bodies RM.ran RM.actKind RM.actN RM.actA RM.isParted)) hF (ctX9_its l D K jM aM RM p0 (4 : Int32) o_14 ho_14 H.size) (cwV 2 hts gX9_saysNow_X9_its rfl rfl rfl hdX9_its ⟨Nat.le_of_ble_eq_true rfl, Nat.le_of_ble_eq_true rfl⟩) hK hP hD hS hA [0, 1, 2, 3, 4, 5, 6, 7, 8, 9, 10, 11, 12, 13, 14, 15] [] rfl rfl (by decide) (by decide) (by decide) [0, 1, 2, 3, 4, 5, 6, 7, 8, 9, 10, 11, 12, 13, 14, 15] rfl (by decide) (va_recv hK hP (ci := 9) (q0 := 0) rfl rfl) rfl hl.1 rfl (Nat.le_of_ble_eq_true rfl) dX9_saysNow_13 ⟨Nat.zero_le _, Nat.zero_le _⟩ (fun H locs hP hD hS => ?_)
  refine lv_iconst (v := 1) hx hb dX9_saysNow_16 (by decide) ?_
  refine lv_isub hx hb dX9_saysNow_17 ?_
  obtain ⟨x3_15, ex3_15, hf⟩ := ht_nm_ob hf
  rw [← ex3_15]
  refine lv_istore_n (lv' := [(3, .int x3_15), (2, .int x2_13), (0, .ref jM), (1, .int p0)]) hx hb dX9_saysNow_18 rfl hl (by decide) rfl (fun ls hl => ?_)
  refine lv_iload_n hx hb dX9_saysNow_19 rfl (lv_at hl 0 rfl) ?_
  refine lv_if_ge (tgt := 31) hx hb dX9_saysNow_20 (by decide) (fun c_16 => ?_) (fun c_16 => ?_)
  · replace hf := ht_t c_16 hf
    refine lv_iconst (v := 2) hx hb dX9_saysNow_31 (by decide) ?_
    refine lv_aload_n hx hb dX9_saysNow_32 rfl (lv_at hl 2 rfl) ?_
    refine lv_iload_n hx hb dX9_saysNow_33 rfl (lv_at hl 3 rfl) ?_
    obtain ⟨o_17, ho_17, hf⟩ := ht_bn_ob hf
    refine ht_callVi (r := o_17) (rest := [.int (2 : Int32)]) (As := [.int p0]) (wc := (wMo K jM aM RM.s RM.held RM.aside RM.before RM.isHeld RM.tape RM.taped RM.token RM.frm RM.to RM.value RM.isWrong RM.unpaired RM.bestSound RM.bestWay RM.rows RM.rowN RM.sortOf RM.sizeOf RM.numbers RM.holdsWhat RM.holdsWhich RM.holdsMany RM.bodies RM.ran RM.actKind RM.actN RM.actA RM.isParted)) (wr := []) (w1 := (wMo K jM aM RM.s RM.held RM.aside RM.before RM.isHeld RM.tape RM.taped RM.token RM.frm RM.to RM.value RM.isWrong RM.unpaired RM.bestSound RM.bestWay RM.rows RM.rowN RM.sortOf RM.sizeOf RM.numbers RM.holdsWhat RM.holdsWhich RM.holdsMany RM.bodies RM.ran RM.actKind RM.actN RM.actA RM.isParted)) (w2 := (wMo K jM aM RM.s RM.held RM.aside RM.before RM.isHeld RM.tape RM.taped RM.token RM.frm RM.to RM.value RM.isWrong RM.unpaired RM.bestSound RM.bestWay RM.rows RM.rowN RM.sortOf RM.sizeOf RM.numbers RM.holdsWhat RM.holdsWhich RM.holdsMany RM.bodies RM.ran RM.actKind RM.actN RM.actA RM.isParted)) hF (ctX9_saysOf l D K jM aM RM p0 o_17 ho_17 H.size) (cwV 1 hts gX9_saysNow_X9_saysOf rfl rfl rfl hdX9_saysOf ⟨Nat.le_of_ble_eq_true rfl, Nat.le_of_ble_eq_true rfl⟩) hK hP hD hS hA [0, 1, 2, 3, 4, 5, 6, 7, 8, 9, 10, 11, 12, 13, 14, 15] [] rfl rfl (by decide) (by decide) (by decide) [0, 1, 2, 3, 4, 5, 6, 7, 8, 9, 10, 11, 12, 13, 14, 15] rfl (by decide) (va_recv hK hP (ci := 9) (q0 := 0) rfl rfl) rfl hl.1 rfl (Nat.le_of_ble_eq_true rfl) dX9_saysNow_34 ⟨Nat.zero_le _, Nat.zero_le _⟩ (fun H locs hP hD hS => ?_)
    refine lv_imul hx hb dX9_saysNow_37 ?_
    exact b38  x2_13 x3_15 ((2 : Int32) * o_17) RM.s _ _ _ hf hP hD hS (lv_sub hl [2, 1, 0] rfl)
  · replace hf := ht_f c_16 hf
    refine lv_aload_n hx hb dX9_saysNow_23 rfl (lv_at hl 2 rfl) ?_
    refine lv_iload_n hx hb dX9_saysNow_24 rfl (lv_at hl 3 rfl) ?_
    obtain ⟨o_18, ho_18, hf⟩ := ht_bn_ob hf
    refine ht_callVi (r := o_18) (rest := []) (As := [.int p0]) (wc := (wMo K jM aM RM.s RM.held RM.aside RM.before RM.isHeld RM.tape RM.taped RM.token RM.frm RM.to RM.value RM.isWrong RM.unpaired RM.bestSound RM.bestWay RM.rows RM.rowN RM.sortOf RM.sizeOf RM.numbers RM.holdsWhat RM.holdsWhich RM.holdsMany RM.bodies RM.ran RM.actKind RM.actN RM.actA RM.isParted)) (wr := []) (w1 := (wMo K jM aM RM.s RM.held RM.aside RM.before RM.isHeld RM.tape RM.taped RM.token RM.frm RM.to RM.value RM.isWrong RM.unpaired RM.bestSound RM.bestWay RM.rows RM.rowN RM.sortOf RM.sizeOf RM.numbers RM.holdsWhat RM.holdsWhich RM.holdsMany RM.bodies RM.ran RM.actKind RM.actN RM.actA RM.isParted)) (w2 := (wMo K jM aM RM.s RM.held RM.aside RM.before RM.isHeld RM.tape RM.taped RM.token RM.frm RM.to RM.value RM.isWrong RM.unpaired RM.bestSound RM.bestWay RM.rows RM.rowN RM.sortOf RM.sizeOf RM.numbers RM.holdsWhat RM.holdsWhich RM.holdsMany RM.bodies RM.ran RM.actKind RM.actN RM.actA RM.isParted)) hF (ctX9_saysOf l D K jM aM RM p0 o_18 ho_18 H.size) (cwV 1 hts gX9_saysNow_X9_saysOf rfl rfl rfl hdX9_saysOf ⟨Nat.le_of_ble_eq_true rfl, Nat.le_of_ble_eq_true rfl⟩) hK hP hD hS hA [0, 1, 2, 3, 4, 5, 6, 7, 8, 9, 10, 11, 12, 13, 14, 15] [] rfl rfl (by decide) (by decide) (by decide) [0, 1, 2, 3, 4, 5, 6, 7, 8, 9, 10, 11, 12, 13, 14, 15] rfl (by decide) (va_recv hK hP (ci := 9) (q0 := 0) rfl rfl) rfl hl.1 rfl (Nat.le_of_ble_eq_true rfl) dX9_saysNow_25 ⟨Nat.zero_le _, Nat.zero_le _⟩ (fun H locs hP hD hS => ?_)
    refine lv_goto (tgt := 38) hx hb dX9_saysNow_28 (by decide) ?_
    exact b38  x2_13 x3_15 o_18 RM.s _ _ _ hf hP hD hS (lv_sub hl [2, 1, 0] rfl)
abbrev rmX9_savesNow : Room := { frames := 2, cells := 0, slots := 0, locals := 43 }
theorem hdX9_savesNow : yX9_savesNow.cls = RX9 ∧ yX9_savesNow.cls ≠ "java/lang/invoke/MethodHandle" ∧ yX9_savesNow.cls ≠ "java/lang/invoke/VarHandle" ∧ (parseMethodDescriptor yX9_savesNow.desc).map (fun d => d.parameters.length) = some 1 := by decide +kernel
def fX9_savesNow (RM : ModV) (p0 : Int32) : Option AI := ht_nm ((9 : Int32) + ((6 : Int32) * p0)) (fun x2_1 => ht_bn (fX9_savesOf RM p0) (fun o_2 => ht_gd (ht_ix (x2_1 + (1 : Int32)) 57) (ht_gd (ht_ix (x2_1 + (2 : Int32)) 57) (ht_bn (fX9_least (RM.s (x2_1 + (1 : Int32)).toNatClampNeg) ((99 : Int32) - (RM.s (x2_1 + (2 : Int32)).toNatClampNeg))) (fun o_5 => ht_bn (fX9_least o_2 o_5) (fun o_6 => ht_gd (ht_ix (x2_1 + (1 : Int32)) 57) (ht_gd (ht_ix (x2_1 + (1 : Int32)) 57) (ht_nm (upd RM.s (x2_1 + (1 : Int32)).toNatClampNeg ((RM.s (x2_1 + (1 : Int32)).toNatClampNeg) - o_6)) (fun vM_s_9 => ht_gd (ht_ix (x2_1 + (2 : Int32)) 57) (ht_gd (ht_ix (x2_1 + (2 : Int32)) 57) (ht_nm (upd vM_s_9 (x2_1 + (2 : Int32)).toNatClampNeg ((vM_s_9 (x2_1 + (2 : Int32)).toNatClampNeg) + o_6)) (fun vM_s_12 => some vM_s_12))))))))))))
set_option maxHeartbeats 1000000 in
set_option maxRecDepth 100000 in
theorem ctX9_savesNow (l : Launch) (D : va_G) (K : Nat → ClassId) (jM : Nat) (aM : Nat → Nat) (RM : ModV) (p0 : Int32) (o : AI) (hf : fX9_savesNow RM p0 = some o) (sz : Nat) : Met l yX9_savesNow wsX9_savesNow rmX9_savesNow (ht_Pre D K [.ref jM, .int p0] (wMo K jM aM RM.s RM.held RM.aside RM.before RM.isHeld RM.tape RM.taped RM.token RM.frm RM.to RM.value RM.isWrong RM.unpaired RM.bestSound RM.bestWay RM.rows RM.rowN RM.sortOf RM.sizeOf RM.numbers RM.holdsWhat RM.holdsWhich RM.holdsMany RM.bodies RM.ran RM.actKind RM.actN RM.actA RM.isParted) sz) (ht_Qv D K (wMo K jM aM o RM.held RM.aside RM.before RM.isHeld RM.tape RM.taped RM.token RM.frm RM.to RM.value RM.isWrong RM.unpaired RM.bestSound RM.bestWay RM.rows RM.rowN RM.sortOf RM.sizeOf RM.numbers RM.holdsWhat RM.holdsWhich RM.holdsMany RM.bodies RM.ran RM.actKind RM.actN RM.actA RM.isParted) (va_A (wMo K jM aM RM.s RM.held RM.aside RM.before RM.isHeld RM.tape RM.taped RM.token RM.frm RM.to RM.value RM.isWrong RM.unpaired RM.bestSound RM.bestWay RM.rows RM.rowN RM.sortOf RM.sizeOf RM.numbers RM.holdsWhat RM.holdsWhich RM.holdsMany RM.bodies RM.ran RM.actKind RM.actN RM.actA RM.isParted) sz)) 0 0 (va_A (wMo K jM aM RM.s RM.held RM.aside RM.before RM.isHeld RM.tape RM.taped RM.token RM.frm RM.to RM.value RM.isWrong RM.unpaired RM.bestSound RM.bestWay RM.rows RM.rowN RM.sortOf RM.sizeOf RM.numbers RM.holdsWhat RM.holdsWhich RM.holdsMany RM.bodies RM.ran RM.actKind RM.actN RM.actA RM.isParted) sz) := by
  refine ht_enter (Qf := ht_Qv D K (wMo K jM aM o RM.held RM.aside RM.before RM.isHeld RM.tape RM.taped RM.token RM.frm RM.to RM.value RM.isWrong RM.unpaired RM.bestSound RM.bestWay RM.rows RM.rowN RM.sortOf RM.sizeOf RM.numbers RM.holdsWhat RM.holdsWhich RM.holdsMany RM.bodies RM.ran RM.actKind RM.actN RM.actA RM.isParted)) (cc := cX9_savesNow) (maxL := 4) (rt := none) (by decide) rfl (Nat.le_of_ble_eq_true rfl) ?_ sz
  intro p e s m below meth c A Q H locs ls hQ hx hb hr hlk hmn hml hown hts hA hK hP hD hS hl
  have hown : s.vm.findClass RX9 = some m.cls := hown
  have hF : CallFix p m c cX9_savesNow 4 s ([.ref jM, .int p0] : List Value).toArray wsX9_savesNow RX9 := ⟨hx, hb, hml, hown, hts⟩
  have hl : lv_has ls 4 [(0, .ref jM), (1, .int p0)] := hl
  have iw9 : ∀ w ∈ u_ws RX9 TX9 29, w ∈ wsX9_savesNow := by decide +kernel
  have kw1 := hts (.fieldLink RX9 7 "HeldTonguesModel" "s" "[I") (by decide +kernel)
  delta fX9_savesNow at hf
  refine lv_bipush (v := 9) hx hb dX9_savesNow_0 (by decide) ?_
  refine lv_bipush (v := 6) hx hb dX9_savesNow_2 (by decide) ?_
  refine lv_iload_n hx hb dX9_savesNow_4 rfl (lv_at hl 1 rfl) ?_
  refine lv_imul hx hb dX9_savesNow_5 ?_
  refine lv_iadd hx hb dX9_savesNow_6 ?_
  obtain ⟨x2_1, ex2_1, hf⟩ := ht_nm_ob hf
  rw [← ex2_1]
  refine lv_istore_n (lv' := [(2, .int x2_1), (0, .ref jM), (1, .int p0)]) hx hb dX9_savesNow_7 rfl hl (by decide) rfl (fun ls hl => ?_)
  refine lv_aload_n hx hb dX9_savesNow_8 rfl (lv_at hl 1 rfl) ?_
  refine lv_iload_n hx hb dX9_savesNow_9 rfl (lv_at hl 2 rfl) ?_
  obtain ⟨o_2, ho_2, hf⟩ := ht_bn_ob hf
  refine ht_callVi (r := o_2) (rest := []) (As := [.int p0]) (wc := (wMo K jM aM RM.s RM.held RM.aside RM.before RM.isHeld RM.tape RM.taped RM.token RM.frm RM.to RM.value RM.isWrong RM.unpaired RM.bestSound RM.bestWay RM.rows RM.rowN RM.sortOf RM.sizeOf RM.numbers RM.holdsWhat RM.holdsWhich RM.holdsMany RM.bodies RM.ran RM.actKind RM.actN RM.actA RM.isParted)) (wr := []) (w1 := (wMo K jM aM RM.s RM.held RM.aside RM.before RM.isHeld RM.tape RM.taped RM.token RM.frm RM.to RM.value RM.isWrong RM.unpaired RM.bestSound RM.bestWay RM.rows RM.rowN RM.sortOf RM.sizeOf RM.numbers RM.holdsWhat RM.holdsWhich RM.holdsMany RM.bodies RM.ran RM.actKind RM.actN RM.actA RM.isParted)) (w2 := (wMo K jM aM RM.s RM.held RM.aside RM.before RM.isHeld RM.tape RM.taped RM.token RM.frm RM.to RM.value RM.isWrong RM.unpaired RM.bestSound RM.bestWay RM.rows RM.rowN RM.sortOf RM.sizeOf RM.numbers RM.holdsWhat RM.holdsWhich RM.holdsMany RM.bodies RM.ran RM.actKind RM.actN RM.actA RM.isParted)) hF (ctX9_savesOf l D K jM aM RM p0 o_2 ho_2 H.size) (cwV 1 hts gX9_savesNow_X9_savesOf rfl rfl rfl hdX9_savesOf ⟨Nat.le_of_ble_eq_true rfl, Nat.le_of_ble_eq_true rfl⟩) hK hP hD hS hA [0, 1, 2, 3, 4, 5, 6, 7, 8, 9, 10, 11, 12, 13, 14, 15] [] rfl rfl (by decide) (by decide) (by decide) [0, 1, 2, 3, 4, 5, 6, 7, 8, 9, 10, 11, 12, 13, 14, 15] rfl (by decide) (va_recv hK hP (ci := 9) (q0 := 0) rfl rfl) rfl hl.1 rfl (Nat.le_of_ble_eq_true rfl) dX9_savesNow_10 ⟨Nat.zero_le _, Nat.zero_le _⟩ (fun H locs hP hD hS => ?_)
  refine lv_aload_n hx hb dX9_savesNow_13 rfl (lv_at hl 1 rfl) ?_
  refine va_get (D := D) (ci := 9) (v := .ref (aM 0)) (C := RX9) (T := TX9) (N := 29) hx hb hts iw9 hown hK hP 0 rfl rfl 0 (by decide) kw1 (fun _ h9 => h9) rfl dX9_savesNow_14 ?_
  refine lv_iload_n hx hb dX9_savesNow_17 rfl (lv_at hl 0 rfl) ?_
  refine lv_iconst (v := 1) hx hb dX9_savesNow_18 (by decide) ?_
  refine lv_iadd hx hb dX9_savesNow_19 ?_
  obtain ⟨g_3, hf⟩ := ht_gd_ob hf
  refine va_iald hx hb hK hP 1 1 rfl rfl (ht_ix_in g_3) dX9_savesNow_20 ?_
  refine lv_bipush (v := 99) hx hb dX9_savesNow_21 (by decide) ?_
  refine lv_aload_n hx hb dX9_savesNow_23 rfl (lv_at hl 1 rfl) ?_
  refine va_get (D := D) (ci := 9) (v := .ref (aM 0)) (C := RX9) (T := TX9) (N := 29) hx hb hts iw9 hown hK hP 0 rfl rfl 0 (by decide) kw1 (fun _ h9 => h9) rfl dX9_savesNow_24 ?_
  refine lv_iload_n hx hb dX9_savesNow_27 rfl (lv_at hl 0 rfl) ?_
  refine lv_iconst (v := 2) hx hb dX9_savesNow_28 (by decide) ?_
  refine lv_iadd hx hb dX9_savesNow_29 ?_
  obtain ⟨g_4, hf⟩ := ht_gd_ob hf
  refine va_iald hx hb hK hP 1 1 rfl rfl (ht_ix_in g_4) dX9_savesNow_30 ?_
  refine lv_isub hx hb dX9_savesNow_31 ?_
  obtain ⟨o_5, ho_5, hf⟩ := ht_bn_ob hf
  refine ht_callSi (r := o_5) (rest := [.int o_2]) (As := [.int (RM.s (x2_1 + (1 : Int32)).toNatClampNeg), .int ((99 : Int32) - (RM.s (x2_1 + (2 : Int32)).toNatClampNeg))]) (wc := []) (wr := (wMo K jM aM RM.s RM.held RM.aside RM.before RM.isHeld RM.tape RM.taped RM.token RM.frm RM.to RM.value RM.isWrong RM.unpaired RM.bestSound RM.bestWay RM.rows RM.rowN RM.sortOf RM.sizeOf RM.numbers RM.holdsWhat RM.holdsWhich RM.holdsMany RM.bodies RM.ran RM.actKind RM.actN RM.actA RM.isParted)) (w1 := []) (w2 := (wMo K jM aM RM.s RM.held RM.aside RM.before RM.isHeld RM.tape RM.taped RM.token RM.frm RM.to RM.value RM.isWrong RM.unpaired RM.bestSound RM.bestWay RM.rows RM.rowN RM.sortOf RM.sizeOf RM.numbers RM.holdsWhat RM.holdsWhich RM.holdsMany RM.bodies RM.ran RM.actKind RM.actN RM.actA RM.isParted)) hF (ctX9_least l D K (RM.s (x2_1 + (1 : Int32)).toNatClampNeg) ((99 : Int32) - (RM.s (x2_1 + (2 : Int32)).toNatClampNeg)) o_5 ho_5 H.size) (va_cwS 2 hts gX9_savesNow_X9_least rfl rfl rfl hdX9_least ⟨Nat.le_of_ble_eq_true rfl, Nat.le_of_ble_eq_true rfl⟩) hK hP hD hS hA [] [0, 1, 2, 3, 4, 5, 6, 7, 8, 9, 10, 11, 12, 13, 14, 15] rfl rfl (by decide) (by decide) (by decide) [0, 1, 2, 3, 4, 5, 6, 7, 8, 9, 10, 11, 12, 13, 14, 15] rfl (by decide) rfl hl.1 rfl (Nat.le_of_ble_eq_true rfl) dX9_savesNow_32 ⟨Nat.zero_le _, Nat.zero_le _⟩ (fun H locs hP hD hS => ?_)
  obtain ⟨o_6, ho_6, hf⟩ := ht_bn_ob hf
  refine ht_callSi (r := o_6) (rest := []) (As := [.int o_2, .int o_5]) (wc := []) (wr := (wMo K jM aM RM.s RM.held RM.aside RM.before RM.isHeld RM.tape RM.taped RM.token RM.frm RM.to RM.value RM.isWrong RM.unpaired RM.bestSound RM.bestWay RM.rows RM.rowN RM.sortOf RM.sizeOf RM.numbers RM.holdsWhat RM.holdsWhich RM.holdsMany RM.bodies RM.ran RM.actKind RM.actN RM.actA RM.isParted)) (w1 := []) (w2 := (wMo K jM aM RM.s RM.held RM.aside RM.before RM.isHeld RM.tape RM.taped RM.token RM.frm RM.to RM.value RM.isWrong RM.unpaired RM.bestSound RM.bestWay RM.rows RM.rowN RM.sortOf RM.sizeOf RM.numbers RM.holdsWhat RM.holdsWhich RM.holdsMany RM.bodies RM.ran RM.actKind RM.actN RM.actA RM.isParted)) hF (ctX9_least l D K o_2 o_5 o_6 ho_6 H.size) (va_cwS 2 hts gX9_savesNow_X9_least rfl rfl rfl hdX9_least ⟨Nat.le_of_ble_eq_true rfl, Nat.le_of_ble_eq_true rfl⟩) hK hP hD hS hA [] [0, 1, 2, 3, 4, 5, 6, 7, 8, 9, 10, 11, 12, 13, 14, 15] rfl rfl (by decide) (by decide) (by decide) [0, 1, 2, 3, 4, 5, 6, 7, 8, 9, 10, 11, 12, 13, 14, 15] rfl (by decide) rfl hl.1 rfl (Nat.le_of_ble_eq_true rfl) dX9_savesNow_35 ⟨Nat.zero_le _, Nat.zero_le _⟩ (fun H locs hP hD hS => ?_)
  refine lv_istore_n (lv' := [(3, .int o_6), (2, .int x2_1), (0, .ref jM), (1, .int p0)]) hx hb dX9_savesNow_38 rfl hl (by decide) rfl (fun ls hl => ?_)
  refine lv_aload_n hx hb dX9_savesNow_39 rfl (lv_at hl 2 rfl) ?_
  refine va_get (D := D) (ci := 9) (v := .ref (aM 0)) (C := RX9) (T := TX9) (N := 29) hx hb hts iw9 hown hK hP 0 rfl rfl 0 (by decide) kw1 (fun _ h9 => h9) rfl dX9_savesNow_40 ?_
  refine lv_iload_n hx hb dX9_savesNow_43 rfl (lv_at hl 1 rfl) ?_
  refine lv_iconst (v := 1) hx hb dX9_savesNow_44 (by decide) ?_
  refine lv_iadd hx hb dX9_savesNow_45 ?_
  refine lv_dup2_11 hx hb dX9_savesNow_46 rfl rfl ?_
  obtain ⟨g_7, hf⟩ := ht_gd_ob hf
  refine va_iald hx hb hK hP 1 1 rfl rfl (ht_ix_in g_7) dX9_savesNow_47 ?_
  refine lv_iload_n hx hb dX9_savesNow_48 rfl (lv_at hl 0 rfl) ?_
  refine lv_isub hx hb dX9_savesNow_49 ?_
  obtain ⟨g_8, hf⟩ := ht_gd_ob hf
  obtain ⟨vM_s_9, evM_s_9, hf⟩ := ht_nm_ob hf
  refine ht_iast (w2 := (wMo K jM aM vM_s_9 RM.held RM.aside RM.before RM.isHeld RM.tape RM.taped RM.token RM.frm RM.to RM.value RM.isWrong RM.unpaired RM.bestSound RM.bestWay RM.rows RM.rowN RM.sortOf RM.sizeOf RM.numbers RM.holdsWhat RM.holdsWhich RM.holdsMany RM.bodies RM.ran RM.actKind RM.actN RM.actA RM.isParted)) hx hb hK hP hD hS 1 1 rfl rfl g_8 dX9_savesNow_50 evM_s_9 rfl (fun H locs hP hD hS => ?_)
  refine lv_aload_n hx hb dX9_savesNow_51 rfl (lv_at hl 2 rfl) ?_
  refine va_get (D := D) (ci := 9) (v := .ref (aM 0)) (C := RX9) (T := TX9) (N := 29) hx hb hts iw9 hown hK hP 0 rfl rfl 0 (by decide) kw1 (fun _ h9 => h9) rfl dX9_savesNow_52 ?_
  refine lv_iload_n hx hb dX9_savesNow_55 rfl (lv_at hl 1 rfl) ?_
  refine lv_iconst (v := 2) hx hb dX9_savesNow_56 (by decide) ?_
  refine lv_iadd hx hb dX9_savesNow_57 ?_
  refine lv_dup2_11 hx hb dX9_savesNow_58 rfl rfl ?_
  obtain ⟨g_10, hf⟩ := ht_gd_ob hf
  refine va_iald hx hb hK hP 1 1 rfl rfl (ht_ix_in g_10) dX9_savesNow_59 ?_
  refine lv_iload_n hx hb dX9_savesNow_60 rfl (lv_at hl 0 rfl) ?_
  refine lv_iadd hx hb dX9_savesNow_61 ?_
  obtain ⟨g_11, hf⟩ := ht_gd_ob hf
  obtain ⟨vM_s_12, evM_s_12, hf⟩ := ht_nm_ob hf
  refine ht_iast (w2 := (wMo K jM aM vM_s_12 RM.held RM.aside RM.before RM.isHeld RM.tape RM.taped RM.token RM.frm RM.to RM.value RM.isWrong RM.unpaired RM.bestSound RM.bestWay RM.rows RM.rowN RM.sortOf RM.sizeOf RM.numbers RM.holdsWhat RM.holdsWhich RM.holdsMany RM.bodies RM.ran RM.actKind RM.actN RM.actA RM.isParted)) hx hb hK hP hD hS 1 1 rfl rfl g_11 dX9_savesNow_62 evM_s_12 rfl (fun H locs hP hD hS => ?_)
  have ho := Option.some.inj hf
  subst ho; subst hQ
  exact ht_vret hx hb hr hlk hK hP hD hS dX9_savesNow_63
abbrev rmX9_goesOn : Room := { frames := 3, cells := 0, slots := 0, locals := 71 }
theorem hdX9_goesOn : yX9_goesOn.cls = RX9 ∧ yX9_goesOn.cls ≠ "java/lang/invoke/MethodHandle" ∧ yX9_goesOn.cls ≠ "java/lang/invoke/VarHandle" ∧ (parseMethodDescriptor yX9_goesOn.desc).map (fun d => d.parameters.length) = some 0 := by decide +kernel
def fX9_goesOn_b169 (RM : ModV) (x1 : Int32) (vM_s : AI) : Option (Int32 × AI) := ht_gd (ht_ix (1 : Int32) 57) (ht_gd (ht_ix (1 : Int32) 57) (ht_nm (upd vM_s (1 : Int32).toNatClampNeg ((vM_s (1 : Int32).toNatClampNeg) + (1 : Int32))) (fun vM_s_3 => some (x1, vM_s_3))))
def fX9_goesOn_b162 (RM : ModV) (k118 : Int32 → Int32 → AI → Option (Int32 × AI)) (x1 : Int32) (x2 : Int32) (t1 : Int32) (t2 : Int32) (vM_s : AI) : Option (Int32 × AI) := ht_gd (ht_ix t1 57) (ht_nm (upd vM_s t1.toNatClampNeg t2) (fun vM_s_5 => ht_nm (x2 + (1 : Int32)) (fun x2_6 => k118 x1 x2_6 vM_s_5)))
def fX9_goesOn_b118 (RM : ModV) (k118 : Int32 → Int32 → AI → Option (Int32 × AI)) (x1 : Int32) (x2 : Int32) (vM_s : AI) : Option (Int32 × AI) := ht_gd (ht_ix (0 : Int32) 57) (if (vM_s (0 : Int32).toNatClampNeg) ≤ x2 then (fX9_goesOn_b169 RM x1 vM_s) else (ht_bn (fX9_its (vM_s, RM.held, RM.aside, RM.before, RM.isHeld, RM.tape, RM.taped, RM.token, RM.frm, RM.to, RM.value, RM.isWrong, RM.unpaired, RM.bestSound, RM.bestWay, RM.rows, RM.rowN, RM.sortOf, RM.sizeOf, RM.numbers, RM.holdsWhat, RM.holdsWhich, RM.holdsMany, RM.bodies, RM.ran, RM.actKind, RM.actN, RM.actA, RM.isParted) x2 (4 : Int32)) (fun o_9 => if o_9 ≤ 0 then (fX9_goesOn_b162 RM k118 x1 x2 (((9 : Int32) + ((6 : Int32) * x2)) + (5 : Int32)) (1 : Int32) vM_s) else (ht_bn (fX9_its (vM_s, RM.held, RM.aside, RM.before, RM.isHeld, RM.tape, RM.taped, RM.token, RM.frm, RM.to, RM.value, RM.isWrong, RM.unpaired, RM.bestSound, RM.bestWay, RM.rows, RM.rowN, RM.sortOf, RM.sizeOf, RM.numbers, RM.holdsWhat, RM.holdsWhich, RM.holdsMany, RM.bodies, RM.ran, RM.actKind, RM.actN, RM.actA, RM.isParted) x2 (5 : Int32)) (fun o_11 => fX9_goesOn_b162 RM k118 x1 x2 (((9 : Int32) + ((6 : Int32) * x2)) + (5 : Int32)) ((1 : Int32) - o_11) vM_s)))))
def fX9_goesOn_b116 (RM : ModV) (x1 : Int32) (vM_s : AI) : Option (Int32 × AI) := ht_lp3 (fX9_goesOn_b118 RM) FU x1 (0 : Int32) vM_s
def fX9_goesOn_b110 (RM : ModV) (k86 : Int32 → Int32 → AI → Option (Int32 × AI)) (x1 : Int32) (x2 : Int32) (vM_s : AI) : Option (Int32 × AI) := ht_nm (x2 + (1 : Int32)) (fun x2_12 => k86 x1 x2_12 vM_s)
def fX9_goesOn_b86 (RM : ModV) (k86 : Int32 → Int32 → AI → Option (Int32 × AI)) (x1 : Int32) (x2 : Int32) (vM_s : AI) : Option (Int32 × AI) := ht_gd (ht_ix (0 : Int32) 57) (if (vM_s (0 : Int32).toNatClampNeg) ≤ x2 then (fX9_goesOn_b116 RM x1 vM_s) else (ht_bn (fX9_its (vM_s, RM.held, RM.aside, RM.before, RM.isHeld, RM.tape, RM.taped, RM.token, RM.frm, RM.to, RM.value, RM.isWrong, RM.unpaired, RM.bestSound, RM.bestWay, RM.rows, RM.rowN, RM.sortOf, RM.sizeOf, RM.numbers, RM.holdsWhat, RM.holdsWhich, RM.holdsMany, RM.bodies, RM.ran, RM.actKind, RM.actN, RM.actA, RM.isParted) x2 (5 : Int32)) (fun o_15 => if o_15 = 0 then (ht_bn (fX9_savesNow (vM_s, RM.held, RM.aside, RM.before, RM.isHeld, RM.tape, RM.taped, RM.token, RM.frm, RM.to, RM.value, RM.isWrong, RM.unpaired, RM.bestSound, RM.bestWay, RM.rows, RM.rowN, RM.sortOf, RM.sizeOf, RM.numbers, RM.holdsWhat, RM.holdsWhich, RM.holdsMany, RM.bodies, RM.ran, RM.actKind, RM.actN, RM.actA, RM.isParted) x2) (fun o_17 => fX9_goesOn_b110 RM k86 x1 x2 o_17)) else (fX9_goesOn_b110 RM k86 x1 x2 vM_s))))
def fX9_goesOn_b65 (RM : ModV) (x1 : Int32) (vM_s : AI) : Option (Int32 × AI) := ht_gd (ht_ix (3 : Int32) 57) (ht_bn (fX9_least (99999 : Int32) ((vM_s (3 : Int32).toNatClampNeg) + x1)) (fun o_19 => ht_gd (ht_ix (3 : Int32) 57) (ht_nm (upd vM_s (3 : Int32).toNatClampNeg o_19) (fun vM_s_21 => ht_lp3 (fX9_goesOn_b86 RM) FU x1 (0 : Int32) vM_s_21))))
def fX9_goesOn_b57 (RM : ModV) (k27 : Int32 → Int32 → AI → Option (Int32 × AI)) (x2 : Int32) (t0 : Int32) (t1 : Int32) (vM_s : AI) : Option (Int32 × AI) := ht_nm (t0 + t1) (fun x1_22 => ht_nm (x2 + (1 : Int32)) (fun x2_23 => k27 x1_22 x2_23 vM_s))
def fX9_goesOn_b27 (RM : ModV) (k27 : Int32 → Int32 → AI → Option (Int32 × AI)) (x1 : Int32) (x2 : Int32) (vM_s : AI) : Option (Int32 × AI) := ht_gd (ht_ix (0 : Int32) 57) (if (vM_s (0 : Int32).toNatClampNeg) ≤ x2 then (fX9_goesOn_b65 RM x1 vM_s) else (ht_bn (fX9_its (vM_s, RM.held, RM.aside, RM.before, RM.isHeld, RM.tape, RM.taped, RM.token, RM.frm, RM.to, RM.value, RM.isWrong, RM.unpaired, RM.bestSound, RM.bestWay, RM.rows, RM.rowN, RM.sortOf, RM.sizeOf, RM.numbers, RM.holdsWhat, RM.holdsWhich, RM.holdsMany, RM.bodies, RM.ran, RM.actKind, RM.actN, RM.actA, RM.isParted) x2 (5 : Int32)) (fun o_26 => if o_26 = (1 : Int32) then (ht_bn (fX9_saysNow (vM_s, RM.held, RM.aside, RM.before, RM.isHeld, RM.tape, RM.taped, RM.token, RM.frm, RM.to, RM.value, RM.isWrong, RM.unpaired, RM.bestSound, RM.bestWay, RM.rows, RM.rowN, RM.sortOf, RM.sizeOf, RM.numbers, RM.holdsWhat, RM.holdsWhich, RM.holdsMany, RM.bodies, RM.ran, RM.actKind, RM.actN, RM.actA, RM.isParted) x2) (fun o_28 => fX9_goesOn_b57 RM k27 x2 x1 o_28.1 o_28.2)) else (fX9_goesOn_b57 RM k27 x2 x1 (0 : Int32) vM_s))))
def fX9_goesOn_b23 (RM : ModV) (vM_s : AI) : Option (Int32 × AI) := ht_lp3 (fX9_goesOn_b27 RM) FU (0 : Int32) (0 : Int32) vM_s
def fX9_goesOn_b2 (RM : ModV) (k2 : Int32 → AI → Option (Int32 × AI)) (x1 : Int32) (vM_s : AI) : Option (Int32 × AI) := ht_gd (ht_ix (0 : Int32) 57) (if (vM_s (0 : Int32).toNatClampNeg) ≤ x1 then (fX9_goesOn_b23 RM vM_s) else (ht_bn (fX9_growsNow (vM_s, RM.held, RM.aside, RM.before, RM.isHeld, RM.tape, RM.taped, RM.token, RM.frm, RM.to, RM.value, RM.isWrong, RM.unpaired, RM.bestSound, RM.bestWay, RM.rows, RM.rowN, RM.sortOf, RM.sizeOf, RM.numbers, RM.holdsWhat, RM.holdsWhich, RM.holdsMany, RM.bodies, RM.ran, RM.actKind, RM.actN, RM.actA, RM.isParted) x1) (fun o_31 => ht_nm (x1 + (1 : Int32)) (fun x1_32 => k2 x1_32 o_31))))
def fX9_goesOn (RM : ModV) : Option (Int32 × AI) := ht_lp2 (fX9_goesOn_b2 RM) FU (0 : Int32) RM.s
set_option maxHeartbeats 1000000 in
set_option maxRecDepth 100000 in
theorem ctX9_goesOn (l : Launch) (D : va_G) (K : Nat → ClassId) (jM : Nat) (aM : Nat → Nat) (RM : ModV) (o : (Int32 × AI)) (hf : fX9_goesOn RM = some o) (sz : Nat) : Met l yX9_goesOn wsX9_goesOn rmX9_goesOn (ht_Pre D K [.ref jM] (wMo K jM aM RM.s RM.held RM.aside RM.before RM.isHeld RM.tape RM.taped RM.token RM.frm RM.to RM.value RM.isWrong RM.unpaired RM.bestSound RM.bestWay RM.rows RM.rowN RM.sortOf RM.sizeOf RM.numbers RM.holdsWhat RM.holdsWhich RM.holdsMany RM.bodies RM.ran RM.actKind RM.actN RM.actA RM.isParted) sz) (ht_Qi D K (wMo K jM aM o.2 RM.held RM.aside RM.before RM.isHeld RM.tape RM.taped RM.token RM.frm RM.to RM.value RM.isWrong RM.unpaired RM.bestSound RM.bestWay RM.rows RM.rowN RM.sortOf RM.sizeOf RM.numbers RM.holdsWhat RM.holdsWhich RM.holdsMany RM.bodies RM.ran RM.actKind RM.actN RM.actA RM.isParted) o.1 (va_A (wMo K jM aM RM.s RM.held RM.aside RM.before RM.isHeld RM.tape RM.taped RM.token RM.frm RM.to RM.value RM.isWrong RM.unpaired RM.bestSound RM.bestWay RM.rows RM.rowN RM.sortOf RM.sizeOf RM.numbers RM.holdsWhat RM.holdsWhich RM.holdsMany RM.bodies RM.ran RM.actKind RM.actN RM.actA RM.isParted) sz)) 0 0 (va_A (wMo K jM aM RM.s RM.held RM.aside RM.before RM.isHeld RM.tape RM.taped RM.token RM.frm RM.to RM.value RM.isWrong RM.unpaired RM.bestSound RM.bestWay RM.rows RM.rowN RM.sortOf RM.sizeOf RM.numbers RM.holdsWhat RM.holdsWhich RM.holdsMany RM.bodies RM.ran RM.actKind RM.actN RM.actA RM.isParted) sz) := by
  refine ht_enter (Qf := ht_Qi D K (wMo K jM aM o.2 RM.held RM.aside RM.before RM.isHeld RM.tape RM.taped RM.token RM.frm RM.to RM.value RM.isWrong RM.unpaired RM.bestSound RM.bestWay RM.rows RM.rowN RM.sortOf RM.sizeOf RM.numbers RM.holdsWhat RM.holdsWhich RM.holdsMany RM.bodies RM.ran RM.actKind RM.actN RM.actA RM.isParted) o.1) (cc := cX9_goesOn) (maxL := 3) (rt := (some .int)) (by decide) rfl (Nat.le_of_ble_eq_true rfl) ?_ sz
  intro p e s m below meth c A Q H locs ls hQ hx hb hr hlk hmn hml hown hts hA hK hP hD hS hl
  have hown : s.vm.findClass RX9 = some m.cls := hown
  have hF : CallFix p m c cX9_goesOn 3 s ([.ref jM] : List Value).toArray wsX9_goesOn RX9 := ⟨hx, hb, hml, hown, hts⟩
  have hl : lv_has ls 3 [(0, .ref jM)] := hl
  have iw9 : ∀ w ∈ u_ws RX9 TX9 29, w ∈ wsX9_goesOn := by decide +kernel
  have kw1 := hts (.fieldLink RX9 7 "HeldTonguesModel" "s" "[I") (by decide +kernel)
  have kw2 := hts (.constant RX9 195 (99999)) (by decide +kernel)
  have b169 : ∀ (x1 : Int32) (vM_s : AI) (H : Heap) (locs : List Loc) (ls : Array Slot), fX9_goesOn_b169 RM x1 vM_s = some o → va_P D vwCl (wMo K jM aM vM_s RM.held RM.aside RM.before RM.isHeld RM.tape RM.taped RM.token RM.frm RM.to RM.value RM.isWrong RM.unpaired RM.bestSound RM.bestWay RM.rows RM.rowN RM.sortOf RM.sizeOf RM.numbers RM.holdsWhat RM.holdsWhich RM.holdsMany RM.bodies RM.ran RM.actKind RM.actN RM.actA RM.isParted) H → va_D A (wMo K jM aM vM_s RM.held RM.aside RM.before RM.isHeld RM.tape RM.taped RM.token RM.frm RM.to RM.value RM.isWrong RM.unpaired RM.bestSound RM.bestWay RM.rows RM.rowN RM.sortOf RM.sizeOf RM.numbers RM.holdsWhat RM.holdsWhich RM.holdsMany RM.bodies RM.ran RM.actKind RM.actN RM.actA RM.isParted) → va_S A s.heap H locs → lv_has ls 3 [(0, .ref jM), (1, .int x1)] → W p l e (headSpec wsX9_goesOn rmX9_goesOn).room s m ([.ref jM] : List Value).toArray below meth c H locs 0 0 Q (F0 m 169 ls []) := by
    intro x1 vM_s H locs ls hf hP hD hS hl
    delta fX9_goesOn_b169 at hf
    refine lv_aload_n hx hb dX9_goesOn_169 rfl (lv_at hl 0 rfl) ?_
    refine va_get (D := D) (ci := 9) (v := .ref (aM 0)) (C := RX9) (T := TX9) (N := 29) hx hb hts iw9 hown hK hP 0 rfl rfl 0 (by decide) kw1 (fun _ h9 => h9) rfl dX9_goesOn_170 ?_
    refine lv_iconst (v := 1) hx hb dX9_goesOn_173 (by decide) ?_
    refine lv_dup2_11 hx hb dX9_goesOn_174 rfl rfl ?_
    obtain ⟨g_1, hf⟩ := ht_gd_ob hf
    refine va_iald hx hb hK hP 1 1 rfl rfl (ht_ix_in g_1) dX9_goesOn_175 ?_
    refine lv_iconst (v := 1) hx hb dX9_goesOn_176 (by decide) ?_
    refine lv_iadd hx hb dX9_goesOn_177 ?_
    obtain ⟨g_2, hf⟩ := ht_gd_ob hf
    obtain ⟨vM_s_3, evM_s_3, hf⟩ := ht_nm_ob hf
    refine ht_iast (w2 := (wMo K jM aM vM_s_3 RM.held RM.aside RM.before RM.isHeld RM.tape RM.taped RM.token RM.frm RM.to RM.value RM.isWrong RM.unpaired RM.bestSound RM.bestWay RM.rows RM.rowN RM.sortOf RM.sizeOf RM.numbers RM.holdsWhat RM.holdsWhich RM.holdsMany RM.bodies RM.ran RM.actKind RM.actN RM.actA RM.isParted)) hx hb hK hP hD hS 1 1 rfl rfl g_2 dX9_goesOn_178 evM_s_3 rfl (fun H locs hP hD hS => ?_)
    refine lv_iload_n hx hb dX9_goesOn_179 rfl (lv_at hl 1 rfl) ?_
    have ho := Option.some.inj hf
    subst ho; subst hQ
    exact ht_iret hx hb hr hlk rfl hK hP hD hS dX9_goesOn_180
  have b162 : ∀ (k118 : Int32 → Int32 → AI → Option (Int32 × AI)) (hk118 : ∀ (x1 : Int32) (x2 : Int32) (vM_s : AI) (H : Heap) (locs : List Loc) (ls : Array Slot), k118 x1 x2 vM_s = some o → va_P D vwCl (wMo K jM aM vM_s RM.held RM.aside RM.before RM.isHeld RM.tape RM.taped RM.token RM.frm RM.to RM.value RM.isWrong RM.unpaired RM.bestSound RM.bestWay RM.rows RM.rowN RM.sortOf RM.sizeOf RM.numbers RM.holdsWhat RM.holdsWhich RM.holdsMany RM.bodies RM.ran RM.actKind RM.actN RM.actA RM.isParted) H → va_D A (wMo K jM aM vM_s RM.held RM.aside RM.before RM.isHeld RM.tape RM.taped RM.token RM.frm RM.to RM.value RM.isWrong RM.unpaired RM.bestSound RM.bestWay RM.rows RM.rowN RM.sortOf RM.sizeOf RM.numbers RM.holdsWhat RM.holdsWhich RM.holdsMany RM.bodies RM.ran RM.actKind RM.actN RM.actA RM.isParted) → va_S A s.heap H locs → lv_has ls 3 [(0, .ref jM), (1, .int x1), (2, .int x2)] → W p l e (headSpec wsX9_goesOn rmX9_goesOn).room s m ([.ref jM] : List Value).toArray below meth c H locs 0 0 Q (F0 m 118 ls [])) (x1 : Int32) (x2 : Int32) (t1 : Int32) (t2 : Int32) (vM_s : AI) (H : Heap) (locs : List Loc) (ls : Array Slot), fX9_goesOn_b162 RM k118 x1 x2 t1 t2 vM_s = some o → va_P D vwCl (wMo K jM aM vM_s RM.held RM.aside RM.before RM.isHeld RM.tape RM.taped RM.token RM.frm RM.to RM.value RM.isWrong RM.unpaired RM.bestSound RM.bestWay RM.rows RM.rowN RM.sortOf RM.sizeOf RM.numbers RM.holdsWhat RM.holdsWhich RM.holdsMany RM.bodies RM.ran RM.actKind RM.actN RM.actA RM.isParted) H → va_D A (wMo K jM aM vM_s RM.held RM.aside RM.before RM.isHeld RM.tape RM.taped RM.token RM.frm RM.to RM.value RM.isWrong RM.unpaired RM.bestSound RM.bestWay RM.rows RM.rowN RM.sortOf RM.sizeOf RM.numbers RM.holdsWhat RM.holdsWhich RM.holdsMany RM.bodies RM.ran RM.actKind RM.actN RM.actA RM.isParted) → va_S A s.heap H locs → lv_has ls 3 [(0, .ref jM), (1, .int x1), (2, .int x2)] → W p l e (headSpec wsX9_goesOn rmX9_goesOn).room s m ([.ref jM] : List Value).toArray below meth c H locs 0 0 Q (F0 m 162 ls [.int t2, .int t1, .ref (aM 0)]) := by
    intro k118 hk118 x1 x2 t1 t2 vM_s H locs ls hf hP hD hS hl
    delta fX9_goesOn_b162 at hf
    obtain ⟨g_4, hf⟩ := ht_gd_ob hf
    obtain ⟨vM_s_5, evM_s_5, hf⟩ := ht_nm_ob hf
    refine ht_iast (w2 := (wMo K jM aM vM_s_5 RM.held RM.aside RM.before RM.isHeld RM.tape RM.taped RM.token RM.frm RM.to RM.value RM.isWrong RM.unpaired RM.bestSound RM.bestWay RM.rows RM.rowN RM.sortOf RM.sizeOf RM.numbers RM.holdsWhat RM.holdsWhich RM.holdsMany RM.bodies RM.ran RM.actKind RM.actN RM.actA RM.isParted)) hx hb hK hP hD hS 1 1 rfl rfl g_4 dX9_goesOn_162 evM_s_5 rfl (fun H locs hP hD hS => ?_)
    obtain ⟨x2_6, ex2_6, hf⟩ := ht_nm_ob hf
    refine lv_iinc (v := x2_6) (lv' := [(2, .int x2_6), (0, .ref jM), (1, .int x1)]) hx hb dX9_goesOn_163 hl (k := 2) rfl (by rw [ex2_6]; rfl) (by decide) rfl (fun ls hl => ?_)
    refine lv_goto (tgt := 118) hx hb dX9_goesOn_166 (by decide) ?_
    exact hk118 x1 x2_6 vM_s_5 _ _ _ hf hP hD hS (lv_sub hl [1, 2, 0] rfl)
  have b118 : ∀ (n : Nat) (x1 : Int32) (x2 : Int32) (vM_s : AI) (H : Heap) (locs : List Loc) (ls : Array Slot), ht_lp3 (fX9_goesOn_b118 RM) n x1 x2 vM_s = some o → va_P D vwCl (wMo K jM aM vM_s RM.held RM.aside RM.before RM.isHeld RM.tape RM.taped RM.token RM.frm RM.to RM.value RM.isWrong RM.unpaired RM.bestSound RM.bestWay RM.rows RM.rowN RM.sortOf RM.sizeOf RM.numbers RM.holdsWhat RM.holdsWhich RM.holdsMany RM.bodies RM.ran RM.actKind RM.actN RM.actA RM.isParted) H → va_D A (wMo K jM aM vM_s RM.held RM.aside RM.before RM.isHeld RM.tape RM.taped RM.token RM.frm RM.to RM.value RM.isWrong RM.unpaired RM.bestSound RM.bestWay RM.rows RM.rowN RM.sortOf RM.sizeOf RM.numbers RM.holdsWhat RM.holdsWhich RM.holdsMany RM.bodies RM.ran RM.actKind RM.actN RM.actA RM.isParted) → va_S A s.heap H locs → lv_has ls 3 [(0, .ref jM), (1, .int x1), (2, .int x2)] → W p l e (headSpec wsX9_goesOn rmX9_goesOn).room s m ([.ref jM] : List Value).toArray below meth c H locs 0 0 Q (F0 m 118 ls []) := by
    intro n
    induction n with
    | zero =>
      intro x1 x2 vM_s H locs ls hf hP hD hS hl
      cases (show (none : Option (Int32 × AI)) = some o from hf)
    | succ n hk118 =>
      intro x1 x2 vM_s H locs ls hf hP hD hS hl
      replace hf : fX9_goesOn_b118 RM (ht_lp3 (fX9_goesOn_b118 RM) n) x1 x2 vM_s = some o := hf
      delta fX9_goesOn_b118 at hf
      refine lv_iload_n hx hb dX9_goesOn_118 rfl (lv_at hl 2 rfl) ?_
      refine lv_aload_n hx hb dX9_goesOn_119 rfl (lv_at hl 0 rfl) ?_
      refine va_get (D := D) (ci := 9) (v := .ref (aM 0)) (C := RX9) (T := TX9) (N := 29) hx hb hts iw9 hown hK hP 0 rfl rfl 0 (by decide) kw1 (fun _ h9 => h9) rfl dX9_goesOn_120 ?_
      refine lv_iconst (v := 0) hx hb dX9_goesOn_123 (by decide) ?_
      obtain ⟨g_7, hf⟩ := ht_gd_ob hf
      refine va_iald hx hb hK hP 1 1 rfl rfl (ht_ix_in g_7) dX9_goesOn_124 ?_
      refine lv_icmp_ge (tgt := 169) hx hb dX9_goesOn_125 (by decide) (fun c_8 => ?_) (fun c_8 => ?_)
      · replace hf := ht_t c_8 hf
        exact b169  x1 vM_s _ _ _ hf hP hD hS (lv_sub hl [0, 1] rfl)
      · replace hf := ht_f c_8 hf
        refine lv_aload_n hx hb dX9_goesOn_128 rfl (lv_at hl 0 rfl) ?_
        refine va_get (D := D) (ci := 9) (v := .ref (aM 0)) (C := RX9) (T := TX9) (N := 29) hx hb hts iw9 hown hK hP 0 rfl rfl 0 (by decide) kw1 (fun _ h9 => h9) rfl dX9_goesOn_129 ?_
        refine lv_bipush (v := 9) hx hb dX9_goesOn_132 (by decide) ?_
        refine lv_bipush (v := 6) hx hb dX9_goesOn_134 (by decide) ?_
        refine lv_iload_n hx hb dX9_goesOn_136 rfl (lv_at hl 2 rfl) ?_
        refine lv_imul hx hb dX9_goesOn_137 ?_
        refine lv_iadd hx hb dX9_goesOn_138 ?_
        refine lv_iconst (v := 5) hx hb dX9_goesOn_139 (by decide) ?_
        refine lv_iadd hx hb dX9_goesOn_140 ?_
        refine lv_aload_n hx hb dX9_goesOn_141 rfl (lv_at hl 0 rfl) ?_
        refine lv_iload_n hx hb dX9_goesOn_142 rfl (lv_at hl 2 rfl) ?_
        refine lv_iconst (v := 4) hx hb dX9_goesOn_143 (by decide) ?_
        obtain ⟨o_9, ho_9, hf⟩ := ht_bn_ob hf
        refine ht_callVi (r := o_9) (rest := [.int (((9 : Int32) + ((6 : Int32) * x2)) + (5 : Int32)), .ref (aM 0)]) (As := [.int x2, .int (4 : Int32)]) (wc := (wMo K jM aM vM_s RM.held RM.aside RM.before RM.isHeld RM.tape RM.taped RM.token RM.frm RM.to RM.value RM.isWrong RM.unpaired RM.bestSound RM.bestWay RM.rows RM.rowN RM.sortOf RM.sizeOf RM.numbers RM.holdsWhat RM.holdsWhich RM.holdsMany RM.bodies RM.ran RM.actKind RM.actN RM.actA RM.isParted)) (wr := []) (w1 := (wMo K jM aM vM_s RM.held RM.aside RM.before RM.isHeld RM.tape RM.taped RM.token RM.frm RM.to RM.value RM.isWrong RM.unpaired RM.bestSound RM.bestWay RM.rows RM.rowN RM.sortOf RM.sizeOf RM.numbers RM.holdsWhat RM.holdsWhich RM.holdsMany RM.bodies RM.ran RM.actKind RM.actN RM.actA RM.isParted)) (w2 := (wMo K jM aM vM_s RM.held RM.aside RM.before RM.isHeld RM.tape RM.taped RM.token RM.frm RM.to RM.value RM.isWrong RM.unpaired RM.bestSound RM.bestWay RM.rows RM.rowN RM.sortOf RM.sizeOf RM.numbers RM.holdsWhat RM.holdsWhich RM.holdsMany RM.bodies RM.ran RM.actKind RM.actN RM.actA RM.isParted)) hF (ctX9_its l D K jM aM (vM_s, RM.held, RM.aside, RM.before, RM.isHeld, RM.tape, RM.taped, RM.token, RM.frm, RM.to, RM.value, RM.isWrong, RM.unpaired, RM.bestSound, RM.bestWay, RM.rows, RM.rowN, RM.sortOf, RM.sizeOf, RM.numbers, RM.holdsWhat, RM.holdsWhich, RM.holdsMany, RM.bodies, RM.ran, RM.actKind, RM.actN, RM.actA, RM.isParted) x2 (4 : Int32) o_9 ho_9 H.size) (cwV 2 hts gX9_goesOn_X9_its rfl rfl rfl hdX9_its ⟨Nat.le_of_ble_eq_true rfl, Nat.le_of_ble_eq_true rfl⟩) hK hP hD hS hA [0, 1, 2, 3, 4, 5, 6, 7, 8, 9, 10, 11, 12, 13, 14, 15] [] rfl rfl (by decide) (by decide) (by decide) [0, 1, 2, 3, 4, 5, 6, 7, 8, 9, 10, 11, 12, 13, 14, 15] rfl (by decide) (va_recv hK hP (ci := 9) (q0 := 0) rfl rfl) rfl hl.1 rfl (Nat.le_of_ble_eq_true rfl) dX9_goesOn_144 ⟨Nat.zero_le _, Nat.zero_le _⟩ (fun H locs hP hD hS => ?_)
        refine lv_if_le (tgt := 161) hx hb dX9_goesOn_147 (by decide) (fun c_10 => ?_) (fun c_10 => ?_)
        · replace hf := ht_t c_10 hf
          refine lv_iconst (v := 1) hx hb dX9_goesOn_161 (by decide) ?_
          exact b162 _ hk118 x1 x2 (((9 : Int32) + ((6 : Int32) * x2)) + (5 : Int32)) (1 : Int32) vM_s _ _ _ hf hP hD hS hl
        · replace hf := ht_f c_10 hf
          refine lv_iconst (v := 1) hx hb dX9_goesOn_150 (by decide) ?_
          refine lv_aload_n hx hb dX9_goesOn_151 rfl (lv_at hl 0 rfl) ?_
          refine lv_iload_n hx hb dX9_goesOn_152 rfl (lv_at hl 2 rfl) ?_
          refine lv_iconst (v := 5) hx hb dX9_goesOn_153 (by decide) ?_
          obtain ⟨o_11, ho_11, hf⟩ := ht_bn_ob hf
          refine ht_callVi (r := o_11) (rest := [.int (1 : Int32), .int (((9 : Int32) + ((6 : Int32) * x2)) + (5 : Int32)), .ref (aM 0)]) (As := [.int x2, .int (5 : Int32)]) (wc := (wMo K jM aM vM_s RM.held RM.aside RM.before RM.isHeld RM.tape RM.taped RM.token RM.frm RM.to RM.value RM.isWrong RM.unpaired RM.bestSound RM.bestWay RM.rows RM.rowN RM.sortOf RM.sizeOf RM.numbers RM.holdsWhat RM.holdsWhich RM.holdsMany RM.bodies RM.ran RM.actKind RM.actN RM.actA RM.isParted)) (wr := []) (w1 := (wMo K jM aM vM_s RM.held RM.aside RM.before RM.isHeld RM.tape RM.taped RM.token RM.frm RM.to RM.value RM.isWrong RM.unpaired RM.bestSound RM.bestWay RM.rows RM.rowN RM.sortOf RM.sizeOf RM.numbers RM.holdsWhat RM.holdsWhich RM.holdsMany RM.bodies RM.ran RM.actKind RM.actN RM.actA RM.isParted)) (w2 := (wMo K jM aM vM_s RM.held RM.aside RM.before RM.isHeld RM.tape RM.taped RM.token RM.frm RM.to RM.value RM.isWrong RM.unpaired RM.bestSound RM.bestWay RM.rows RM.rowN RM.sortOf RM.sizeOf RM.numbers RM.holdsWhat RM.holdsWhich RM.holdsMany RM.bodies RM.ran RM.actKind RM.actN RM.actA RM.isParted)) hF (ctX9_its l D K jM aM (vM_s, RM.held, RM.aside, RM.before, RM.isHeld, RM.tape, RM.taped, RM.token, RM.frm, RM.to, RM.value, RM.isWrong, RM.unpaired, RM.bestSound, RM.bestWay, RM.rows, RM.rowN, RM.sortOf, RM.sizeOf, RM.numbers, RM.holdsWhat, RM.holdsWhich, RM.holdsMany, RM.bodies, RM.ran, RM.actKind, RM.actN, RM.actA, RM.isParted) x2 (5 : Int32) o_11 ho_11 H.size) (cwV 2 hts gX9_goesOn_X9_its rfl rfl rfl hdX9_its ⟨Nat.le_of_ble_eq_true rfl, Nat.le_of_ble_eq_true rfl⟩) hK hP hD hS hA [0, 1, 2, 3, 4, 5, 6, 7, 8, 9, 10, 11, 12, 13, 14, 15] [] rfl rfl (by decide) (by decide) (by decide) [0, 1, 2, 3, 4, 5, 6, 7, 8, 9, 10, 11, 12, 13, 14, 15] rfl (by decide) (va_recv hK hP (ci := 9) (q0 := 0) rfl rfl) rfl hl.1 rfl (Nat.le_of_ble_eq_true rfl) dX9_goesOn_154 ⟨Nat.zero_le _, Nat.zero_le _⟩ (fun H locs hP hD hS => ?_)
          refine lv_isub hx hb dX9_goesOn_157 ?_
          refine lv_goto (tgt := 162) hx hb dX9_goesOn_158 (by decide) ?_
          exact b162 _ hk118 x1 x2 (((9 : Int32) + ((6 : Int32) * x2)) + (5 : Int32)) ((1 : Int32) - o_11) vM_s _ _ _ hf hP hD hS hl
  have b116 : ∀ (x1 : Int32) (vM_s : AI) (H : Heap) (locs : List Loc) (ls : Array Slot), fX9_goesOn_b116 RM x1 vM_s = some o → va_P D vwCl (wMo K jM aM vM_s RM.held RM.aside RM.before RM.isHeld RM.tape RM.taped RM.token RM.frm RM.to RM.value RM.isWrong RM.unpaired RM.bestSound RM.bestWay RM.rows RM.rowN RM.sortOf RM.sizeOf RM.numbers RM.holdsWhat RM.holdsWhich RM.holdsMany RM.bodies RM.ran RM.actKind RM.actN RM.actA RM.isParted) H → va_D A (wMo K jM aM vM_s RM.held RM.aside RM.before RM.isHeld RM.tape RM.taped RM.token RM.frm RM.to RM.value RM.isWrong RM.unpaired RM.bestSound RM.bestWay RM.rows RM.rowN RM.sortOf RM.sizeOf RM.numbers RM.holdsWhat RM.holdsWhich RM.holdsMany RM.bodies RM.ran RM.actKind RM.actN RM.actA RM.isParted) → va_S A s.heap H locs → lv_has ls 3 [(0, .ref jM), (1, .int x1)] → W p l e (headSpec wsX9_goesOn rmX9_goesOn).room s m ([.ref jM] : List Value).toArray below meth c H locs 0 0 Q (F0 m 116 ls []) := by
    intro x1 vM_s H locs ls hf hP hD hS hl
    delta fX9_goesOn_b116 at hf
    refine lv_iconst (v := 0) hx hb dX9_goesOn_116 (by decide) ?_
    refine lv_istore_n (lv' := [(2, .int (0 : Int32)), (0, .ref jM), (1, .int x1)]) hx hb dX9_goesOn_117 rfl hl (by decide) rfl (fun ls hl => ?_)
    exact b118  FU x1 (0 : Int32) vM_s _ _ _ hf hP hD hS (lv_sub hl [1, 2, 0] rfl)
  have b110 : ∀ (k86 : Int32 → Int32 → AI → Option (Int32 × AI)) (hk86 : ∀ (x1 : Int32) (x2 : Int32) (vM_s : AI) (H : Heap) (locs : List Loc) (ls : Array Slot), k86 x1 x2 vM_s = some o → va_P D vwCl (wMo K jM aM vM_s RM.held RM.aside RM.before RM.isHeld RM.tape RM.taped RM.token RM.frm RM.to RM.value RM.isWrong RM.unpaired RM.bestSound RM.bestWay RM.rows RM.rowN RM.sortOf RM.sizeOf RM.numbers RM.holdsWhat RM.holdsWhich RM.holdsMany RM.bodies RM.ran RM.actKind RM.actN RM.actA RM.isParted) H → va_D A (wMo K jM aM vM_s RM.held RM.aside RM.before RM.isHeld RM.tape RM.taped RM.token RM.frm RM.to RM.value RM.isWrong RM.unpaired RM.bestSound RM.bestWay RM.rows RM.rowN RM.sortOf RM.sizeOf RM.numbers RM.holdsWhat RM.holdsWhich RM.holdsMany RM.bodies RM.ran RM.actKind RM.actN RM.actA RM.isParted) → va_S A s.heap H locs → lv_has ls 3 [(0, .ref jM), (1, .int x1), (2, .int x2)] → W p l e (headSpec wsX9_goesOn rmX9_goesOn).room s m ([.ref jM] : List Value).toArray below meth c H locs 0 0 Q (F0 m 86 ls [])) (x1 : Int32) (x2 : Int32) (vM_s : AI) (H : Heap) (locs : List Loc) (ls : Array Slot), fX9_goesOn_b110 RM k86 x1 x2 vM_s = some o → va_P D vwCl (wMo K jM aM vM_s RM.held RM.aside RM.before RM.isHeld RM.tape RM.taped RM.token RM.frm RM.to RM.value RM.isWrong RM.unpaired RM.bestSound RM.bestWay RM.rows RM.rowN RM.sortOf RM.sizeOf RM.numbers RM.holdsWhat RM.holdsWhich RM.holdsMany RM.bodies RM.ran RM.actKind RM.actN RM.actA RM.isParted) H → va_D A (wMo K jM aM vM_s RM.held RM.aside RM.before RM.isHeld RM.tape RM.taped RM.token RM.frm RM.to RM.value RM.isWrong RM.unpaired RM.bestSound RM.bestWay RM.rows RM.rowN RM.sortOf RM.sizeOf RM.numbers RM.holdsWhat RM.holdsWhich RM.holdsMany RM.bodies RM.ran RM.actKind RM.actN RM.actA RM.isParted) → va_S A s.heap H locs → lv_has ls 3 [(0, .ref jM), (1, .int x1), (2, .int x2)] → W p l e (headSpec wsX9_goesOn rmX9_goesOn).room s m ([.ref jM] : List Value).toArray below meth c H locs 0 0 Q (F0 m 110 ls []) := by
    intro k86 hk86 x1 x2 vM_s H locs ls hf hP hD hS hl
    delta fX9_goesOn_b110 at hf
    obtain ⟨x2_12, ex2_12, hf⟩ := ht_nm_ob hf
    refine lv_iinc (v := x2_12) (lv' := [(2, .int x2_12), (0, .ref jM), (1, .int x1)]) hx hb dX9_goesOn_110 hl (k := 2) rfl (by rw [ex2_12]; rfl) (by decide) rfl (fun ls hl => ?_)
    refine lv_goto (tgt := 86) hx hb dX9_goesOn_113 (by decide) ?_
    exact hk86 x1 x2_12 vM_s _ _ _ hf hP hD hS (lv_sub hl [1, 2, 0] rfl)
  have b86 : ∀ (n : Nat) (x1 : Int32) (x2 : Int32) (vM_s : AI) (H : Heap) (locs : List Loc) (ls : Array Slot), ht_lp3 (fX9_goesOn_b86 RM) n x1 x2 vM_s = some o → va_P D vwCl (wMo K jM aM vM_s RM.held RM.aside RM.before RM.isHeld RM.tape RM.taped RM.token RM.frm RM.to RM.value RM.isWrong RM.unpaired RM.bestSound RM.bestWay RM.rows RM.rowN RM.sortOf RM.sizeOf RM.numbers RM.holdsWhat RM.holdsWhich RM.holdsMany RM.bodies RM.ran RM.actKind RM.actN RM.actA RM.isParted) H → va_D A (wMo K jM aM vM_s RM.held RM.aside RM.before RM.isHeld RM.tape RM.taped RM.token RM.frm RM.to RM.value RM.isWrong RM.unpaired RM.bestSound RM.bestWay RM.rows RM.rowN RM.sortOf RM.sizeOf RM.numbers RM.holdsWhat RM.holdsWhich RM.holdsMany RM.bodies RM.ran RM.actKind RM.actN RM.actA RM.isParted) → va_S A s.heap H locs → lv_has ls 3 [(0, .ref jM), (1, .int x1), (2, .int x2)] → W p l e (headSpec wsX9_goesOn rmX9_goesOn).room s m ([.ref jM] : List Value).toArray below meth c H locs 0 0 Q (F0 m 86 ls []) := by
    intro n
    induction n with
    | zero =>
      intro x1 x2 vM_s H locs ls hf hP hD hS hl
      cases (show (none : Option (Int32 × AI)) = some o from hf)
    | succ n hk86 =>
      intro x1 x2 vM_s H locs ls hf hP hD hS hl
      replace hf : fX9_goesOn_b86 RM (ht_lp3 (fX9_goesOn_b86 RM) n) x1 x2 vM_s = some o := hf
      delta fX9_goesOn_b86 at hf
      refine lv_iload_n hx hb dX9_goesOn_86 rfl (lv_at hl 2 rfl) ?_
      refine lv_aload_n hx hb dX9_goesOn_87 rfl (lv_at hl 0 rfl) ?_
      refine va_get (D := D) (ci := 9) (v := .ref (aM 0)) (C := RX9) (T := TX9) (N := 29) hx hb hts iw9 hown hK hP 0 rfl rfl 0 (by decide) kw1 (fun _ h9 => h9) rfl dX9_goesOn_88 ?_
      refine lv_iconst (v := 0) hx hb dX9_goesOn_91 (by decide) ?_
      obtain ⟨g_13, hf⟩ := ht_gd_ob hf
      refine va_iald hx hb hK hP 1 1 rfl rfl (ht_ix_in g_13) dX9_goesOn_92 ?_
      refine lv_icmp_ge (tgt := 116) hx hb dX9_goesOn_93 (by decide) (fun c_14 => ?_) (fun c_14 => ?_)
      · replace hf := ht_t c_14 hf
        exact b116  x1 vM_s _ _ _ hf hP hD hS (lv_sub hl [0, 1] rfl)
      · replace hf := ht_f c_14 hf
        refine lv_aload_n hx hb dX9_goesOn_96 rfl (lv_at hl 0 rfl) ?_
        refine lv_iload_n hx hb dX9_goesOn_97 rfl (lv_at hl 2 rfl) ?_
        refine lv_iconst (v := 5) hx hb dX9_goesOn_98 (by decide) ?_
        obtain ⟨o_15, ho_15, hf⟩ := ht_bn_ob hf
        refine ht_callVi (r := o_15) (rest := []) (As := [.int x2, .int (5 : Int32)]) (wc := (wMo K jM aM vM_s RM.held RM.aside RM.before RM.isHeld RM.tape RM.taped RM.token RM.frm RM.to RM.value RM.isWrong RM.unpaired RM.bestSound RM.bestWay RM.rows RM.rowN RM.sortOf RM.sizeOf RM.numbers RM.holdsWhat RM.holdsWhich RM.holdsMany RM.bodies RM.ran RM.actKind RM.actN RM.actA RM.isParted)) (wr := []) (w1 := (wMo K jM aM vM_s RM.held RM.aside RM.before RM.isHeld RM.tape RM.taped RM.token RM.frm RM.to RM.value RM.isWrong RM.unpaired RM.bestSound RM.bestWay RM.rows RM.rowN RM.sortOf RM.sizeOf RM.numbers RM.holdsWhat RM.holdsWhich RM.holdsMany RM.bodies RM.ran RM.actKind RM.actN RM.actA RM.isParted)) (w2 := (wMo K jM aM vM_s RM.held RM.aside RM.before RM.isHeld RM.tape RM.taped RM.token RM.frm RM.to RM.value RM.isWrong RM.unpaired RM.bestSound RM.bestWay RM.rows RM.rowN RM.sortOf RM.sizeOf RM.numbers RM.holdsWhat RM.holdsWhich RM.holdsMany RM.bodies RM.ran RM.actKind RM.actN RM.actA RM.isParted)) hF (ctX9_its l D K jM aM (vM_s, RM.held, RM.aside, RM.before, RM.isHeld, RM.tape, RM.taped, RM.token, RM.frm, RM.to, RM.value, RM.isWrong, RM.unpaired, RM.bestSound, RM.bestWay, RM.rows, RM.rowN, RM.sortOf, RM.sizeOf, RM.numbers, RM.holdsWhat, RM.holdsWhich, RM.holdsMany, RM.bodies, RM.ran, RM.actKind, RM.actN, RM.actA, RM.isParted) x2 (5 : Int32) o_15 ho_15 H.size) (cwV 2 hts gX9_goesOn_X9_its rfl rfl rfl hdX9_its ⟨Nat.le_of_ble_eq_true rfl, Nat.le_of_ble_eq_true rfl⟩) hK hP hD hS hA [0, 1, 2, 3, 4, 5, 6, 7, 8, 9, 10, 11, 12, 13, 14, 15] [] rfl rfl (by decide) (by decide) (by decide) [0, 1, 2, 3, 4, 5, 6, 7, 8, 9, 10, 11, 12, 13, 14, 15] rfl (by decide) (va_recv hK hP (ci := 9) (q0 := 0) rfl rfl) rfl hl.1 rfl (Nat.le_of_ble_eq_true rfl) dX9_goesOn_99 ⟨Nat.zero_le _, Nat.zero_le _⟩ (fun H locs hP hD hS => ?_)
        refine lv_if_ne (tgt := 110) hx hb dX9_goesOn_102 (by decide) (fun c_16 => ?_) (fun c_16 => ?_)
        · replace hf := ht_f c_16 hf
          exact b110 _ hk86 x1 x2 vM_s _ _ _ hf hP hD hS hl
        · replace hf := ht_t c_16 hf
          refine lv_aload_n hx hb dX9_goesOn_105 rfl (lv_at hl 0 rfl) ?_
          refine lv_iload_n hx hb dX9_goesOn_106 rfl (lv_at hl 2 rfl) ?_
          obtain ⟨o_17, ho_17, hf⟩ := ht_bn_ob hf
          refine ht_callVv (rest := []) (As := [.int x2]) (wc := (wMo K jM aM vM_s RM.held RM.aside RM.before RM.isHeld RM.tape RM.taped RM.token RM.frm RM.to RM.value RM.isWrong RM.unpaired RM.bestSound RM.bestWay RM.rows RM.rowN RM.sortOf RM.sizeOf RM.numbers RM.holdsWhat RM.holdsWhich RM.holdsMany RM.bodies RM.ran RM.actKind RM.actN RM.actA RM.isParted)) (wr := []) (w1 := (wMo K jM aM o_17 RM.held RM.aside RM.before RM.isHeld RM.tape RM.taped RM.token RM.frm RM.to RM.value RM.isWrong RM.unpaired RM.bestSound RM.bestWay RM.rows RM.rowN RM.sortOf RM.sizeOf RM.numbers RM.holdsWhat RM.holdsWhich RM.holdsMany RM.bodies RM.ran RM.actKind RM.actN RM.actA RM.isParted)) (w2 := (wMo K jM aM o_17 RM.held RM.aside RM.before RM.isHeld RM.tape RM.taped RM.token RM.frm RM.to RM.value RM.isWrong RM.unpaired RM.bestSound RM.bestWay RM.rows RM.rowN RM.sortOf RM.sizeOf RM.numbers RM.holdsWhat RM.holdsWhich RM.holdsMany RM.bodies RM.ran RM.actKind RM.actN RM.actA RM.isParted)) hF (ctX9_savesNow l D K jM aM (vM_s, RM.held, RM.aside, RM.before, RM.isHeld, RM.tape, RM.taped, RM.token, RM.frm, RM.to, RM.value, RM.isWrong, RM.unpaired, RM.bestSound, RM.bestWay, RM.rows, RM.rowN, RM.sortOf, RM.sizeOf, RM.numbers, RM.holdsWhat, RM.holdsWhich, RM.holdsMany, RM.bodies, RM.ran, RM.actKind, RM.actN, RM.actA, RM.isParted) x2 o_17 ho_17 H.size) (cwV 1 hts gX9_goesOn_X9_savesNow rfl rfl rfl hdX9_savesNow ⟨Nat.le_of_ble_eq_true rfl, Nat.le_of_ble_eq_true rfl⟩) hK hP hD hS hA [0, 1, 2, 3, 4, 5, 6, 7, 8, 9, 10, 11, 12, 13, 14, 15] [] rfl rfl (by decide) (by decide) (by decide) [0, 1, 2, 3, 4, 5, 6, 7, 8, 9, 10, 11, 12, 13, 14, 15] rfl (by decide) (va_recv hK hP (ci := 9) (q0 := 0) rfl rfl) rfl hl.1 rfl (Nat.le_of_ble_eq_true rfl) dX9_goesOn_107 ⟨Nat.zero_le _, Nat.zero_le _⟩ (fun H locs hP hD hS => ?_)
          exact b110 _ hk86 x1 x2 o_17 _ _ _ hf hP hD hS hl
  have b65 : ∀ (x1 : Int32) (vM_s : AI) (H : Heap) (locs : List Loc) (ls : Array Slot), fX9_goesOn_b65 RM x1 vM_s = some o → va_P D vwCl (wMo K jM aM vM_s RM.held RM.aside RM.before RM.isHeld RM.tape RM.taped RM.token RM.frm RM.to RM.value RM.isWrong RM.unpaired RM.bestSound RM.bestWay RM.rows RM.rowN RM.sortOf RM.sizeOf RM.numbers RM.holdsWhat RM.holdsWhich RM.holdsMany RM.bodies RM.ran RM.actKind RM.actN RM.actA RM.isParted) H → va_D A (wMo K jM aM vM_s RM.held RM.aside RM.before RM.isHeld RM.tape RM.taped RM.token RM.frm RM.to RM.value RM.isWrong RM.unpaired RM.bestSound RM.bestWay RM.rows RM.rowN RM.sortOf RM.sizeOf RM.numbers RM.holdsWhat RM.holdsWhich RM.holdsMany RM.bodies RM.ran RM.actKind RM.actN RM.actA RM.isParted) → va_S A s.heap H locs → lv_has ls 3 [(0, .ref jM), (1, .int x1)] → W p l e (headSpec wsX9_goesOn rmX9_goesOn).room s m ([.ref jM] : List Value).toArray below meth c H locs 0 0 Q (F0 m 65 ls []) := by
    intro x1 vM_s H locs ls hf hP hD hS hl
    delta fX9_goesOn_b65 at hf
    refine lv_aload_n hx hb dX9_goesOn_65 rfl (lv_at hl 0 rfl) ?_
    refine va_get (D := D) (ci := 9) (v := .ref (aM 0)) (C := RX9) (T := TX9) (N := 29) hx hb hts iw9 hown hK hP 0 rfl rfl 0 (by decide) kw1 (fun _ h9 => h9) rfl dX9_goesOn_66 ?_
    refine lv_iconst (v := 3) hx hb dX9_goesOn_69 (by decide) ?_
    refine lv_ldc hx hb hown kw2 dX9_goesOn_70 ?_
    refine lv_aload_n hx hb dX9_goesOn_72 rfl (lv_at hl 0 rfl) ?_
    refine va_get (D := D) (ci := 9) (v := .ref (aM 0)) (C := RX9) (T := TX9) (N := 29) hx hb hts iw9 hown hK hP 0 rfl rfl 0 (by decide) kw1 (fun _ h9 => h9) rfl dX9_goesOn_73 ?_
    refine lv_iconst (v := 3) hx hb dX9_goesOn_76 (by decide) ?_
    obtain ⟨g_18, hf⟩ := ht_gd_ob hf
    refine va_iald hx hb hK hP 1 1 rfl rfl (ht_ix_in g_18) dX9_goesOn_77 ?_
    refine lv_iload_n hx hb dX9_goesOn_78 rfl (lv_at hl 1 rfl) ?_
    refine lv_iadd hx hb dX9_goesOn_79 ?_
    obtain ⟨o_19, ho_19, hf⟩ := ht_bn_ob hf
    refine ht_callSi (r := o_19) (rest := [.int (3 : Int32), .ref (aM 0)]) (As := [.int (99999 : Int32), .int ((vM_s (3 : Int32).toNatClampNeg) + x1)]) (wc := []) (wr := (wMo K jM aM vM_s RM.held RM.aside RM.before RM.isHeld RM.tape RM.taped RM.token RM.frm RM.to RM.value RM.isWrong RM.unpaired RM.bestSound RM.bestWay RM.rows RM.rowN RM.sortOf RM.sizeOf RM.numbers RM.holdsWhat RM.holdsWhich RM.holdsMany RM.bodies RM.ran RM.actKind RM.actN RM.actA RM.isParted)) (w1 := []) (w2 := (wMo K jM aM vM_s RM.held RM.aside RM.before RM.isHeld RM.tape RM.taped RM.token RM.frm RM.to RM.value RM.isWrong RM.unpaired RM.bestSound RM.bestWay RM.rows RM.rowN RM.sortOf RM.sizeOf RM.numbers RM.holdsWhat RM.holdsWhich RM.holdsMany RM.bodies RM.ran RM.actKind RM.actN RM.actA RM.isParted)) hF (ctX9_least l D K (99999 : Int32) ((vM_s (3 : Int32).toNatClampNeg) + x1) o_19 ho_19 H.size) (va_cwS 2 hts gX9_goesOn_X9_least rfl rfl rfl hdX9_least ⟨Nat.le_of_ble_eq_true rfl, Nat.le_of_ble_eq_true rfl⟩) hK hP hD hS hA [] [0, 1, 2, 3, 4, 5, 6, 7, 8, 9, 10, 11, 12, 13, 14, 15] rfl rfl (by decide) (by decide) (by decide) [0, 1, 2, 3, 4, 5, 6, 7, 8, 9, 10, 11, 12, 13, 14, 15] rfl (by decide) rfl hl.1 rfl (Nat.le_of_ble_eq_true rfl) dX9_goesOn_80 ⟨Nat.zero_le _, Nat.zero_le _⟩ (fun H locs hP hD hS => ?_)
    obtain ⟨g_20, hf⟩ := ht_gd_ob hf
    obtain ⟨vM_s_21, evM_s_21, hf⟩ := ht_nm_ob hf
    refine ht_iast (w2 := (wMo K jM aM vM_s_21 RM.held RM.aside RM.before RM.isHeld RM.tape RM.taped RM.token RM.frm RM.to RM.value RM.isWrong RM.unpaired RM.bestSound RM.bestWay RM.rows RM.rowN RM.sortOf RM.sizeOf RM.numbers RM.holdsWhat RM.holdsWhich RM.holdsMany RM.bodies RM.ran RM.actKind RM.actN RM.actA RM.isParted)) hx hb hK hP hD hS 1 1 rfl rfl g_20 dX9_goesOn_83 evM_s_21 rfl (fun H locs hP hD hS => ?_)
    refine lv_iconst (v := 0) hx hb dX9_goesOn_84 (by decide) ?_
    refine lv_istore_n (lv' := [(2, .int (0 : Int32)), (0, .ref jM), (1, .int x1)]) hx hb dX9_goesOn_85 rfl hl (by decide) rfl (fun ls hl => ?_)
    exact b86  FU x1 (0 : Int32) vM_s_21 _ _ _ hf hP hD hS (lv_sub hl [1, 2, 0] rfl)
  have b57 : ∀ (k27 : Int32 → Int32 → AI → Option (Int32 × AI)) (hk27 : ∀ (x1 : Int32) (x2 : Int32) (vM_s : AI) (H : Heap) (locs : List Loc) (ls : Array Slot), k27 x1 x2 vM_s = some o → va_P D vwCl (wMo K jM aM vM_s RM.held RM.aside RM.before RM.isHeld RM.tape RM.taped RM.token RM.frm RM.to RM.value RM.isWrong RM.unpaired RM.bestSound RM.bestWay RM.rows RM.rowN RM.sortOf RM.sizeOf RM.numbers RM.holdsWhat RM.holdsWhich RM.holdsMany RM.bodies RM.ran RM.actKind RM.actN RM.actA RM.isParted) H → va_D A (wMo K jM aM vM_s RM.held RM.aside RM.before RM.isHeld RM.tape RM.taped RM.token RM.frm RM.to RM.value RM.isWrong RM.unpaired RM.bestSound RM.bestWay RM.rows RM.rowN RM.sortOf RM.sizeOf RM.numbers RM.holdsWhat RM.holdsWhich RM.holdsMany RM.bodies RM.ran RM.actKind RM.actN RM.actA RM.isParted) → va_S A s.heap H locs → lv_has ls 3 [(0, .ref jM), (1, .int x1), (2, .int x2)] → W p l e (headSpec wsX9_goesOn rmX9_goesOn).room s m ([.ref jM] : List Value).toArray below meth c H locs 0 0 Q (F0 m 27 ls [])) (x2 : Int32) (t0 : Int32) (t1 : Int32) (vM_s : AI) (H : Heap) (locs : List Loc) (ls : Array Slot), fX9_goesOn_b57 RM k27 x2 t0 t1 vM_s = some o → va_P D vwCl (wMo K jM aM vM_s RM.held RM.aside RM.before RM.isHeld RM.tape RM.taped RM.token RM.frm RM.to RM.value RM.isWrong RM.unpaired RM.bestSound RM.bestWay RM.rows RM.rowN RM.sortOf RM.sizeOf RM.numbers RM.holdsWhat RM.holdsWhich RM.holdsMany RM.bodies RM.ran RM.actKind RM.actN RM.actA RM.isParted) H → va_D A (wMo K jM aM vM_s RM.held RM.aside RM.before RM.isHeld RM.tape RM.taped RM.token RM.frm RM.to RM.value RM.isWrong RM.unpaired RM.bestSound RM.bestWay RM.rows RM.rowN RM.sortOf RM.sizeOf RM.numbers RM.holdsWhat RM.holdsWhich RM.holdsMany RM.bodies RM.ran RM.actKind RM.actN RM.actA RM.isParted) → va_S A s.heap H locs → lv_has ls 3 [(0, .ref jM), (2, .int x2)] → W p l e (headSpec wsX9_goesOn rmX9_goesOn).room s m ([.ref jM] : List Value).toArray below meth c H locs 0 0 Q (F0 m 57 ls [.int t1, .int t0]) := by
    intro k27 hk27 x2 t0 t1 vM_s H locs ls hf hP hD hS hl
    delta fX9_goesOn_b57 at hf
    refine lv_iadd hx hb dX9_goesOn_57 ?_
    obtain ⟨x1_22, ex1_22, hf⟩ := ht_nm_ob hf
    rw [← ex1_22]
    refine lv_istore_n (lv' := [(1, .int x1_22), (0, .ref jM), (2, .int x2)]) hx hb dX9_goesOn_58 rfl hl (by decide) rfl (fun ls hl => ?_)
    obtain ⟨x2_23, ex2_23, hf⟩ := ht_nm_ob hf
    refine lv_iinc (v := x2_23) (lv' := [(2, .int x2_23), (1, .int x1_22), (0, .ref jM)]) hx hb dX9_goesOn_59 hl (k := 2) rfl (by rw [ex2_23]; rfl) (by decide) rfl (fun ls hl => ?_)
    refine lv_goto (tgt := 27) hx hb dX9_goesOn_62 (by decide) ?_
    exact hk27 x1_22 x2_23 vM_s _ _ _ hf hP hD hS (lv_sub hl [2, 1, 0] rfl)
  have b27 : ∀ (n : Nat) (x1 : Int32) (x2 : Int32) (vM_s : AI) (H : Heap) (locs : List Loc) (ls : Array Slot), ht_lp3 (fX9_goesOn_b27 RM) n x1 x2 vM_s = some o → va_P D vwCl (wMo K jM aM vM_s RM.held RM.aside RM.before RM.isHeld RM.tape RM.taped RM.token RM.frm RM.to RM.value RM.isWrong RM.unpaired RM.bestSound RM.bestWay RM.rows RM.rowN RM.sortOf RM.sizeOf RM.numbers RM.holdsWhat RM.holdsWhich RM.holdsMany RM.bodies RM.ran RM.actKind RM.actN RM.actA RM.isParted) H → va_D A (wMo K jM aM vM_s RM.held RM.aside RM.before RM.isHeld RM.tape RM.taped RM.token RM.frm RM.to RM.value RM.isWrong RM.unpaired RM.bestSound RM.bestWay RM.rows RM.rowN RM.sortOf RM.sizeOf RM.numbers RM.holdsWhat RM.holdsWhich RM.holdsMany RM.bodies RM.ran RM.actKind RM.actN RM.actA RM.isParted) → va_S A s.heap H locs → lv_has ls 3 [(0, .ref jM), (1, .int x1), (2, .int x2)] → W p l e (headSpec wsX9_goesOn rmX9_goesOn).room s m ([.ref jM] : List Value).toArray below meth c H locs 0 0 Q (F0 m 27 ls []) := by
    intro n
    induction n with
    | zero =>
      intro x1 x2 vM_s H locs ls hf hP hD hS hl
      cases (show (none : Option (Int32 × AI)) = some o from hf)
    | succ n hk27 =>
      intro x1 x2 vM_s H locs ls hf hP hD hS hl
      replace hf : fX9_goesOn_b27 RM (ht_lp3 (fX9_goesOn_b27 RM) n) x1 x2 vM_s = some o := hf
      delta fX9_goesOn_b27 at hf
      refine lv_iload_n hx hb dX9_goesOn_27 rfl (lv_at hl 2 rfl) ?_
      refine lv_aload_n hx hb dX9_goesOn_28 rfl (lv_at hl 0 rfl) ?_
      refine va_get (D := D) (ci := 9) (v := .ref (aM 0)) (C := RX9) (T := TX9) (N := 29) hx hb hts iw9 hown hK hP 0 rfl rfl 0 (by decide) kw1 (fun _ h9 => h9) rfl dX9_goesOn_29 ?_
      refine lv_iconst (v := 0) hx hb dX9_goesOn_32 (by decide) ?_
      obtain ⟨g_24, hf⟩ := ht_gd_ob hf
      refine va_iald hx hb hK hP 1 1 rfl rfl (ht_ix_in g_24) dX9_goesOn_33 ?_
      refine lv_icmp_ge (tgt := 65) hx hb dX9_goesOn_34 (by decide) (fun c_25 => ?_) (fun c_25 => ?_)
      · replace hf := ht_t c_25 hf
        exact b65  x1 vM_s _ _ _ hf hP hD hS (lv_sub hl [0, 1] rfl)
      · replace hf := ht_f c_25 hf
        refine lv_iload_n hx hb dX9_goesOn_37 rfl (lv_at hl 1 rfl) ?_
        refine lv_aload_n hx hb dX9_goesOn_38 rfl (lv_at hl 0 rfl) ?_
        refine lv_iload_n hx hb dX9_goesOn_39 rfl (lv_at hl 2 rfl) ?_
        refine lv_iconst (v := 5) hx hb dX9_goesOn_40 (by decide) ?_
        obtain ⟨o_26, ho_26, hf⟩ := ht_bn_ob hf
        refine ht_callVi (r := o_26) (rest := [.int x1]) (As := [.int x2, .int (5 : Int32)]) (wc := (wMo K jM aM vM_s RM.held RM.aside RM.before RM.isHeld RM.tape RM.taped RM.token RM.frm RM.to RM.value RM.isWrong RM.unpaired RM.bestSound RM.bestWay RM.rows RM.rowN RM.sortOf RM.sizeOf RM.numbers RM.holdsWhat RM.holdsWhich RM.holdsMany RM.bodies RM.ran RM.actKind RM.actN RM.actA RM.isParted)) (wr := []) (w1 := (wMo K jM aM vM_s RM.held RM.aside RM.before RM.isHeld RM.tape RM.taped RM.token RM.frm RM.to RM.value RM.isWrong RM.unpaired RM.bestSound RM.bestWay RM.rows RM.rowN RM.sortOf RM.sizeOf RM.numbers RM.holdsWhat RM.holdsWhich RM.holdsMany RM.bodies RM.ran RM.actKind RM.actN RM.actA RM.isParted)) (w2 := (wMo K jM aM vM_s RM.held RM.aside RM.before RM.isHeld RM.tape RM.taped RM.token RM.frm RM.to RM.value RM.isWrong RM.unpaired RM.bestSound RM.bestWay RM.rows RM.rowN RM.sortOf RM.sizeOf RM.numbers RM.holdsWhat RM.holdsWhich RM.holdsMany RM.bodies RM.ran RM.actKind RM.actN RM.actA RM.isParted)) hF (ctX9_its l D K jM aM (vM_s, RM.held, RM.aside, RM.before, RM.isHeld, RM.tape, RM.taped, RM.token, RM.frm, RM.to, RM.value, RM.isWrong, RM.unpaired, RM.bestSound, RM.bestWay, RM.rows, RM.rowN, RM.sortOf, RM.sizeOf, RM.numbers, RM.holdsWhat, RM.holdsWhich, RM.holdsMany, RM.bodies, RM.ran, RM.actKind, RM.actN, RM.actA, RM.isParted) x2 (5 : Int32) o_26 ho_26 H.size) (cwV 2 hts gX9_goesOn_X9_its rfl rfl rfl hdX9_its ⟨Nat.le_of_ble_eq_true rfl, Nat.le_of_ble_eq_true rfl⟩) hK hP hD hS hA [0, 1, 2, 3, 4, 5, 6, 7, 8, 9, 10, 11, 12, 13, 14, 15] [] rfl rfl (by decide) (by decide) (by decide) [0, 1, 2, 3, 4, 5, 6, 7, 8, 9, 10, 11, 12, 13, 14, 15] rfl (by decide) (va_recv hK hP (ci := 9) (q0 := 0) rfl rfl) rfl hl.1 rfl (Nat.le_of_ble_eq_true rfl) dX9_goesOn_41 ⟨Nat.zero_le _, Nat.zero_le _⟩ (fun H locs hP hD hS => ?_)
        refine lv_iconst (v := 1) hx hb dX9_goesOn_44 (by decide) ?_
        refine lv_icmp_ne (tgt := 56) hx hb dX9_goesOn_45 (by decide) (fun c_27 => ?_) (fun c_27 => ?_)
        · replace hf := ht_f c_27 hf
          refine lv_iconst (v := 0) hx hb dX9_goesOn_56 (by decide) ?_
          exact b57 _ hk27 x2 x1 (0 : Int32) vM_s _ _ _ hf hP hD hS (lv_sub hl [0, 2] rfl)
        · replace hf := ht_t c_27 hf
          refine lv_aload_n hx hb dX9_goesOn_48 rfl (lv_at hl 0 rfl) ?_
          refine lv_iload_n hx hb dX9_goesOn_49 rfl (lv_at hl 2 rfl) ?_
          obtain ⟨o_28, ho_28, hf⟩ := ht_bn_ob hf
          refine ht_callVi (r := o_28.1) (rest := [.int x1]) (As := [.int x2]) (wc := (wMo K jM aM vM_s RM.held RM.aside RM.before RM.isHeld RM.tape RM.taped RM.token RM.frm RM.to RM.value RM.isWrong RM.unpaired RM.bestSound RM.bestWay RM.rows RM.rowN RM.sortOf RM.sizeOf RM.numbers RM.holdsWhat RM.holdsWhich RM.holdsMany RM.bodies RM.ran RM.actKind RM.actN RM.actA RM.isParted)) (wr := []) (w1 := (wMo K jM aM o_28.2 RM.held RM.aside RM.before RM.isHeld RM.tape RM.taped RM.token RM.frm RM.to RM.value RM.isWrong RM.unpaired RM.bestSound RM.bestWay RM.rows RM.rowN RM.sortOf RM.sizeOf RM.numbers RM.holdsWhat RM.holdsWhich RM.holdsMany RM.bodies RM.ran RM.actKind RM.actN RM.actA RM.isParted)) (w2 := (wMo K jM aM o_28.2 RM.held RM.aside RM.before RM.isHeld RM.tape RM.taped RM.token RM.frm RM.to RM.value RM.isWrong RM.unpaired RM.bestSound RM.bestWay RM.rows RM.rowN RM.sortOf RM.sizeOf RM.numbers RM.holdsWhat RM.holdsWhich RM.holdsMany RM.bodies RM.ran RM.actKind RM.actN RM.actA RM.isParted)) hF (ctX9_saysNow l D K jM aM (vM_s, RM.held, RM.aside, RM.before, RM.isHeld, RM.tape, RM.taped, RM.token, RM.frm, RM.to, RM.value, RM.isWrong, RM.unpaired, RM.bestSound, RM.bestWay, RM.rows, RM.rowN, RM.sortOf, RM.sizeOf, RM.numbers, RM.holdsWhat, RM.holdsWhich, RM.holdsMany, RM.bodies, RM.ran, RM.actKind, RM.actN, RM.actA, RM.isParted) x2 o_28 ho_28 H.size) (cwV 1 hts gX9_goesOn_X9_saysNow rfl rfl rfl hdX9_saysNow ⟨Nat.le_of_ble_eq_true rfl, Nat.le_of_ble_eq_true rfl⟩) hK hP hD hS hA [0, 1, 2, 3, 4, 5, 6, 7, 8, 9, 10, 11, 12, 13, 14, 15] [] rfl rfl (by decide) (by decide) (by decide) [0, 1, 2, 3, 4, 5, 6, 7, 8, 9, 10, 11, 12, 13, 14, 15] rfl (by decide) (va_recv hK hP (ci := 9) (q0 := 0) rfl rfl) rfl hl.1 rfl (Nat.le_of_ble_eq_true rfl) dX9_goesOn_50 ⟨Nat.zero_le _, Nat.zero_le _⟩ (fun H locs hP hD hS => ?_)
          refine lv_goto (tgt := 57) hx hb dX9_goesOn_53 (by decide) ?_
          exact b57 _ hk27 x2 x1 o_28.1 o_28.2 _ _ _ hf hP hD hS (lv_sub hl [0, 2] rfl)
  have b23 : ∀ (vM_s : AI) (H : Heap) (locs : List Loc) (ls : Array Slot), fX9_goesOn_b23 RM vM_s = some o → va_P D vwCl (wMo K jM aM vM_s RM.held RM.aside RM.before RM.isHeld RM.tape RM.taped RM.token RM.frm RM.to RM.value RM.isWrong RM.unpaired RM.bestSound RM.bestWay RM.rows RM.rowN RM.sortOf RM.sizeOf RM.numbers RM.holdsWhat RM.holdsWhich RM.holdsMany RM.bodies RM.ran RM.actKind RM.actN RM.actA RM.isParted) H → va_D A (wMo K jM aM vM_s RM.held RM.aside RM.before RM.isHeld RM.tape RM.taped RM.token RM.frm RM.to RM.value RM.isWrong RM.unpaired RM.bestSound RM.bestWay RM.rows RM.rowN RM.sortOf RM.sizeOf RM.numbers RM.holdsWhat RM.holdsWhich RM.holdsMany RM.bodies RM.ran RM.actKind RM.actN RM.actA RM.isParted) → va_S A s.heap H locs → lv_has ls 3 [(0, .ref jM)] → W p l e (headSpec wsX9_goesOn rmX9_goesOn).room s m ([.ref jM] : List Value).toArray below meth c H locs 0 0 Q (F0 m 23 ls []) := by
    intro vM_s H locs ls hf hP hD hS hl
    delta fX9_goesOn_b23 at hf
    refine lv_iconst (v := 0) hx hb dX9_goesOn_23 (by decide) ?_
    refine lv_istore_n (lv' := [(1, .int (0 : Int32)), (0, .ref jM)]) hx hb dX9_goesOn_24 rfl hl (by decide) rfl (fun ls hl => ?_)
    refine lv_iconst (v := 0) hx hb dX9_goesOn_25 (by decide) ?_
    refine lv_istore_n (lv' := [(2, .int (0 : Int32)), (1, .int (0 : Int32)), (0, .ref jM)]) hx hb dX9_goesOn_26 rfl hl (by decide) rfl (fun ls hl => ?_)
    exact b27  FU (0 : Int32) (0 : Int32) vM_s _ _ _ hf hP hD hS (lv_sub hl [2, 1, 0] rfl)
  have b2 : ∀ (n : Nat) (x1 : Int32) (vM_s : AI) (H : Heap) (locs : List Loc) (ls : Array Slot), ht_lp2 (fX9_goesOn_b2 RM) n x1 vM_s = some o → va_P D vwCl (wMo K jM aM vM_s RM.held RM.aside RM.before RM.isHeld RM.tape RM.taped RM.token RM.frm RM.to RM.value RM.isWrong RM.unpaired RM.bestSound RM.bestWay RM.rows RM.rowN RM.sortOf RM.sizeOf RM.numbers RM.holdsWhat RM.holdsWhich RM.holdsMany RM.bodies RM.ran RM.actKind RM.actN RM.actA RM.isParted) H → va_D A (wMo K jM aM vM_s RM.held RM.aside RM.before RM.isHeld RM.tape RM.taped RM.token RM.frm RM.to RM.value RM.isWrong RM.unpaired RM.bestSound RM.bestWay RM.rows RM.rowN RM.sortOf RM.sizeOf RM.numbers RM.holdsWhat RM.holdsWhich RM.holdsMany RM.bodies RM.ran RM.actKind RM.actN RM.actA RM.isParted) → va_S A s.heap H locs → lv_has ls 3 [(0, .ref jM), (1, .int x1)] → W p l e (headSpec wsX9_goesOn rmX9_goesOn).room s m ([.ref jM] : List Value).toArray below meth c H locs 0 0 Q (F0 m 2 ls []) := by
    intro n
    induction n with
    | zero =>
      intro x1 vM_s H locs ls hf hP hD hS hl
      cases (show (none : Option (Int32 × AI)) = some o from hf)
    | succ n hk2 =>
      intro x1 vM_s H locs ls hf hP hD hS hl
      replace hf : fX9_goesOn_b2 RM (ht_lp2 (fX9_goesOn_b2 RM) n) x1 vM_s = some o := hf
      delta fX9_goesOn_b2 at hf
      refine lv_iload_n hx hb dX9_goesOn_2 rfl (lv_at hl 1 rfl) ?_
      refine lv_aload_n hx hb dX9_goesOn_3 rfl (lv_at hl 0 rfl) ?_
      refine va_get (D := D) (ci := 9) (v := .ref (aM 0)) (C := RX9) (T := TX9) (N := 29) hx hb hts iw9 hown hK hP 0 rfl rfl 0 (by decide) kw1 (fun _ h9 => h9) rfl dX9_goesOn_4 ?_
      refine lv_iconst (v := 0) hx hb dX9_goesOn_7 (by decide) ?_
      obtain ⟨g_29, hf⟩ := ht_gd_ob hf
      refine va_iald hx hb hK hP 1 1 rfl rfl (ht_ix_in g_29) dX9_goesOn_8 ?_
      refine lv_icmp_ge (tgt := 23) hx hb dX9_goesOn_9 (by decide) (fun c_30 => ?_) (fun c_30 => ?_)
      · replace hf := ht_t c_30 hf
        exact b23  vM_s _ _ _ hf hP hD hS (lv_sub hl [0] rfl)
      · replace hf := ht_f c_30 hf
        refine lv_aload_n hx hb dX9_goesOn_12 rfl (lv_at hl 0 rfl) ?_
        refine lv_iload_n hx hb dX9_goesOn_13 rfl (lv_at hl 1 rfl) ?_
        obtain ⟨o_31, ho_31, hf⟩ := ht_bn_ob hf
        refine ht_callVv (rest := []) (As := [.int x1]) (wc := (wMo K jM aM vM_s RM.held RM.aside RM.before RM.isHeld RM.tape RM.taped RM.token RM.frm RM.to RM.value RM.isWrong RM.unpaired RM.bestSound RM.bestWay RM.rows RM.rowN RM.sortOf RM.sizeOf RM.numbers RM.holdsWhat RM.holdsWhich RM.holdsMany RM.bodies RM.ran RM.actKind RM.actN RM.actA RM.isParted)) (wr := []) (w1 := (wMo K jM aM o_31 RM.held RM.aside RM.before RM.isHeld RM.tape RM.taped RM.token RM.frm RM.to RM.value RM.isWrong RM.unpaired RM.bestSound RM.bestWay RM.rows RM.rowN RM.sortOf RM.sizeOf RM.numbers RM.holdsWhat RM.holdsWhich RM.holdsMany RM.bodies RM.ran RM.actKind RM.actN RM.actA RM.isParted)) (w2 := (wMo K jM aM o_31 RM.held RM.aside RM.before RM.isHeld RM.tape RM.taped RM.token RM.frm RM.to RM.value RM.isWrong RM.unpaired RM.bestSound RM.bestWay RM.rows RM.rowN RM.sortOf RM.sizeOf RM.numbers RM.holdsWhat RM.holdsWhich RM.holdsMany RM.bodies RM.ran RM.actKind RM.actN RM.actA RM.isParted)) hF (ctX9_growsNow l D K jM aM (vM_s, RM.held, RM.aside, RM.before, RM.isHeld, RM.tape, RM.taped, RM.token, RM.frm, RM.to, RM.value, RM.isWrong, RM.unpaired, RM.bestSound, RM.bestWay, RM.rows, RM.rowN, RM.sortOf, RM.sizeOf, RM.numbers, RM.holdsWhat, RM.holdsWhich, RM.holdsMany, RM.bodies, RM.ran, RM.actKind, RM.actN, RM.actA, RM.isParted) x1 o_31 ho_31 H.size) (cwV 1 hts gX9_goesOn_X9_growsNow rfl rfl rfl hdX9_growsNow ⟨Nat.le_of_ble_eq_true rfl, Nat.le_of_ble_eq_true rfl⟩) hK hP hD hS hA [0, 1, 2, 3, 4, 5, 6, 7, 8, 9, 10, 11, 12, 13, 14, 15] [] rfl rfl (by decide) (by decide) (by decide) [0, 1, 2, 3, 4, 5, 6, 7, 8, 9, 10, 11, 12, 13, 14, 15] rfl (by decide) (va_recv hK hP (ci := 9) (q0 := 0) rfl rfl) rfl hl.1 rfl (Nat.le_of_ble_eq_true rfl) dX9_goesOn_14 ⟨Nat.zero_le _, Nat.zero_le _⟩ (fun H locs hP hD hS => ?_)
        obtain ⟨x1_32, ex1_32, hf⟩ := ht_nm_ob hf
        refine lv_iinc (v := x1_32) (lv' := [(1, .int x1_32), (0, .ref jM)]) hx hb dX9_goesOn_17 hl (k := 1) rfl (by rw [ex1_32]; rfl) (by decide) rfl (fun ls hl => ?_)
        refine lv_goto (tgt := 2) hx hb dX9_goesOn_20 (by decide) ?_
        exact hk2 x1_32 o_31 _ _ _ hf hP hD hS (lv_sub hl [1, 0] rfl)
  delta fX9_goesOn at hf
  refine lv_iconst (v := 0) hx hb dX9_goesOn_0 (by decide) ?_
  refine lv_istore_n (lv' := [(1, .int (0 : Int32)), (0, .ref jM)]) hx hb dX9_goesOn_1 rfl hl (by decide) rfl (fun ls hl => ?_)
  exact b2  FU (0 : Int32) RM.s _ _ _ hf hP hD hS (lv_sub hl [1, 0] rfl)
abbrev rmX9_days : Room := { frames := 4, cells := 0, slots := 0, locals := 93 }
theorem hdX9_days : yX9_days.cls = RX9 ∧ yX9_days.cls ≠ "java/lang/invoke/MethodHandle" ∧ yX9_days.cls ≠ "java/lang/invoke/VarHandle" ∧ (parseMethodDescriptor yX9_days.desc).map (fun d => d.parameters.length) = some 1 := by decide +kernel
def fX9_days_b32 (RM : ModV) (vM_s : AI) : Option (Int32 × AI) := ht_gd (ht_ix (3 : Int32) 57) (some ((vM_s (3 : Int32).toNatClampNeg), vM_s))
def fX9_days_b16 (RM : ModV) (k16 : Int32 → Int32 → AI → Option (Int32 × AI)) (x1 : Int32) (x2 : Int32) (vM_s : AI) : Option (Int32 × AI) := if x1 ≤ x2 then (fX9_days_b32 RM vM_s) else (ht_bn (fX9_goesOn (vM_s, RM.held, RM.aside, RM.before, RM.isHeld, RM.tape, RM.taped, RM.token, RM.frm, RM.to, RM.value, RM.isWrong, RM.unpaired, RM.bestSound, RM.bestWay, RM.rows, RM.rowN, RM.sortOf, RM.sizeOf, RM.numbers, RM.holdsWhat, RM.holdsWhich, RM.holdsMany, RM.bodies, RM.ran, RM.actKind, RM.actN, RM.actA, RM.isParted)) (fun o_3 => ht_nm o_3.1 (fun x3_4 => ht_nm (x2 + (1 : Int32)) (fun x2_5 => k16 x1 x2_5 o_3.2))))
def fX9_days (RM : ModV) (p0 : Int32) : Option (Int32 × AI) := ht_bn (fX9_isIn p0.toInt64 (1 : Int64) (60 : Int64)) (fun o_6 => if o_6 = 0 then (some ((-1 : Int32), RM.s)) else (ht_lp3 (fX9_days_b16 RM) FU p0 (0 : Int32) RM.s))
set_option maxHeartbeats 1000000 in
set_option maxRecDepth 100000 in
theorem ctX9_days (l : Launch) (D : va_G) (K : Nat → ClassId) (jM : Nat) (aM : Nat → Nat) (RM : ModV) (p0 : Int32) (o : (Int32 × AI)) (hf : fX9_days RM p0 = some o) (sz : Nat) : Met l yX9_days wsX9_days rmX9_days (ht_Pre D K [.ref jM, .int p0] (wMo K jM aM RM.s RM.held RM.aside RM.before RM.isHeld RM.tape RM.taped RM.token RM.frm RM.to RM.value RM.isWrong RM.unpaired RM.bestSound RM.bestWay RM.rows RM.rowN RM.sortOf RM.sizeOf RM.numbers RM.holdsWhat RM.holdsWhich RM.holdsMany RM.bodies RM.ran RM.actKind RM.actN RM.actA RM.isParted) sz) (ht_Qi D K (wMo K jM aM o.2 RM.held RM.aside RM.before RM.isHeld RM.tape RM.taped RM.token RM.frm RM.to RM.value RM.isWrong RM.unpaired RM.bestSound RM.bestWay RM.rows RM.rowN RM.sortOf RM.sizeOf RM.numbers RM.holdsWhat RM.holdsWhich RM.holdsMany RM.bodies RM.ran RM.actKind RM.actN RM.actA RM.isParted) o.1 (va_A (wMo K jM aM RM.s RM.held RM.aside RM.before RM.isHeld RM.tape RM.taped RM.token RM.frm RM.to RM.value RM.isWrong RM.unpaired RM.bestSound RM.bestWay RM.rows RM.rowN RM.sortOf RM.sizeOf RM.numbers RM.holdsWhat RM.holdsWhich RM.holdsMany RM.bodies RM.ran RM.actKind RM.actN RM.actA RM.isParted) sz)) 0 0 (va_A (wMo K jM aM RM.s RM.held RM.aside RM.before RM.isHeld RM.tape RM.taped RM.token RM.frm RM.to RM.value RM.isWrong RM.unpaired RM.bestSound RM.bestWay RM.rows RM.rowN RM.sortOf RM.sizeOf RM.numbers RM.holdsWhat RM.holdsWhich RM.holdsMany RM.bodies RM.ran RM.actKind RM.actN RM.actA RM.isParted) sz) := by
  refine ht_enter (Qf := ht_Qi D K (wMo K jM aM o.2 RM.held RM.aside RM.before RM.isHeld RM.tape RM.taped RM.token RM.frm RM.to RM.value RM.isWrong RM.unpaired RM.bestSound RM.bestWay RM.rows RM.rowN RM.sortOf RM.sizeOf RM.numbers RM.holdsWhat RM.holdsWhich RM.holdsMany RM.bodies RM.ran RM.actKind RM.actN RM.actA RM.isParted) o.1) (cc := cX9_days) (maxL := 4) (rt := (some .int)) (by decide) rfl (Nat.le_of_ble_eq_true rfl) ?_ sz
  intro p e s m below meth c A Q H locs ls hQ hx hb hr hlk hmn hml hown hts hA hK hP hD hS hl
  have hown : s.vm.findClass RX9 = some m.cls := hown
  have hF : CallFix p m c cX9_days 4 s ([.ref jM, .int p0] : List Value).toArray wsX9_days RX9 := ⟨hx, hb, hml, hown, hts⟩
  have hl : lv_has ls 4 [(0, .ref jM), (1, .int p0)] := hl
  have iw9 : ∀ w ∈ u_ws RX9 TX9 29, w ∈ wsX9_days := by decide +kernel
  have kw1 := hts (.fieldLink RX9 7 "HeldTonguesModel" "s" "[I") (by decide +kernel)
  have kw2 := hts (.constantLong RX9 205 (60)) (by decide +kernel)
  have b32 : ∀ (vM_s : AI) (H : Heap) (locs : List Loc) (ls : Array Slot), fX9_days_b32 RM vM_s = some o → va_P D vwCl (wMo K jM aM vM_s RM.held RM.aside RM.before RM.isHeld RM.tape RM.taped RM.token RM.frm RM.to RM.value RM.isWrong RM.unpaired RM.bestSound RM.bestWay RM.rows RM.rowN RM.sortOf RM.sizeOf RM.numbers RM.holdsWhat RM.holdsWhich RM.holdsMany RM.bodies RM.ran RM.actKind RM.actN RM.actA RM.isParted) H → va_D A (wMo K jM aM vM_s RM.held RM.aside RM.before RM.isHeld RM.tape RM.taped RM.token RM.frm RM.to RM.value RM.isWrong RM.unpaired RM.bestSound RM.bestWay RM.rows RM.rowN RM.sortOf RM.sizeOf RM.numbers RM.holdsWhat RM.holdsWhich RM.holdsMany RM.bodies RM.ran RM.actKind RM.actN RM.actA RM.isParted) → va_S A s.heap H locs → lv_has ls 4 [(0, .ref jM)] → W p l e (headSpec wsX9_days rmX9_days).room s m ([.ref jM, .int p0] : List Value).toArray below meth c H locs 0 0 Q (F0 m 32 ls []) := by
    intro vM_s H locs ls hf hP hD hS hl
    delta fX9_days_b32 at hf
    refine lv_aload_n hx hb dX9_days_32 rfl (lv_at hl 0 rfl) ?_
    refine va_get (D := D) (ci := 9) (v := .ref (aM 0)) (C := RX9) (T := TX9) (N := 29) hx hb hts iw9 hown hK hP 0 rfl rfl 0 (by decide) kw1 (fun _ h9 => h9) rfl dX9_days_33 ?_
    refine lv_iconst (v := 3) hx hb dX9_days_36 (by decide) ?_
    obtain ⟨g_1, hf⟩ := ht_gd_ob hf
    refine va_iald hx hb hK hP 1 1 rfl rfl (ht_ix_in g_1) dX9_days_37 ?_
    have ho := Option.some.inj hf
    subst ho; subst hQ
    exact ht_iret hx hb hr hlk rfl hK hP hD hS dX9_days_38
  have b16 : ∀ (n : Nat) (x1 : Int32) (x2 : Int32) (vM_s : AI) (H : Heap) (locs : List Loc) (ls : Array Slot), ht_lp3 (fX9_days_b16 RM) n x1 x2 vM_s = some o → va_P D vwCl (wMo K jM aM vM_s RM.held RM.aside RM.before RM.isHeld RM.tape RM.taped RM.token RM.frm RM.to RM.value RM.isWrong RM.unpaired RM.bestSound RM.bestWay RM.rows RM.rowN RM.sortOf RM.sizeOf RM.numbers RM.holdsWhat RM.holdsWhich RM.holdsMany RM.bodies RM.ran RM.actKind RM.actN RM.actA RM.isParted) H → va_D A (wMo K jM aM vM_s RM.held RM.aside RM.before RM.isHeld RM.tape RM.taped RM.token RM.frm RM.to RM.value RM.isWrong RM.unpaired RM.bestSound RM.bestWay RM.rows RM.rowN RM.sortOf RM.sizeOf RM.numbers RM.holdsWhat RM.holdsWhich RM.holdsMany RM.bodies RM.ran RM.actKind RM.actN RM.actA RM.isParted) → va_S A s.heap H locs → lv_has ls 4 [(0, .ref jM), (1, .int x1), (2, .int x2)] → W p l e (headSpec wsX9_days rmX9_days).room s m ([.ref jM, .int p0] : List Value).toArray below meth c H locs 0 0 Q (F0 m 16 ls []) := by
    intro n
    induction n with
    | zero =>
      intro x1 x2 vM_s H locs ls hf hP hD hS hl
      cases (show (none : Option (Int32 × AI)) = some o from hf)
    | succ n hk16 =>
      intro x1 x2 vM_s H locs ls hf hP hD hS hl
      replace hf : fX9_days_b16 RM (ht_lp3 (fX9_days_b16 RM) n) x1 x2 vM_s = some o := hf
      delta fX9_days_b16 at hf
      refine lv_iload_n hx hb dX9_days_16 rfl (lv_at hl 2 rfl) ?_
      refine lv_iload_n hx hb dX9_days_17 rfl (lv_at hl 1 rfl) ?_
      refine lv_icmp_ge (tgt := 32) hx hb dX9_days_18 (by decide) (fun c_2 => ?_) (fun c_2 => ?_)
      · replace hf := ht_t c_2 hf
        exact b32  vM_s _ _ _ hf hP hD hS (lv_sub hl [0] rfl)
      · replace hf := ht_f c_2 hf
        refine lv_aload_n hx hb dX9_days_21 rfl (lv_at hl 0 rfl) ?_
        obtain ⟨o_3, ho_3, hf⟩ := ht_bn_ob hf
        refine ht_callVi (r := o_3.1) (rest := []) (As := []) (wc := (wMo K jM aM vM_s RM.held RM.aside RM.before RM.isHeld RM.tape RM.taped RM.token RM.frm RM.to RM.value RM.isWrong RM.unpaired RM.bestSound RM.bestWay RM.rows RM.rowN RM.sortOf RM.sizeOf RM.numbers RM.holdsWhat RM.holdsWhich RM.holdsMany RM.bodies RM.ran RM.actKind RM.actN RM.actA RM.isParted)) (wr := []) (w1 := (wMo K jM aM o_3.2 RM.held RM.aside RM.before RM.isHeld RM.tape RM.taped RM.token RM.frm RM.to RM.value RM.isWrong RM.unpaired RM.bestSound RM.bestWay RM.rows RM.rowN RM.sortOf RM.sizeOf RM.numbers RM.holdsWhat RM.holdsWhich RM.holdsMany RM.bodies RM.ran RM.actKind RM.actN RM.actA RM.isParted)) (w2 := (wMo K jM aM o_3.2 RM.held RM.aside RM.before RM.isHeld RM.tape RM.taped RM.token RM.frm RM.to RM.value RM.isWrong RM.unpaired RM.bestSound RM.bestWay RM.rows RM.rowN RM.sortOf RM.sizeOf RM.numbers RM.holdsWhat RM.holdsWhich RM.holdsMany RM.bodies RM.ran RM.actKind RM.actN RM.actA RM.isParted)) hF (ctX9_goesOn l D K jM aM (vM_s, RM.held, RM.aside, RM.before, RM.isHeld, RM.tape, RM.taped, RM.token, RM.frm, RM.to, RM.value, RM.isWrong, RM.unpaired, RM.bestSound, RM.bestWay, RM.rows, RM.rowN, RM.sortOf, RM.sizeOf, RM.numbers, RM.holdsWhat, RM.holdsWhich, RM.holdsMany, RM.bodies, RM.ran, RM.actKind, RM.actN, RM.actA, RM.isParted) o_3 ho_3 H.size) (cwV 0 hts gX9_days_X9_goesOn rfl rfl rfl hdX9_goesOn ⟨Nat.le_of_ble_eq_true rfl, Nat.le_of_ble_eq_true rfl⟩) hK hP hD hS hA [0, 1, 2, 3, 4, 5, 6, 7, 8, 9, 10, 11, 12, 13, 14, 15] [] rfl rfl (by decide) (by decide) (by decide) [0, 1, 2, 3, 4, 5, 6, 7, 8, 9, 10, 11, 12, 13, 14, 15] rfl (by decide) (va_recv hK hP (ci := 9) (q0 := 0) rfl rfl) rfl hl.1 rfl (Nat.le_of_ble_eq_true rfl) dX9_days_22 ⟨Nat.zero_le _, Nat.zero_le _⟩ (fun H locs hP hD hS => ?_)
        obtain ⟨x3_4, ex3_4, hf⟩ := ht_nm_ob hf
        rw [← ex3_4]
        refine lv_istore_n (lv' := [(3, .int x3_4), (0, .ref jM), (1, .int x1), (2, .int x2)]) hx hb dX9_days_25 rfl hl (by decide) rfl (fun ls hl => ?_)
        obtain ⟨x2_5, ex2_5, hf⟩ := ht_nm_ob hf
        refine lv_iinc (v := x2_5) (lv' := [(2, .int x2_5), (3, .int x3_4), (0, .ref jM), (1, .int x1)]) hx hb dX9_days_26 hl (k := 3) rfl (by rw [ex2_5]; rfl) (by decide) rfl (fun ls hl => ?_)
        refine lv_goto (tgt := 16) hx hb dX9_days_29 (by decide) ?_
        exact hk16 x1 x2_5 o_3.2 _ _ _ hf hP hD hS (lv_sub hl [2, 3, 0] rfl)
  delta fX9_days at hf
  refine lv_iload_n hx hb dX9_days_0 rfl (lv_at hl 1 rfl) ?_
  refine lv_i2l hx hb dX9_days_1 rfl ?_
  refine lv_lconst (v := 1) hx hb dX9_days_2 (by decide) ?_
  refine lv_ldc2 hx hb hown kw2 dX9_days_3 ?_
  obtain ⟨o_6, ho_6, hf⟩ := ht_bn_ob hf
  refine ht_callSi (r := o_6) (rest := []) (As := [.long p0.toInt64, .long (1 : Int64), .long (60 : Int64)]) (wc := []) (wr := (wMo K jM aM RM.s RM.held RM.aside RM.before RM.isHeld RM.tape RM.taped RM.token RM.frm RM.to RM.value RM.isWrong RM.unpaired RM.bestSound RM.bestWay RM.rows RM.rowN RM.sortOf RM.sizeOf RM.numbers RM.holdsWhat RM.holdsWhich RM.holdsMany RM.bodies RM.ran RM.actKind RM.actN RM.actA RM.isParted)) (w1 := []) (w2 := (wMo K jM aM RM.s RM.held RM.aside RM.before RM.isHeld RM.tape RM.taped RM.token RM.frm RM.to RM.value RM.isWrong RM.unpaired RM.bestSound RM.bestWay RM.rows RM.rowN RM.sortOf RM.sizeOf RM.numbers RM.holdsWhat RM.holdsWhich RM.holdsMany RM.bodies RM.ran RM.actKind RM.actN RM.actA RM.isParted)) hF (ctX9_isIn l D K p0.toInt64 (1 : Int64) (60 : Int64) o_6 ho_6 H.size) (va_cwS 3 hts gX9_days_X9_isIn rfl rfl rfl hdX9_isIn ⟨Nat.le_of_ble_eq_true rfl, Nat.le_of_ble_eq_true rfl⟩) hK hP hD hS hA [] [0, 1, 2, 3, 4, 5, 6, 7, 8, 9, 10, 11, 12, 13, 14, 15] rfl rfl (by decide) (by decide) (by decide) [0, 1, 2, 3, 4, 5, 6, 7, 8, 9, 10, 11, 12, 13, 14, 15] rfl (by decide) rfl hl.1 rfl (Nat.le_of_ble_eq_true rfl) dX9_days_6 ⟨Nat.zero_le _, Nat.zero_le _⟩ (fun H locs hP hD hS => ?_)
  refine lv_if_ne (tgt := 14) hx hb dX9_days_9 (by decide) (fun c_7 => ?_) (fun c_7 => ?_)
  · replace hf := ht_f c_7 hf
    refine lv_iconst (v := 0) hx hb dX9_days_14 (by decide) ?_
    refine lv_istore_n (lv' := [(2, .int (0 : Int32)), (0, .ref jM), (1, .int p0)]) hx hb dX9_days_15 rfl hl (by decide) rfl (fun ls hl => ?_)
    exact b16  FU p0 (0 : Int32) RM.s _ _ _ hf hP hD hS (lv_sub hl [1, 2, 0] rfl)
  · replace hf := ht_t c_7 hf
    refine lv_iconst (v := -1) hx hb dX9_days_12 (by decide) ?_
    have ho := Option.some.inj hf
    subst ho; subst hQ
    exact ht_iret hx hb hr hlk rfl hK hP hD hS dX9_days_13
abbrev rmX9_seed : Room := { frames := 1, cells := 0, slots := 0, locals := 23 }
theorem hdX9_seed : yX9_seed.cls = RX9 ∧ yX9_seed.cls ≠ "java/lang/invoke/MethodHandle" ∧ yX9_seed.cls ≠ "java/lang/invoke/VarHandle" ∧ (parseMethodDescriptor yX9_seed.desc).map (fun d => d.parameters.length) = some 1 := by decide +kernel
def fX9_seed (RM : ModV) (p0 : Int32) : Option (Int32 × AI) := ht_bn (fX9_becomes RM (2 : Int32) p0) (fun o_1 => some (o_1.1, o_1.2))
set_option maxHeartbeats 1000000 in
set_option maxRecDepth 100000 in
theorem ctX9_seed (l : Launch) (D : va_G) (K : Nat → ClassId) (jM : Nat) (aM : Nat → Nat) (RM : ModV) (p0 : Int32) (o : (Int32 × AI)) (hf : fX9_seed RM p0 = some o) (sz : Nat) : Met l yX9_seed wsX9_seed rmX9_seed (ht_Pre D K [.ref jM, .int p0] (wMo K jM aM RM.s RM.held RM.aside RM.before RM.isHeld RM.tape RM.taped RM.token RM.frm RM.to RM.value RM.isWrong RM.unpaired RM.bestSound RM.bestWay RM.rows RM.rowN RM.sortOf RM.sizeOf RM.numbers RM.holdsWhat RM.holdsWhich RM.holdsMany RM.bodies RM.ran RM.actKind RM.actN RM.actA RM.isParted) sz) (ht_Qi D K (wMo K jM aM o.2 RM.held RM.aside RM.before RM.isHeld RM.tape RM.taped RM.token RM.frm RM.to RM.value RM.isWrong RM.unpaired RM.bestSound RM.bestWay RM.rows RM.rowN RM.sortOf RM.sizeOf RM.numbers RM.holdsWhat RM.holdsWhich RM.holdsMany RM.bodies RM.ran RM.actKind RM.actN RM.actA RM.isParted) o.1 (va_A (wMo K jM aM RM.s RM.held RM.aside RM.before RM.isHeld RM.tape RM.taped RM.token RM.frm RM.to RM.value RM.isWrong RM.unpaired RM.bestSound RM.bestWay RM.rows RM.rowN RM.sortOf RM.sizeOf RM.numbers RM.holdsWhat RM.holdsWhich RM.holdsMany RM.bodies RM.ran RM.actKind RM.actN RM.actA RM.isParted) sz)) 0 0 (va_A (wMo K jM aM RM.s RM.held RM.aside RM.before RM.isHeld RM.tape RM.taped RM.token RM.frm RM.to RM.value RM.isWrong RM.unpaired RM.bestSound RM.bestWay RM.rows RM.rowN RM.sortOf RM.sizeOf RM.numbers RM.holdsWhat RM.holdsWhich RM.holdsMany RM.bodies RM.ran RM.actKind RM.actN RM.actA RM.isParted) sz) := by
  refine ht_enter (Qf := ht_Qi D K (wMo K jM aM o.2 RM.held RM.aside RM.before RM.isHeld RM.tape RM.taped RM.token RM.frm RM.to RM.value RM.isWrong RM.unpaired RM.bestSound RM.bestWay RM.rows RM.rowN RM.sortOf RM.sizeOf RM.numbers RM.holdsWhat RM.holdsWhich RM.holdsMany RM.bodies RM.ran RM.actKind RM.actN RM.actA RM.isParted) o.1) (cc := cX9_seed) (maxL := 2) (rt := (some .int)) (by decide) rfl (Nat.le_of_ble_eq_true rfl) ?_ sz
  intro p e s m below meth c A Q H locs ls hQ hx hb hr hlk hmn hml hown hts hA hK hP hD hS hl
  have hown : s.vm.findClass RX9 = some m.cls := hown
  have hF : CallFix p m c cX9_seed 2 s ([.ref jM, .int p0] : List Value).toArray wsX9_seed RX9 := ⟨hx, hb, hml, hown, hts⟩
  have hl : lv_has ls 2 [(0, .ref jM), (1, .int p0)] := hl
  delta fX9_seed at hf
  refine lv_aload_n hx hb dX9_seed_0 rfl (lv_at hl 0 rfl) ?_
  refine lv_iconst (v := 2) hx hb dX9_seed_1 (by decide) ?_
  refine lv_iload_n hx hb dX9_seed_2 rfl (lv_at hl 1 rfl) ?_
  obtain ⟨o_1, ho_1, hf⟩ := ht_bn_ob hf
  refine ht_callVi (r := o_1.1) (rest := []) (As := [.int (2 : Int32), .int p0]) (wc := (wMo K jM aM RM.s RM.held RM.aside RM.before RM.isHeld RM.tape RM.taped RM.token RM.frm RM.to RM.value RM.isWrong RM.unpaired RM.bestSound RM.bestWay RM.rows RM.rowN RM.sortOf RM.sizeOf RM.numbers RM.holdsWhat RM.holdsWhich RM.holdsMany RM.bodies RM.ran RM.actKind RM.actN RM.actA RM.isParted)) (wr := []) (w1 := (wMo K jM aM o_1.2 RM.held RM.aside RM.before RM.isHeld RM.tape RM.taped RM.token RM.frm RM.to RM.value RM.isWrong RM.unpaired RM.bestSound RM.bestWay RM.rows RM.rowN RM.sortOf RM.sizeOf RM.numbers RM.holdsWhat RM.holdsWhich RM.holdsMany RM.bodies RM.ran RM.actKind RM.actN RM.actA RM.isParted)) (w2 := (wMo K jM aM o_1.2 RM.held RM.aside RM.before RM.isHeld RM.tape RM.taped RM.token RM.frm RM.to RM.value RM.isWrong RM.unpaired RM.bestSound RM.bestWay RM.rows RM.rowN RM.sortOf RM.sizeOf RM.numbers RM.holdsWhat RM.holdsWhich RM.holdsMany RM.bodies RM.ran RM.actKind RM.actN RM.actA RM.isParted)) hF (ctX9_becomes l D K jM aM RM (2 : Int32) p0 o_1 ho_1 H.size) (cwV 2 hts gX9_seed_X9_becomes rfl rfl rfl hdX9_becomes ⟨Nat.le_of_ble_eq_true rfl, Nat.le_of_ble_eq_true rfl⟩) hK hP hD hS hA [0, 1, 2, 3, 4, 5, 6, 7, 8, 9, 10, 11, 12, 13, 14, 15] [] rfl rfl (by decide) (by decide) (by decide) [0, 1, 2, 3, 4, 5, 6, 7, 8, 9, 10, 11, 12, 13, 14, 15] rfl (by decide) (va_recv hK hP (ci := 9) (q0 := 0) rfl rfl) rfl hl.1 rfl (Nat.le_of_ble_eq_true rfl) dX9_seed_3 ⟨Nat.zero_le _, Nat.zero_le _⟩ (fun H locs hP hD hS => ?_)
  have ho := Option.some.inj hf
  subst ho; subst hQ
  exact ht_iret hx hb hr hlk rfl hK hP hD hS dX9_seed_6
abbrev rmX9_drawn : Room := { frames := 0, cells := 0, slots := 0, locals := 0 }
theorem hdX9_drawn : yX9_drawn.cls = RX9 ∧ yX9_drawn.cls ≠ "java/lang/invoke/MethodHandle" ∧ yX9_drawn.cls ≠ "java/lang/invoke/VarHandle" ∧ (parseMethodDescriptor yX9_drawn.desc).map (fun d => d.parameters.length) = some 0 := by decide +kernel
def fX9_drawn (RM : ModV) : Option (Int32 × AI) := ht_gd (ht_ix (2 : Int32) 57) (ht_gd (ht_ix (2 : Int32) 57) (ht_nm (upd RM.s (2 : Int32).toNatClampNeg (((RM.s (2 : Int32).toNatClampNeg) * (1103515245 : Int32)) + (12345 : Int32))) (fun vM_s_3 => ht_gd (ht_ix (2 : Int32) 57) (some (((vM_s_3 (2 : Int32).toNatClampNeg).toUInt32 >>> ((16 : Int32).toUInt32 &&& Int32.toUInt32 31)).toInt32, vM_s_3)))))
set_option maxHeartbeats 1000000 in
set_option maxRecDepth 100000 in
theorem ctX9_drawn (l : Launch) (D : va_G) (K : Nat → ClassId) (jM : Nat) (aM : Nat → Nat) (RM : ModV) (o : (Int32 × AI)) (hf : fX9_drawn RM = some o) (sz : Nat) : Met l yX9_drawn wsX9_drawn rmX9_drawn (ht_Pre D K [.ref jM] (wMo K jM aM RM.s RM.held RM.aside RM.before RM.isHeld RM.tape RM.taped RM.token RM.frm RM.to RM.value RM.isWrong RM.unpaired RM.bestSound RM.bestWay RM.rows RM.rowN RM.sortOf RM.sizeOf RM.numbers RM.holdsWhat RM.holdsWhich RM.holdsMany RM.bodies RM.ran RM.actKind RM.actN RM.actA RM.isParted) sz) (ht_Qi D K (wMo K jM aM o.2 RM.held RM.aside RM.before RM.isHeld RM.tape RM.taped RM.token RM.frm RM.to RM.value RM.isWrong RM.unpaired RM.bestSound RM.bestWay RM.rows RM.rowN RM.sortOf RM.sizeOf RM.numbers RM.holdsWhat RM.holdsWhich RM.holdsMany RM.bodies RM.ran RM.actKind RM.actN RM.actA RM.isParted) o.1 (va_A (wMo K jM aM RM.s RM.held RM.aside RM.before RM.isHeld RM.tape RM.taped RM.token RM.frm RM.to RM.value RM.isWrong RM.unpaired RM.bestSound RM.bestWay RM.rows RM.rowN RM.sortOf RM.sizeOf RM.numbers RM.holdsWhat RM.holdsWhich RM.holdsMany RM.bodies RM.ran RM.actKind RM.actN RM.actA RM.isParted) sz)) 0 0 (va_A (wMo K jM aM RM.s RM.held RM.aside RM.before RM.isHeld RM.tape RM.taped RM.token RM.frm RM.to RM.value RM.isWrong RM.unpaired RM.bestSound RM.bestWay RM.rows RM.rowN RM.sortOf RM.sizeOf RM.numbers RM.holdsWhat RM.holdsWhich RM.holdsMany RM.bodies RM.ran RM.actKind RM.actN RM.actA RM.isParted) sz) := by
  refine ht_enter (Qf := ht_Qi D K (wMo K jM aM o.2 RM.held RM.aside RM.before RM.isHeld RM.tape RM.taped RM.token RM.frm RM.to RM.value RM.isWrong RM.unpaired RM.bestSound RM.bestWay RM.rows RM.rowN RM.sortOf RM.sizeOf RM.numbers RM.holdsWhat RM.holdsWhich RM.holdsMany RM.bodies RM.ran RM.actKind RM.actN RM.actA RM.isParted) o.1) (cc := cX9_drawn) (maxL := 1) (rt := (some .int)) (by decide) rfl (Nat.le_of_ble_eq_true rfl) ?_ sz
  intro p e s m below meth c A Q H locs ls hQ hx hb hr hlk hmn hml hown hts hA hK hP hD hS hl
  have hown : s.vm.findClass RX9 = some m.cls := hown
  have hF : CallFix p m c cX9_drawn 1 s ([.ref jM] : List Value).toArray wsX9_drawn RX9 := ⟨hx, hb, hml, hown, hts⟩
  have hl : lv_has ls 1 [(0, .ref jM)] := hl
  have iw9 : ∀ w ∈ u_ws RX9 TX9 29, w ∈ wsX9_drawn := by decide +kernel
  have kw1 := hts (.fieldLink RX9 7 "HeldTonguesModel" "s" "[I") (by decide +kernel)
  have kw2 := hts (.constant RX9 210 (1103515245)) (by decide +kernel)
  delta fX9_drawn at hf
  refine lv_aload_n hx hb dX9_drawn_0 rfl (lv_at hl 0 rfl) ?_
  refine va_get (D := D) (ci := 9) (v := .ref (aM 0)) (C := RX9) (T := TX9) (N := 29) hx hb hts iw9 hown hK hP 0 rfl rfl 0 (by decide) kw1 (fun _ h9 => h9) rfl dX9_drawn_1 ?_
  refine lv_iconst (v := 2) hx hb dX9_drawn_4 (by decide) ?_
  refine lv_aload_n hx hb dX9_drawn_5 rfl (lv_at hl 0 rfl) ?_
  refine va_get (D := D) (ci := 9) (v := .ref (aM 0)) (C := RX9) (T := TX9) (N := 29) hx hb hts iw9 hown hK hP 0 rfl rfl 0 (by decide) kw1 (fun _ h9 => h9) rfl dX9_drawn_6 ?_
  refine lv_iconst (v := 2) hx hb dX9_drawn_9 (by decide) ?_
  obtain ⟨g_1, hf⟩ := ht_gd_ob hf
  refine va_iald hx hb hK hP 1 1 rfl rfl (ht_ix_in g_1) dX9_drawn_10 ?_
  refine lv_ldc hx hb hown kw2 dX9_drawn_11 ?_
  refine lv_imul hx hb dX9_drawn_13 ?_
  refine lv_sipush (v := 12345) hx hb dX9_drawn_14 (by decide) ?_
  refine lv_iadd hx hb dX9_drawn_17 ?_
  obtain ⟨g_2, hf⟩ := ht_gd_ob hf
  obtain ⟨vM_s_3, evM_s_3, hf⟩ := ht_nm_ob hf
  refine ht_iast (w2 := (wMo K jM aM vM_s_3 RM.held RM.aside RM.before RM.isHeld RM.tape RM.taped RM.token RM.frm RM.to RM.value RM.isWrong RM.unpaired RM.bestSound RM.bestWay RM.rows RM.rowN RM.sortOf RM.sizeOf RM.numbers RM.holdsWhat RM.holdsWhich RM.holdsMany RM.bodies RM.ran RM.actKind RM.actN RM.actA RM.isParted)) hx hb hK hP hD hS 1 1 rfl rfl g_2 dX9_drawn_18 evM_s_3 rfl (fun H locs hP hD hS => ?_)
  refine lv_aload_n hx hb dX9_drawn_19 rfl (lv_at hl 0 rfl) ?_
  refine va_get (D := D) (ci := 9) (v := .ref (aM 0)) (C := RX9) (T := TX9) (N := 29) hx hb hts iw9 hown hK hP 0 rfl rfl 0 (by decide) kw1 (fun _ h9 => h9) rfl dX9_drawn_20 ?_
  refine lv_iconst (v := 2) hx hb dX9_drawn_23 (by decide) ?_
  obtain ⟨g_4, hf⟩ := ht_gd_ob hf
  refine va_iald hx hb hK hP 1 1 rfl rfl (ht_ix_in g_4) dX9_drawn_24 ?_
  refine lv_bipush (v := 16) hx hb dX9_drawn_25 (by decide) ?_
  refine lv_iushr hx hb dX9_drawn_27 rfl ?_
  have ho := Option.some.inj hf
  subst ho; subst hQ
  exact ht_iret hx hb hr hlk rfl hK hP hD hS dX9_drawn_28
abbrev rmX9_day : Room := { frames := 4, cells := 0, slots := 0, locals := 93 }
theorem hdX9_day : yX9_day.cls = RX9 ∧ yX9_day.cls ≠ "java/lang/invoke/MethodHandle" ∧ yX9_day.cls ≠ "java/lang/invoke/VarHandle" ∧ (parseMethodDescriptor yX9_day.desc).map (fun d => d.parameters.length) = some 0 := by decide +kernel
def fX9_day_b69 (RM : ModV) (vM_s : AI) : Option (Int32 × AI) := ht_bn (fX9_goesOn (vM_s, RM.held, RM.aside, RM.before, RM.isHeld, RM.tape, RM.taped, RM.token, RM.frm, RM.to, RM.value, RM.isWrong, RM.unpaired, RM.bestSound, RM.bestWay, RM.rows, RM.rowN, RM.sortOf, RM.sizeOf, RM.numbers, RM.holdsWhat, RM.holdsWhich, RM.holdsMany, RM.bodies, RM.ran, RM.actKind, RM.actN, RM.actA, RM.isParted)) (fun o_1 => some (o_1.1, o_1.2))
def fX9_day (RM : ModV) : Option (Int32 × AI) := ht_gd (ht_ix (0 : Int32) 57) (if (RM.s (0 : Int32).toNatClampNeg) ≤ 0 then (fX9_day_b69 RM RM.s) else (ht_bn (fX9_drawn RM) (fun o_4 => ht_gd (ht_ix (0 : Int32) 57) (ht_gd (ht_nz (o_4.2 (0 : Int32).toNatClampNeg)) (ht_nm (o_4.1 - o_4.1 / (o_4.2 (0 : Int32).toNatClampNeg) * (o_4.2 (0 : Int32).toNatClampNeg)) (fun x1_7 => ht_bn (fX9_drawn (o_4.2, RM.held, RM.aside, RM.before, RM.isHeld, RM.tape, RM.taped, RM.token, RM.frm, RM.to, RM.value, RM.isWrong, RM.unpaired, RM.bestSound, RM.bestWay, RM.rows, RM.rowN, RM.sortOf, RM.sizeOf, RM.numbers, RM.holdsWhat, RM.holdsWhich, RM.holdsMany, RM.bodies, RM.ran, RM.actKind, RM.actN, RM.actA, RM.isParted)) (fun o_8 => ht_gd (ht_ix (8 : Int32) 57) (if (o_8.2 (8 : Int32).toNatClampNeg) ≤ (o_8.1 - o_8.1 / (100 : Int32) * (100 : Int32)) then (fX9_day_b69 RM o_8.2) else (ht_bn (fX9_drawn (o_8.2, RM.held, RM.aside, RM.before, RM.isHeld, RM.tape, RM.taped, RM.token, RM.frm, RM.to, RM.value, RM.isWrong, RM.unpaired, RM.bestSound, RM.bestWay, RM.rows, RM.rowN, RM.sortOf, RM.sizeOf, RM.numbers, RM.holdsWhat, RM.holdsWhich, RM.holdsMany, RM.bodies, RM.ran, RM.actKind, RM.actN, RM.actA, RM.isParted)) (fun o_11 => ht_gd (ht_ix (0 : Int32) 57) (ht_gd (ht_nz (o_11.2 (0 : Int32).toNatClampNeg)) (ht_nm (o_11.1 - o_11.1 / (o_11.2 (0 : Int32).toNatClampNeg) * (o_11.2 (0 : Int32).toNatClampNeg)) (fun x2_14 => if x2_14 = x1_7 then (ht_bn (fX9_leaves (o_11.2, RM.held, RM.aside, RM.before, RM.isHeld, RM.tape, RM.taped, RM.token, RM.frm, RM.to, RM.value, RM.isWrong, RM.unpaired, RM.bestSound, RM.bestWay, RM.rows, RM.rowN, RM.sortOf, RM.sizeOf, RM.numbers, RM.holdsWhat, RM.holdsWhich, RM.holdsMany, RM.bodies, RM.ran, RM.actKind, RM.actN, RM.actA, RM.isParted) x1_7) (fun o_17 => fX9_day_b69 RM o_17)) else (ht_bn (fX9_pairs (o_11.2, RM.held, RM.aside, RM.before, RM.isHeld, RM.tape, RM.taped, RM.token, RM.frm, RM.to, RM.value, RM.isWrong, RM.unpaired, RM.bestSound, RM.bestWay, RM.rows, RM.rowN, RM.sortOf, RM.sizeOf, RM.numbers, RM.holdsWhat, RM.holdsWhich, RM.holdsMany, RM.bodies, RM.ran, RM.actKind, RM.actN, RM.actA, RM.isParted) x1_7 x2_14) (fun o_16 => fX9_day_b69 RM o_16)))))))))))))))
set_option maxHeartbeats 1000000 in
set_option maxRecDepth 100000 in
theorem ctX9_day (l : Launch) (D : va_G) (K : Nat → ClassId) (jM : Nat) (aM : Nat → Nat) (RM : ModV) (o : (Int32 × AI)) (hf : fX9_day RM = some o) (sz : Nat) : Met l yX9_day wsX9_day rmX9_day (ht_Pre D K [.ref jM] (wMo K jM aM RM.s RM.held RM.aside RM.before RM.isHeld RM.tape RM.taped RM.token RM.frm RM.to RM.value RM.isWrong RM.unpaired RM.bestSound RM.bestWay RM.rows RM.rowN RM.sortOf RM.sizeOf RM.numbers RM.holdsWhat RM.holdsWhich RM.holdsMany RM.bodies RM.ran RM.actKind RM.actN RM.actA RM.isParted) sz) (ht_Qi D K (wMo K jM aM o.2 RM.held RM.aside RM.before RM.isHeld RM.tape RM.taped RM.token RM.frm RM.to RM.value RM.isWrong RM.unpaired RM.bestSound RM.bestWay RM.rows RM.rowN RM.sortOf RM.sizeOf RM.numbers RM.holdsWhat RM.holdsWhich RM.holdsMany RM.bodies RM.ran RM.actKind RM.actN RM.actA RM.isParted) o.1 (va_A (wMo K jM aM RM.s RM.held RM.aside RM.before RM.isHeld RM.tape RM.taped RM.token RM.frm RM.to RM.value RM.isWrong RM.unpaired RM.bestSound RM.bestWay RM.rows RM.rowN RM.sortOf RM.sizeOf RM.numbers RM.holdsWhat RM.holdsWhich RM.holdsMany RM.bodies RM.ran RM.actKind RM.actN RM.actA RM.isParted) sz)) 0 0 (va_A (wMo K jM aM RM.s RM.held RM.aside RM.before RM.isHeld RM.tape RM.taped RM.token RM.frm RM.to RM.value RM.isWrong RM.unpaired RM.bestSound RM.bestWay RM.rows RM.rowN RM.sortOf RM.sizeOf RM.numbers RM.holdsWhat RM.holdsWhich RM.holdsMany RM.bodies RM.ran RM.actKind RM.actN RM.actA RM.isParted) sz) := by
  refine ht_enter (Qf := ht_Qi D K (wMo K jM aM o.2 RM.held RM.aside RM.before RM.isHeld RM.tape RM.taped RM.token RM.frm RM.to RM.value RM.isWrong RM.unpaired RM.bestSound RM.bestWay RM.rows RM.rowN RM.sortOf RM.sizeOf RM.numbers RM.holdsWhat RM.holdsWhich RM.holdsMany RM.bodies RM.ran RM.actKind RM.actN RM.actA RM.isParted) o.1) (cc := cX9_day) (maxL := 3) (rt := (some .int)) (by decide) rfl (Nat.le_of_ble_eq_true rfl) ?_ sz
  intro p e s m below meth c A Q H locs ls hQ hx hb hr hlk hmn hml hown hts hA hK hP hD hS hl
  have hown : s.vm.findClass RX9 = some m.cls := hown
  have hF : CallFix p m c cX9_day 3 s ([.ref jM] : List Value).toArray wsX9_day RX9 := ⟨hx, hb, hml, hown, hts⟩
  have hl : lv_has ls 3 [(0, .ref jM)] := hl
  have iw9 : ∀ w ∈ u_ws RX9 TX9 29, w ∈ wsX9_day := by decide +kernel
  have kw1 := hts (.fieldLink RX9 7 "HeldTonguesModel" "s" "[I") (by decide +kernel)
  have b69 : ∀ (vM_s : AI) (H : Heap) (locs : List Loc) (ls : Array Slot), fX9_day_b69 RM vM_s = some o → va_P D vwCl (wMo K jM aM vM_s RM.held RM.aside RM.before RM.isHeld RM.tape RM.taped RM.token RM.frm RM.to RM.value RM.isWrong RM.unpaired RM.bestSound RM.bestWay RM.rows RM.rowN RM.sortOf RM.sizeOf RM.numbers RM.holdsWhat RM.holdsWhich RM.holdsMany RM.bodies RM.ran RM.actKind RM.actN RM.actA RM.isParted) H → va_D A (wMo K jM aM vM_s RM.held RM.aside RM.before RM.isHeld RM.tape RM.taped RM.token RM.frm RM.to RM.value RM.isWrong RM.unpaired RM.bestSound RM.bestWay RM.rows RM.rowN RM.sortOf RM.sizeOf RM.numbers RM.holdsWhat RM.holdsWhich RM.holdsMany RM.bodies RM.ran RM.actKind RM.actN RM.actA RM.isParted) → va_S A s.heap H locs → lv_has ls 3 [(0, .ref jM)] → W p l e (headSpec wsX9_day rmX9_day).room s m ([.ref jM] : List Value).toArray below meth c H locs 0 0 Q (F0 m 69 ls []) := by
    intro vM_s H locs ls hf hP hD hS hl
    delta fX9_day_b69 at hf
    refine lv_aload_n hx hb dX9_day_69 rfl (lv_at hl 0 rfl) ?_
    obtain ⟨o_1, ho_1, hf⟩ := ht_bn_ob hf
    refine ht_callVi (r := o_1.1) (rest := []) (As := []) (wc := (wMo K jM aM vM_s RM.held RM.aside RM.before RM.isHeld RM.tape RM.taped RM.token RM.frm RM.to RM.value RM.isWrong RM.unpaired RM.bestSound RM.bestWay RM.rows RM.rowN RM.sortOf RM.sizeOf RM.numbers RM.holdsWhat RM.holdsWhich RM.holdsMany RM.bodies RM.ran RM.actKind RM.actN RM.actA RM.isParted)) (wr := []) (w1 := (wMo K jM aM o_1.2 RM.held RM.aside RM.before RM.isHeld RM.tape RM.taped RM.token RM.frm RM.to RM.value RM.isWrong RM.unpaired RM.bestSound RM.bestWay RM.rows RM.rowN RM.sortOf RM.sizeOf RM.numbers RM.holdsWhat RM.holdsWhich RM.holdsMany RM.bodies RM.ran RM.actKind RM.actN RM.actA RM.isParted)) (w2 := (wMo K jM aM o_1.2 RM.held RM.aside RM.before RM.isHeld RM.tape RM.taped RM.token RM.frm RM.to RM.value RM.isWrong RM.unpaired RM.bestSound RM.bestWay RM.rows RM.rowN RM.sortOf RM.sizeOf RM.numbers RM.holdsWhat RM.holdsWhich RM.holdsMany RM.bodies RM.ran RM.actKind RM.actN RM.actA RM.isParted)) hF (ctX9_goesOn l D K jM aM (vM_s, RM.held, RM.aside, RM.before, RM.isHeld, RM.tape, RM.taped, RM.token, RM.frm, RM.to, RM.value, RM.isWrong, RM.unpaired, RM.bestSound, RM.bestWay, RM.rows, RM.rowN, RM.sortOf, RM.sizeOf, RM.numbers, RM.holdsWhat, RM.holdsWhich, RM.holdsMany, RM.bodies, RM.ran, RM.actKind, RM.actN, RM.actA, RM.isParted) o_1 ho_1 H.size) (cwV 0 hts gX9_day_X9_goesOn rfl rfl rfl hdX9_goesOn ⟨Nat.le_of_ble_eq_true rfl, Nat.le_of_ble_eq_true rfl⟩) hK hP hD hS hA [0, 1, 2, 3, 4, 5, 6, 7, 8, 9, 10, 11, 12, 13, 14, 15] [] rfl rfl (by decide) (by decide) (by decide) [0, 1, 2, 3, 4, 5, 6, 7, 8, 9, 10, 11, 12, 13, 14, 15] rfl (by decide) (va_recv hK hP (ci := 9) (q0 := 0) rfl rfl) rfl hl.1 rfl (Nat.le_of_ble_eq_true rfl) dX9_day_70 ⟨Nat.zero_le _, Nat.zero_le _⟩ (fun H locs hP hD hS => ?_)
    have ho := Option.some.inj hf
    subst ho; subst hQ
    exact ht_iret hx hb hr hlk rfl hK hP hD hS dX9_day_73
  delta fX9_day at hf
  refine lv_aload_n hx hb dX9_day_0 rfl (lv_at hl 0 rfl) ?_
  refine va_get (D := D) (ci := 9) (v := .ref (aM 0)) (C := RX9) (T := TX9) (N := 29) hx hb hts iw9 hown hK hP 0 rfl rfl 0 (by decide) kw1 (fun _ h9 => h9) rfl dX9_day_1 ?_
  refine lv_iconst (v := 0) hx hb dX9_day_4 (by decide) ?_
  obtain ⟨g_2, hf⟩ := ht_gd_ob hf
  refine va_iald hx hb hK hP 1 1 rfl rfl (ht_ix_in g_2) dX9_day_5 ?_
  refine lv_if_le (tgt := 69) hx hb dX9_day_6 (by decide) (fun c_3 => ?_) (fun c_3 => ?_)
  · replace hf := ht_t c_3 hf
    exact b69  RM.s _ _ _ hf hP hD hS hl
  · replace hf := ht_f c_3 hf
    refine lv_aload_n hx hb dX9_day_9 rfl (lv_at hl 0 rfl) ?_
    obtain ⟨o_4, ho_4, hf⟩ := ht_bn_ob hf
    refine ht_callVi (r := o_4.1) (rest := []) (As := []) (wc := (wMo K jM aM RM.s RM.held RM.aside RM.before RM.isHeld RM.tape RM.taped RM.token RM.frm RM.to RM.value RM.isWrong RM.unpaired RM.bestSound RM.bestWay RM.rows RM.rowN RM.sortOf RM.sizeOf RM.numbers RM.holdsWhat RM.holdsWhich RM.holdsMany RM.bodies RM.ran RM.actKind RM.actN RM.actA RM.isParted)) (wr := []) (w1 := (wMo K jM aM o_4.2 RM.held RM.aside RM.before RM.isHeld RM.tape RM.taped RM.token RM.frm RM.to RM.value RM.isWrong RM.unpaired RM.bestSound RM.bestWay RM.rows RM.rowN RM.sortOf RM.sizeOf RM.numbers RM.holdsWhat RM.holdsWhich RM.holdsMany RM.bodies RM.ran RM.actKind RM.actN RM.actA RM.isParted)) (w2 := (wMo K jM aM o_4.2 RM.held RM.aside RM.before RM.isHeld RM.tape RM.taped RM.token RM.frm RM.to RM.value RM.isWrong RM.unpaired RM.bestSound RM.bestWay RM.rows RM.rowN RM.sortOf RM.sizeOf RM.numbers RM.holdsWhat RM.holdsWhich RM.holdsMany RM.bodies RM.ran RM.actKind RM.actN RM.actA RM.isParted)) hF (ctX9_drawn l D K jM aM RM o_4 ho_4 H.size) (cwV 0 hts gX9_day_X9_drawn rfl rfl rfl hdX9_drawn ⟨Nat.le_of_ble_eq_true rfl, Nat.le_of_ble_eq_true rfl⟩) hK hP hD hS hA [0, 1, 2, 3, 4, 5, 6, 7, 8, 9, 10, 11, 12, 13, 14, 15] [] rfl rfl (by decide) (by decide) (by decide) [0, 1, 2, 3, 4, 5, 6, 7, 8, 9, 10, 11, 12, 13, 14, 15] rfl (by decide) (va_recv hK hP (ci := 9) (q0 := 0) rfl rfl) rfl hl.1 rfl (Nat.le_of_ble_eq_true rfl) dX9_day_10 ⟨Nat.zero_le _, Nat.zero_le _⟩ (fun H locs hP hD hS => ?_)
    refine lv_aload_n hx hb dX9_day_13 rfl (lv_at hl 0 rfl) ?_
    refine va_get (D := D) (ci := 9) (v := .ref (aM 0)) (C := RX9) (T := TX9) (N := 29) hx hb hts iw9 hown hK hP 0 rfl rfl 0 (by decide) kw1 (fun _ h9 => h9) rfl dX9_day_14 ?_
    refine lv_iconst (v := 0) hx hb dX9_day_17 (by decide) ?_
    obtain ⟨g_5, hf⟩ := ht_gd_ob hf
    refine va_iald hx hb hK hP 1 1 rfl rfl (ht_ix_in g_5) dX9_day_18 ?_
    obtain ⟨g_6, hf⟩ := ht_gd_ob hf
    refine lv_irem hx hb dX9_day_19 (ht_nz_ne g_6) ?_
    obtain ⟨x1_7, ex1_7, hf⟩ := ht_nm_ob hf
    rw [← ex1_7]
    refine lv_istore_n (lv' := [(1, .int x1_7), (0, .ref jM)]) hx hb dX9_day_20 rfl hl (by decide) rfl (fun ls hl => ?_)
    refine lv_aload_n hx hb dX9_day_21 rfl (lv_at hl 1 rfl) ?_
    obtain ⟨o_8, ho_8, hf⟩ := ht_bn_ob hf
    refine ht_callVi (r := o_8.1) (rest := []) (As := []) (wc := (wMo K jM aM o_4.2 RM.held RM.aside RM.before RM.isHeld RM.tape RM.taped RM.token RM.frm RM.to RM.value RM.isWrong RM.unpaired RM.bestSound RM.bestWay RM.rows RM.rowN RM.sortOf RM.sizeOf RM.numbers RM.holdsWhat RM.holdsWhich RM.holdsMany RM.bodies RM.ran RM.actKind RM.actN RM.actA RM.isParted)) (wr := []) (w1 := (wMo K jM aM o_8.2 RM.held RM.aside RM.before RM.isHeld RM.tape RM.taped RM.token RM.frm RM.to RM.value RM.isWrong RM.unpaired RM.bestSound RM.bestWay RM.rows RM.rowN RM.sortOf RM.sizeOf RM.numbers RM.holdsWhat RM.holdsWhich RM.holdsMany RM.bodies RM.ran RM.actKind RM.actN RM.actA RM.isParted)) (w2 := (wMo K jM aM o_8.2 RM.held RM.aside RM.before RM.isHeld RM.tape RM.taped RM.token RM.frm RM.to RM.value RM.isWrong RM.unpaired RM.bestSound RM.bestWay RM.rows RM.rowN RM.sortOf RM.sizeOf RM.numbers RM.holdsWhat RM.holdsWhich RM.holdsMany RM.bodies RM.ran RM.actKind RM.actN RM.actA RM.isParted)) hF (ctX9_drawn l D K jM aM (o_4.2, RM.held, RM.aside, RM.before, RM.isHeld, RM.tape, RM.taped, RM.token, RM.frm, RM.to, RM.value, RM.isWrong, RM.unpaired, RM.bestSound, RM.bestWay, RM.rows, RM.rowN, RM.sortOf, RM.sizeOf, RM.numbers, RM.holdsWhat, RM.holdsWhich, RM.holdsMany, RM.bodies, RM.ran, RM.actKind, RM.actN, RM.actA, RM.isParted) o_8 ho_8 H.size) (cwV 0 hts gX9_day_X9_drawn rfl rfl rfl hdX9_drawn ⟨Nat.le_of_ble_eq_true rfl, Nat.le_of_ble_eq_true rfl⟩) hK hP hD hS hA [0, 1, 2, 3, 4, 5, 6, 7, 8, 9, 10, 11, 12, 13, 14, 15] [] rfl rfl (by decide) (by decide) (by decide) [0, 1, 2, 3, 4, 5, 6, 7, 8, 9, 10, 11, 12, 13, 14, 15] rfl (by decide) (va_recv hK hP (ci := 9) (q0 := 0) rfl rfl) rfl hl.1 rfl (Nat.le_of_ble_eq_true rfl) dX9_day_22 ⟨Nat.zero_le _, Nat.zero_le _⟩ (fun H locs hP hD hS => ?_)
    refine lv_bipush (v := 100) hx hb dX9_day_25 (by decide) ?_
    refine lv_irem hx hb dX9_day_27 (by decide) ?_
    refine lv_aload_n hx hb dX9_day_28 rfl (lv_at hl 1 rfl) ?_
    refine va_get (D := D) (ci := 9) (v := .ref (aM 0)) (C := RX9) (T := TX9) (N := 29) hx hb hts iw9 hown hK hP 0 rfl rfl 0 (by decide) kw1 (fun _ h9 => h9) rfl dX9_day_29 ?_
    refine lv_bipush (v := 8) hx hb dX9_day_32 (by decide) ?_
    obtain ⟨g_9, hf⟩ := ht_gd_ob hf
    refine va_iald hx hb hK hP 1 1 rfl rfl (ht_ix_in g_9) dX9_day_34 ?_
    refine lv_icmp_ge (tgt := 69) hx hb dX9_day_35 (by decide) (fun c_10 => ?_) (fun c_10 => ?_)
    · replace hf := ht_t c_10 hf
      exact b69  o_8.2 _ _ _ hf hP hD hS (lv_sub hl [1] rfl)
    · replace hf := ht_f c_10 hf
      refine lv_aload_n hx hb dX9_day_38 rfl (lv_at hl 1 rfl) ?_
      obtain ⟨o_11, ho_11, hf⟩ := ht_bn_ob hf
      refine ht_callVi (r := o_11.1) (rest := []) (As := []) (wc := (wMo K jM aM o_8.2 RM.held RM.aside RM.before RM.isHeld RM.tape RM.taped RM.token RM.frm RM.to RM.value RM.isWrong RM.unpaired RM.bestSound RM.bestWay RM.rows RM.rowN RM.sortOf RM.sizeOf RM.numbers RM.holdsWhat RM.holdsWhich RM.holdsMany RM.bodies RM.ran RM.actKind RM.actN RM.actA RM.isParted)) (wr := []) (w1 := (wMo K jM aM o_11.2 RM.held RM.aside RM.before RM.isHeld RM.tape RM.taped RM.token RM.frm RM.to RM.value RM.isWrong RM.unpaired RM.bestSound RM.bestWay RM.rows RM.rowN RM.sortOf RM.sizeOf RM.numbers RM.holdsWhat RM.holdsWhich RM.holdsMany RM.bodies RM.ran RM.actKind RM.actN RM.actA RM.isParted)) (w2 := (wMo K jM aM o_11.2 RM.held RM.aside RM.before RM.isHeld RM.tape RM.taped RM.token RM.frm RM.to RM.value RM.isWrong RM.unpaired RM.bestSound RM.bestWay RM.rows RM.rowN RM.sortOf RM.sizeOf RM.numbers RM.holdsWhat RM.holdsWhich RM.holdsMany RM.bodies RM.ran RM.actKind RM.actN RM.actA RM.isParted)) hF (ctX9_drawn l D K jM aM (o_8.2, RM.held, RM.aside, RM.before, RM.isHeld, RM.tape, RM.taped, RM.token, RM.frm, RM.to, RM.value, RM.isWrong, RM.unpaired, RM.bestSound, RM.bestWay, RM.rows, RM.rowN, RM.sortOf, RM.sizeOf, RM.numbers, RM.holdsWhat, RM.holdsWhich, RM.holdsMany, RM.bodies, RM.ran, RM.actKind, RM.actN, RM.actA, RM.isParted) o_11 ho_11 H.size) (cwV 0 hts gX9_day_X9_drawn rfl rfl rfl hdX9_drawn ⟨Nat.le_of_ble_eq_true rfl, Nat.le_of_ble_eq_true rfl⟩) hK hP hD hS hA [0, 1, 2, 3, 4, 5, 6, 7, 8, 9, 10, 11, 12, 13, 14, 15] [] rfl rfl (by decide) (by decide) (by decide) [0, 1, 2, 3, 4, 5, 6, 7, 8, 9, 10, 11, 12, 13, 14, 15] rfl (by decide) (va_recv hK hP (ci := 9) (q0 := 0) rfl rfl) rfl hl.1 rfl (Nat.le_of_ble_eq_true rfl) dX9_day_39 ⟨Nat.zero_le _, Nat.zero_le _⟩ (fun H locs hP hD hS => ?_)
      refine lv_aload_n hx hb dX9_day_42 rfl (lv_at hl 1 rfl) ?_
      refine va_get (D := D) (ci := 9) (v := .ref (aM 0)) (C := RX9) (T := TX9) (N := 29) hx hb hts iw9 hown hK hP 0 rfl rfl 0 (by decide) kw1 (fun _ h9 => h9) rfl dX9_day_43 ?_
      refine lv_iconst (v := 0) hx hb dX9_day_46 (by decide) ?_
      obtain ⟨g_12, hf⟩ := ht_gd_ob hf
      refine va_iald hx hb hK hP 1 1 rfl rfl (ht_ix_in g_12) dX9_day_47 ?_
      obtain ⟨g_13, hf⟩ := ht_gd_ob hf
      refine lv_irem hx hb dX9_day_48 (ht_nz_ne g_13) ?_
      obtain ⟨x2_14, ex2_14, hf⟩ := ht_nm_ob hf
      rw [← ex2_14]
      refine lv_istore_n (lv' := [(2, .int x2_14), (1, .int x1_7), (0, .ref jM)]) hx hb dX9_day_49 rfl hl (by decide) rfl (fun ls hl => ?_)
      refine lv_iload_n hx hb dX9_day_50 rfl (lv_at hl 0 rfl) ?_
      refine lv_iload_n hx hb dX9_day_51 rfl (lv_at hl 1 rfl) ?_
      refine lv_icmp_ne (tgt := 63) hx hb dX9_day_52 (by decide) (fun c_15 => ?_) (fun c_15 => ?_)
      · replace hf := ht_f c_15 hf
        refine lv_aload_n hx hb dX9_day_63 rfl (lv_at hl 2 rfl) ?_
        refine lv_iload_n hx hb dX9_day_64 rfl (lv_at hl 1 rfl) ?_
        refine lv_iload_n hx hb dX9_day_65 rfl (lv_at hl 0 rfl) ?_
        obtain ⟨o_16, ho_16, hf⟩ := ht_bn_ob hf
        refine ht_callVv (rest := []) (As := [.int x1_7, .int x2_14]) (wc := (wMo K jM aM o_11.2 RM.held RM.aside RM.before RM.isHeld RM.tape RM.taped RM.token RM.frm RM.to RM.value RM.isWrong RM.unpaired RM.bestSound RM.bestWay RM.rows RM.rowN RM.sortOf RM.sizeOf RM.numbers RM.holdsWhat RM.holdsWhich RM.holdsMany RM.bodies RM.ran RM.actKind RM.actN RM.actA RM.isParted)) (wr := []) (w1 := (wMo K jM aM o_16 RM.held RM.aside RM.before RM.isHeld RM.tape RM.taped RM.token RM.frm RM.to RM.value RM.isWrong RM.unpaired RM.bestSound RM.bestWay RM.rows RM.rowN RM.sortOf RM.sizeOf RM.numbers RM.holdsWhat RM.holdsWhich RM.holdsMany RM.bodies RM.ran RM.actKind RM.actN RM.actA RM.isParted)) (w2 := (wMo K jM aM o_16 RM.held RM.aside RM.before RM.isHeld RM.tape RM.taped RM.token RM.frm RM.to RM.value RM.isWrong RM.unpaired RM.bestSound RM.bestWay RM.rows RM.rowN RM.sortOf RM.sizeOf RM.numbers RM.holdsWhat RM.holdsWhich RM.holdsMany RM.bodies RM.ran RM.actKind RM.actN RM.actA RM.isParted)) hF (ctX9_pairs l D K jM aM (o_11.2, RM.held, RM.aside, RM.before, RM.isHeld, RM.tape, RM.taped, RM.token, RM.frm, RM.to, RM.value, RM.isWrong, RM.unpaired, RM.bestSound, RM.bestWay, RM.rows, RM.rowN, RM.sortOf, RM.sizeOf, RM.numbers, RM.holdsWhat, RM.holdsWhich, RM.holdsMany, RM.bodies, RM.ran, RM.actKind, RM.actN, RM.actA, RM.isParted) x1_7 x2_14 o_16 ho_16 H.size) (cwV 2 hts gX9_day_X9_pairs rfl rfl rfl hdX9_pairs ⟨Nat.le_of_ble_eq_true rfl, Nat.le_of_ble_eq_true rfl⟩) hK hP hD hS hA [0, 1, 2, 3, 4, 5, 6, 7, 8, 9, 10, 11, 12, 13, 14, 15] [] rfl rfl (by decide) (by decide) (by decide) [0, 1, 2, 3, 4, 5, 6, 7, 8, 9, 10, 11, 12, 13, 14, 15] rfl (by decide) (va_recv hK hP (ci := 9) (q0 := 0) rfl rfl) rfl hl.1 rfl (Nat.le_of_ble_eq_true rfl) dX9_day_66 ⟨Nat.zero_le _, Nat.zero_le _⟩ (fun H locs hP hD hS => ?_)
        exact b69  o_16 _ _ _ hf hP hD hS (lv_sub hl [2] rfl)
      · replace hf := ht_t c_15 hf
        refine lv_aload_n hx hb dX9_day_55 rfl (lv_at hl 2 rfl) ?_
        refine lv_iload_n hx hb dX9_day_56 rfl (lv_at hl 1 rfl) ?_
        obtain ⟨o_17, ho_17, hf⟩ := ht_bn_ob hf
        refine ht_callVv (rest := []) (As := [.int x1_7]) (wc := (wMo K jM aM o_11.2 RM.held RM.aside RM.before RM.isHeld RM.tape RM.taped RM.token RM.frm RM.to RM.value RM.isWrong RM.unpaired RM.bestSound RM.bestWay RM.rows RM.rowN RM.sortOf RM.sizeOf RM.numbers RM.holdsWhat RM.holdsWhich RM.holdsMany RM.bodies RM.ran RM.actKind RM.actN RM.actA RM.isParted)) (wr := []) (w1 := (wMo K jM aM o_17 RM.held RM.aside RM.before RM.isHeld RM.tape RM.taped RM.token RM.frm RM.to RM.value RM.isWrong RM.unpaired RM.bestSound RM.bestWay RM.rows RM.rowN RM.sortOf RM.sizeOf RM.numbers RM.holdsWhat RM.holdsWhich RM.holdsMany RM.bodies RM.ran RM.actKind RM.actN RM.actA RM.isParted)) (w2 := (wMo K jM aM o_17 RM.held RM.aside RM.before RM.isHeld RM.tape RM.taped RM.token RM.frm RM.to RM.value RM.isWrong RM.unpaired RM.bestSound RM.bestWay RM.rows RM.rowN RM.sortOf RM.sizeOf RM.numbers RM.holdsWhat RM.holdsWhich RM.holdsMany RM.bodies RM.ran RM.actKind RM.actN RM.actA RM.isParted)) hF (ctX9_leaves l D K jM aM (o_11.2, RM.held, RM.aside, RM.before, RM.isHeld, RM.tape, RM.taped, RM.token, RM.frm, RM.to, RM.value, RM.isWrong, RM.unpaired, RM.bestSound, RM.bestWay, RM.rows, RM.rowN, RM.sortOf, RM.sizeOf, RM.numbers, RM.holdsWhat, RM.holdsWhich, RM.holdsMany, RM.bodies, RM.ran, RM.actKind, RM.actN, RM.actA, RM.isParted) x1_7 o_17 ho_17 H.size) (cwV 1 hts gX9_day_X9_leaves rfl rfl rfl hdX9_leaves ⟨Nat.le_of_ble_eq_true rfl, Nat.le_of_ble_eq_true rfl⟩) hK hP hD hS hA [0, 1, 2, 3, 4, 5, 6, 7, 8, 9, 10, 11, 12, 13, 14, 15] [] rfl rfl (by decide) (by decide) (by decide) [0, 1, 2, 3, 4, 5, 6, 7, 8, 9, 10, 11, 12, 13, 14, 15] rfl (by decide) (va_recv hK hP (ci := 9) (q0 := 0) rfl rfl) rfl hl.1 rfl (Nat.le_of_ble_eq_true rfl) dX9_day_57 ⟨Nat.zero_le _, Nat.zero_le _⟩ (fun H locs hP hD hS => ?_)
        refine lv_goto (tgt := 69) hx hb dX9_day_60 (by decide) ?_
        exact b69  o_17 _ _ _ hf hP hD hS (lv_sub hl [2] rfl)
abbrev rmX9_luck : Room := { frames := 5, cells := 0, slots := 0, locals := 115 }
theorem hdX9_luck : yX9_luck.cls = RX9 ∧ yX9_luck.cls ≠ "java/lang/invoke/MethodHandle" ∧ yX9_luck.cls ≠ "java/lang/invoke/VarHandle" ∧ (parseMethodDescriptor yX9_luck.desc).map (fun d => d.parameters.length) = some 1 := by decide +kernel
def fX9_luck_b98 (RM : ModV) (x4 : Int32) (vM_s : AI) (vM_aside : AI) : Option (Int32 × AI × AI) := ht_bn (fX9_copyRow vM_aside vM_s) (fun o_1 => some (x4, o_1, vM_aside))
def fX9_luck_b82 (RM : ModV) (k43 : Int32 → Int32 → Int32 → Int32 → Int32 → AI → AI → Option (Int32 × AI × AI)) (x1 : Int32) (x2 : Int32) (x5 : Int32) (t0 : Int32) (t1 : Int32) (vM_s : AI) (vM_aside : AI) : Option (Int32 × AI × AI) := ht_nm (t0 + t1) (fun x4_2 => ht_gd (ht_ix (2 : Int32) 57) (ht_nm (vM_s (2 : Int32).toNatClampNeg) (fun x3_4 => ht_nm (x5 + (1 : Int32)) (fun x5_5 => k43 x1 x2 x3_4 x4_2 x5_5 vM_s vM_aside))))
def fX9_luck_b43 (RM : ModV) (k43 : Int32 → Int32 → Int32 → Int32 → Int32 → AI → AI → Option (Int32 × AI × AI)) (x1 : Int32) (x2 : Int32) (x3 : Int32) (x4 : Int32) (x5 : Int32) (vM_s : AI) (vM_aside : AI) : Option (Int32 × AI × AI) := if x1 ≤ x5 then (fX9_luck_b98 RM x4 vM_s vM_aside) else (ht_bn (fX9_copyRow vM_aside vM_s) (fun o_7 => ht_gd (ht_ix (2 : Int32) 57) (ht_nm (upd o_7 (2 : Int32).toNatClampNeg x3) (fun vM_s_9 => ht_bn (fX9_day (vM_s_9, RM.held, vM_aside, RM.before, RM.isHeld, RM.tape, RM.taped, RM.token, RM.frm, RM.to, RM.value, RM.isWrong, RM.unpaired, RM.bestSound, RM.bestWay, RM.rows, RM.rowN, RM.sortOf, RM.sizeOf, RM.numbers, RM.holdsWhat, RM.holdsWhich, RM.holdsMany, RM.bodies, RM.ran, RM.actKind, RM.actN, RM.actA, RM.isParted)) (fun o_10 => if o_10.1 ≤ x2 then (fX9_luck_b82 RM k43 x1 x2 x5 x4 (0 : Int32) o_10.2 vM_aside) else (fX9_luck_b82 RM k43 x1 x2 x5 x4 (1 : Int32) o_10.2 vM_aside))))))
def fX9_luck (RM : ModV) (p0 : Int32) : Option (Int32 × AI × AI) := ht_bn (fX9_isIn p0.toInt64 (1 : Int64) (30 : Int64)) (fun o_12 => if o_12 = 0 then (some ((-1 : Int32), RM.s, RM.aside)) else (ht_bn (fX9_copyRow RM.s RM.aside) (fun o_14 => ht_bn (fX9_goesOn (RM.s, RM.held, o_14, RM.before, RM.isHeld, RM.tape, RM.taped, RM.token, RM.frm, RM.to, RM.value, RM.isWrong, RM.unpaired, RM.bestSound, RM.bestWay, RM.rows, RM.rowN, RM.sortOf, RM.sizeOf, RM.numbers, RM.holdsWhat, RM.holdsWhich, RM.holdsMany, RM.bodies, RM.ran, RM.actKind, RM.actN, RM.actA, RM.isParted)) (fun o_15 => ht_nm o_15.1 (fun x2_16 => ht_gd (ht_ix (2 : Int32) 57) (ht_nm (o_14 (2 : Int32).toNatClampNeg) (fun x3_18 => ht_lp7 (fX9_luck_b43 RM) FU p0 x2_16 x3_18 (0 : Int32) (0 : Int32) o_15.2 o_14)))))))
set_option maxHeartbeats 1000000 in
set_option maxRecDepth 100000 in
theorem ctX9_luck (l : Launch) (D : va_G) (K : Nat → ClassId) (jM : Nat) (aM : Nat → Nat) (RM : ModV) (p0 : Int32) (o : (Int32 × AI × AI)) (hf : fX9_luck RM p0 = some o) (sz : Nat) : Met l yX9_luck wsX9_luck rmX9_luck (ht_Pre D K [.ref jM, .int p0] (wMo K jM aM RM.s RM.held RM.aside RM.before RM.isHeld RM.tape RM.taped RM.token RM.frm RM.to RM.value RM.isWrong RM.unpaired RM.bestSound RM.bestWay RM.rows RM.rowN RM.sortOf RM.sizeOf RM.numbers RM.holdsWhat RM.holdsWhich RM.holdsMany RM.bodies RM.ran RM.actKind RM.actN RM.actA RM.isParted) sz) (ht_Qi D K (wMo K jM aM o.2.1 RM.held o.2.2 RM.before RM.isHeld RM.tape RM.taped RM.token RM.frm RM.to RM.value RM.isWrong RM.unpaired RM.bestSound RM.bestWay RM.rows RM.rowN RM.sortOf RM.sizeOf RM.numbers RM.holdsWhat RM.holdsWhich RM.holdsMany RM.bodies RM.ran RM.actKind RM.actN RM.actA RM.isParted) o.1 (va_A (wMo K jM aM RM.s RM.held RM.aside RM.before RM.isHeld RM.tape RM.taped RM.token RM.frm RM.to RM.value RM.isWrong RM.unpaired RM.bestSound RM.bestWay RM.rows RM.rowN RM.sortOf RM.sizeOf RM.numbers RM.holdsWhat RM.holdsWhich RM.holdsMany RM.bodies RM.ran RM.actKind RM.actN RM.actA RM.isParted) sz)) 0 0 (va_A (wMo K jM aM RM.s RM.held RM.aside RM.before RM.isHeld RM.tape RM.taped RM.token RM.frm RM.to RM.value RM.isWrong RM.unpaired RM.bestSound RM.bestWay RM.rows RM.rowN RM.sortOf RM.sizeOf RM.numbers RM.holdsWhat RM.holdsWhich RM.holdsMany RM.bodies RM.ran RM.actKind RM.actN RM.actA RM.isParted) sz) := by
  refine ht_enter (Qf := ht_Qi D K (wMo K jM aM o.2.1 RM.held o.2.2 RM.before RM.isHeld RM.tape RM.taped RM.token RM.frm RM.to RM.value RM.isWrong RM.unpaired RM.bestSound RM.bestWay RM.rows RM.rowN RM.sortOf RM.sizeOf RM.numbers RM.holdsWhat RM.holdsWhich RM.holdsMany RM.bodies RM.ran RM.actKind RM.actN RM.actA RM.isParted) o.1) (cc := cX9_luck) (maxL := 6) (rt := (some .int)) (by decide) rfl (Nat.le_of_ble_eq_true rfl) ?_ sz
  intro p e s m below meth c A Q H locs ls hQ hx hb hr hlk hmn hml hown hts hA hK hP hD hS hl
  have hown : s.vm.findClass RX9 = some m.cls := hown
  have hF : CallFix p m c cX9_luck 6 s ([.ref jM, .int p0] : List Value).toArray wsX9_luck RX9 := ⟨hx, hb, hml, hown, hts⟩
  have hl : lv_has ls 6 [(0, .ref jM), (1, .int p0)] := hl
  have iw9 : ∀ w ∈ u_ws RX9 TX9 29, w ∈ wsX9_luck := by decide +kernel
  have kw1 := hts (.fieldLink RX9 16 "HeldTonguesModel" "aside" "[I") (by decide +kernel)
  have kw2 := hts (.fieldLink RX9 7 "HeldTonguesModel" "s" "[I") (by decide +kernel)
  have kw3 := hts (.constantLong RX9 214 (30)) (by decide +kernel)
  have b98 : ∀ (x4 : Int32) (vM_s : AI) (vM_aside : AI) (H : Heap) (locs : List Loc) (ls : Array Slot), fX9_luck_b98 RM x4 vM_s vM_aside = some o → va_P D vwCl (wMo K jM aM vM_s RM.held vM_aside RM.before RM.isHeld RM.tape RM.taped RM.token RM.frm RM.to RM.value RM.isWrong RM.unpaired RM.bestSound RM.bestWay RM.rows RM.rowN RM.sortOf RM.sizeOf RM.numbers RM.holdsWhat RM.holdsWhich RM.holdsMany RM.bodies RM.ran RM.actKind RM.actN RM.actA RM.isParted) H → va_D A (wMo K jM aM vM_s RM.held vM_aside RM.before RM.isHeld RM.tape RM.taped RM.token RM.frm RM.to RM.value RM.isWrong RM.unpaired RM.bestSound RM.bestWay RM.rows RM.rowN RM.sortOf RM.sizeOf RM.numbers RM.holdsWhat RM.holdsWhich RM.holdsMany RM.bodies RM.ran RM.actKind RM.actN RM.actA RM.isParted) → va_S A s.heap H locs → lv_has ls 6 [(0, .ref jM), (4, .int x4)] → W p l e (headSpec wsX9_luck rmX9_luck).room s m ([.ref jM, .int p0] : List Value).toArray below meth c H locs 0 0 Q (F0 m 98 ls []) := by
    intro x4 vM_s vM_aside H locs ls hf hP hD hS hl
    delta fX9_luck_b98 at hf
    refine lv_aload_n hx hb dX9_luck_98 rfl (lv_at hl 0 rfl) ?_
    refine va_get (D := D) (ci := 9) (v := .ref (aM 2)) (C := RX9) (T := TX9) (N := 29) hx hb hts iw9 hown hK hP 0 rfl rfl 2 (by decide) kw1 (fun _ h9 => h9) rfl dX9_luck_99 ?_
    refine lv_aload_n hx hb dX9_luck_102 rfl (lv_at hl 0 rfl) ?_
    refine va_get (D := D) (ci := 9) (v := .ref (aM 0)) (C := RX9) (T := TX9) (N := 29) hx hb hts iw9 hown hK hP 0 rfl rfl 0 (by decide) kw2 (fun _ h9 => h9) rfl dX9_luck_103 ?_
    obtain ⟨o_1, ho_1, hf⟩ := ht_bn_ob hf
    refine ht_callSv (rest := []) (As := [.ref (aM 2), .ref (aM 0)]) (wc := (wAr K 57 (aM 2) vM_aside ++ (wAr K 57 (aM 0) vM_s))) (wr := ([(jM, .inr (9, [.ref (aM 0), .ref (aM 1), .ref (aM 2), .ref (aM 3), .int RM.isHeld, .ref (aM 4), .int RM.taped, .int RM.token, .int RM.frm, .int RM.to, .int RM.value, .int RM.isWrong, .ref (aM 5), .int RM.bestSound, .ref (aM 6), .ref (aM 7), .int RM.rowN, .ref (aM 8), .ref (aM 9), .ref (aM 10), .ref (aM 11), .ref (aM 12), .ref (aM 13), .ref (aM 14), .int RM.ran, .int RM.actKind, .int RM.actN, .int RM.actA, .int RM.isParted]))] ++ ([(aM 1, .inl (K 1, 57, .inl RM.held))] ++ ([(aM 3, .inl (K 1, 57, .inl RM.before))] ++ ([(aM 4, .inl (K 1, 200, .inl RM.tape))] ++ ([(aM 5, .inl (K 1, 57, .inl RM.unpaired))] ++ ([(aM 6, .inl (K 1, 8, .inl RM.bestWay))] ++ ([(aM 7, .inl (K 1, 30, .inl RM.rows))] ++ ([(aM 8, .inl (K 1, 4, .inl RM.sortOf))] ++ ([(aM 9, .inl (K 1, 4, .inl RM.sizeOf))] ++ ([(aM 10, .inl (K 1, 160, .inl RM.numbers))] ++ ([(aM 11, .inl (K 1, 4, .inl RM.holdsWhat))] ++ ([(aM 12, .inl (K 1, 4, .inl RM.holdsWhich))] ++ ([(aM 13, .inl (K 1, 4, .inl RM.holdsMany))] ++ ([(aM 14, .inl (K 1, 30, .inl RM.bodies))]))))))))))))))) (w1 := (wAr K 57 (aM 2) vM_aside ++ (wAr K 57 (aM 0) o_1))) (w2 := (wMo K jM aM o_1 RM.held vM_aside RM.before RM.isHeld RM.tape RM.taped RM.token RM.frm RM.to RM.value RM.isWrong RM.unpaired RM.bestSound RM.bestWay RM.rows RM.rowN RM.sortOf RM.sizeOf RM.numbers RM.holdsWhat RM.holdsWhich RM.holdsMany RM.bodies RM.ran RM.actKind RM.actN RM.actA RM.isParted)) hF (ctX9_copyRow l D K (aM 2) (aM 0) vM_aside vM_s o_1 ho_1 H.size) (va_cwS 2 hts gX9_luck_X9_copyRow rfl rfl rfl hdX9_copyRow ⟨Nat.le_of_ble_eq_true rfl, Nat.le_of_ble_eq_true rfl⟩) hK hP hD hS hA [3, 1] [0, 2, 4, 5, 6, 7, 8, 9, 10, 11, 12, 13, 14, 15] rfl rfl (by decide) (by decide) (by decide) [0, 15, 1, 14, 2, 3, 4, 5, 6, 7, 8, 9, 10, 11, 12, 13] rfl (by decide) rfl hl.1 rfl (Nat.le_of_ble_eq_true rfl) dX9_luck_106 ⟨Nat.zero_le _, Nat.zero_le _⟩ (fun H locs hP hD hS => ?_)
    refine lv_iload hx hb dX9_luck_109 (lv_at hl 1 rfl) ?_
    have ho := Option.some.inj hf
    subst ho; subst hQ
    exact ht_iret hx hb hr hlk rfl hK hP hD hS dX9_luck_111
  have b82 : ∀ (k43 : Int32 → Int32 → Int32 → Int32 → Int32 → AI → AI → Option (Int32 × AI × AI)) (hk43 : ∀ (x1 : Int32) (x2 : Int32) (x3 : Int32) (x4 : Int32) (x5 : Int32) (vM_s : AI) (vM_aside : AI) (H : Heap) (locs : List Loc) (ls : Array Slot), k43 x1 x2 x3 x4 x5 vM_s vM_aside = some o → va_P D vwCl (wMo K jM aM vM_s RM.held vM_aside RM.before RM.isHeld RM.tape RM.taped RM.token RM.frm RM.to RM.value RM.isWrong RM.unpaired RM.bestSound RM.bestWay RM.rows RM.rowN RM.sortOf RM.sizeOf RM.numbers RM.holdsWhat RM.holdsWhich RM.holdsMany RM.bodies RM.ran RM.actKind RM.actN RM.actA RM.isParted) H → va_D A (wMo K jM aM vM_s RM.held vM_aside RM.before RM.isHeld RM.tape RM.taped RM.token RM.frm RM.to RM.value RM.isWrong RM.unpaired RM.bestSound RM.bestWay RM.rows RM.rowN RM.sortOf RM.sizeOf RM.numbers RM.holdsWhat RM.holdsWhich RM.holdsMany RM.bodies RM.ran RM.actKind RM.actN RM.actA RM.isParted) → va_S A s.heap H locs → lv_has ls 6 [(0, .ref jM), (1, .int x1), (2, .int x2), (3, .int x3), (4, .int x4), (5, .int x5)] → W p l e (headSpec wsX9_luck rmX9_luck).room s m ([.ref jM, .int p0] : List Value).toArray below meth c H locs 0 0 Q (F0 m 43 ls [])) (x1 : Int32) (x2 : Int32) (x5 : Int32) (t0 : Int32) (t1 : Int32) (vM_s : AI) (vM_aside : AI) (H : Heap) (locs : List Loc) (ls : Array Slot), fX9_luck_b82 RM k43 x1 x2 x5 t0 t1 vM_s vM_aside = some o → va_P D vwCl (wMo K jM aM vM_s RM.held vM_aside RM.before RM.isHeld RM.tape RM.taped RM.token RM.frm RM.to RM.value RM.isWrong RM.unpaired RM.bestSound RM.bestWay RM.rows RM.rowN RM.sortOf RM.sizeOf RM.numbers RM.holdsWhat RM.holdsWhich RM.holdsMany RM.bodies RM.ran RM.actKind RM.actN RM.actA RM.isParted) H → va_D A (wMo K jM aM vM_s RM.held vM_aside RM.before RM.isHeld RM.tape RM.taped RM.token RM.frm RM.to RM.value RM.isWrong RM.unpaired RM.bestSound RM.bestWay RM.rows RM.rowN RM.sortOf RM.sizeOf RM.numbers RM.holdsWhat RM.holdsWhich RM.holdsMany RM.bodies RM.ran RM.actKind RM.actN RM.actA RM.isParted) → va_S A s.heap H locs → lv_has ls 6 [(0, .ref jM), (1, .int x1), (2, .int x2), (5, .int x5)] → W p l e (headSpec wsX9_luck rmX9_luck).room s m ([.ref jM, .int p0] : List Value).toArray below meth c H locs 0 0 Q (F0 m 82 ls [.int t1, .int t0]) := by
    intro k43 hk43 x1 x2 x5 t0 t1 vM_s vM_aside H locs ls hf hP hD hS hl
    delta fX9_luck_b82 at hf
    refine lv_iadd hx hb dX9_luck_82 ?_
    obtain ⟨x4_2, ex4_2, hf⟩ := ht_nm_ob hf
    rw [← ex4_2]
    refine lv_istore (lv' := [(4, .int x4_2), (0, .ref jM), (1, .int x1), (2, .int x2), (5, .int x5)]) hx hb dX9_luck_83 hl (by decide) rfl (fun ls hl => ?_)
    refine lv_aload_n hx hb dX9_luck_85 rfl (lv_at hl 1 rfl) ?_
    refine va_get (D := D) (ci := 9) (v := .ref (aM 0)) (C := RX9) (T := TX9) (N := 29) hx hb hts iw9 hown hK hP 0 rfl rfl 0 (by decide) kw2 (fun _ h9 => h9) rfl dX9_luck_86 ?_
    refine lv_iconst (v := 2) hx hb dX9_luck_89 (by decide) ?_
    obtain ⟨g_3, hf⟩ := ht_gd_ob hf
    refine va_iald hx hb hK hP 1 1 rfl rfl (ht_ix_in g_3) dX9_luck_90 ?_
    obtain ⟨x3_4, ex3_4, hf⟩ := ht_nm_ob hf
    rw [← ex3_4]
    refine lv_istore_n (lv' := [(3, .int x3_4), (4, .int x4_2), (0, .ref jM), (1, .int x1), (2, .int x2), (5, .int x5)]) hx hb dX9_luck_91 rfl hl (by decide) rfl (fun ls hl => ?_)
    obtain ⟨x5_5, ex5_5, hf⟩ := ht_nm_ob hf
    refine lv_iinc (v := x5_5) (lv' := [(5, .int x5_5), (3, .int x3_4), (4, .int x4_2), (0, .ref jM), (1, .int x1), (2, .int x2)]) hx hb dX9_luck_92 hl (k := 5) rfl (by rw [ex5_5]; rfl) (by decide) rfl (fun ls hl => ?_)
    refine lv_goto (tgt := 43) hx hb dX9_luck_95 (by decide) ?_
    exact hk43 x1 x2 x3_4 x4_2 x5_5 vM_s vM_aside _ _ _ hf hP hD hS (lv_sub hl [3, 4, 5, 1, 2, 0] rfl)
  have b43 : ∀ (n : Nat) (x1 : Int32) (x2 : Int32) (x3 : Int32) (x4 : Int32) (x5 : Int32) (vM_s : AI) (vM_aside : AI) (H : Heap) (locs : List Loc) (ls : Array Slot), ht_lp7 (fX9_luck_b43 RM) n x1 x2 x3 x4 x5 vM_s vM_aside = some o → va_P D vwCl (wMo K jM aM vM_s RM.held vM_aside RM.before RM.isHeld RM.tape RM.taped RM.token RM.frm RM.to RM.value RM.isWrong RM.unpaired RM.bestSound RM.bestWay RM.rows RM.rowN RM.sortOf RM.sizeOf RM.numbers RM.holdsWhat RM.holdsWhich RM.holdsMany RM.bodies RM.ran RM.actKind RM.actN RM.actA RM.isParted) H → va_D A (wMo K jM aM vM_s RM.held vM_aside RM.before RM.isHeld RM.tape RM.taped RM.token RM.frm RM.to RM.value RM.isWrong RM.unpaired RM.bestSound RM.bestWay RM.rows RM.rowN RM.sortOf RM.sizeOf RM.numbers RM.holdsWhat RM.holdsWhich RM.holdsMany RM.bodies RM.ran RM.actKind RM.actN RM.actA RM.isParted) → va_S A s.heap H locs → lv_has ls 6 [(0, .ref jM), (1, .int x1), (2, .int x2), (3, .int x3), (4, .int x4), (5, .int x5)] → W p l e (headSpec wsX9_luck rmX9_luck).room s m ([.ref jM, .int p0] : List Value).toArray below meth c H locs 0 0 Q (F0 m 43 ls []) := by
    intro n
    induction n with
    | zero =>
      intro x1 x2 x3 x4 x5 vM_s vM_aside H locs ls hf hP hD hS hl
      cases (show (none : Option (Int32 × AI × AI)) = some o from hf)
    | succ n hk43 =>
      intro x1 x2 x3 x4 x5 vM_s vM_aside H locs ls hf hP hD hS hl
      replace hf : fX9_luck_b43 RM (ht_lp7 (fX9_luck_b43 RM) n) x1 x2 x3 x4 x5 vM_s vM_aside = some o := hf
      delta fX9_luck_b43 at hf
      refine lv_iload hx hb dX9_luck_43 (lv_at hl 5 rfl) ?_
      refine lv_iload_n hx hb dX9_luck_45 rfl (lv_at hl 1 rfl) ?_
      refine lv_icmp_ge (tgt := 98) hx hb dX9_luck_46 (by decide) (fun c_6 => ?_) (fun c_6 => ?_)
      · replace hf := ht_t c_6 hf
        exact b98  x4 vM_s vM_aside _ _ _ hf hP hD hS (lv_sub hl [0, 4] rfl)
      · replace hf := ht_f c_6 hf
        refine lv_aload_n hx hb dX9_luck_49 rfl (lv_at hl 0 rfl) ?_
        refine va_get (D := D) (ci := 9) (v := .ref (aM 2)) (C := RX9) (T := TX9) (N := 29) hx hb hts iw9 hown hK hP 0 rfl rfl 2 (by decide) kw1 (fun _ h9 => h9) rfl dX9_luck_50 ?_
        refine lv_aload_n hx hb dX9_luck_53 rfl (lv_at hl 0 rfl) ?_
        refine va_get (D := D) (ci := 9) (v := .ref (aM 0)) (C := RX9) (T := TX9) (N := 29) hx hb hts iw9 hown hK hP 0 rfl rfl 0 (by decide) kw2 (fun _ h9 => h9) rfl dX9_luck_54 ?_
        obtain ⟨o_7, ho_7, hf⟩ := ht_bn_ob hf
        refine ht_callSv (rest := []) (As := [.ref (aM 2), .ref (aM 0)]) (wc := (wAr K 57 (aM 2) vM_aside ++ (wAr K 57 (aM 0) vM_s))) (wr := ([(jM, .inr (9, [.ref (aM 0), .ref (aM 1), .ref (aM 2), .ref (aM 3), .int RM.isHeld, .ref (aM 4), .int RM.taped, .int RM.token, .int RM.frm, .int RM.to, .int RM.value, .int RM.isWrong, .ref (aM 5), .int RM.bestSound, .ref (aM 6), .ref (aM 7), .int RM.rowN, .ref (aM 8), .ref (aM 9), .ref (aM 10), .ref (aM 11), .ref (aM 12), .ref (aM 13), .ref (aM 14), .int RM.ran, .int RM.actKind, .int RM.actN, .int RM.actA, .int RM.isParted]))] ++ ([(aM 1, .inl (K 1, 57, .inl RM.held))] ++ ([(aM 3, .inl (K 1, 57, .inl RM.before))] ++ ([(aM 4, .inl (K 1, 200, .inl RM.tape))] ++ ([(aM 5, .inl (K 1, 57, .inl RM.unpaired))] ++ ([(aM 6, .inl (K 1, 8, .inl RM.bestWay))] ++ ([(aM 7, .inl (K 1, 30, .inl RM.rows))] ++ ([(aM 8, .inl (K 1, 4, .inl RM.sortOf))] ++ ([(aM 9, .inl (K 1, 4, .inl RM.sizeOf))] ++ ([(aM 10, .inl (K 1, 160, .inl RM.numbers))] ++ ([(aM 11, .inl (K 1, 4, .inl RM.holdsWhat))] ++ ([(aM 12, .inl (K 1, 4, .inl RM.holdsWhich))] ++ ([(aM 13, .inl (K 1, 4, .inl RM.holdsMany))] ++ ([(aM 14, .inl (K 1, 30, .inl RM.bodies))]))))))))))))))) (w1 := (wAr K 57 (aM 2) vM_aside ++ (wAr K 57 (aM 0) o_7))) (w2 := (wMo K jM aM o_7 RM.held vM_aside RM.before RM.isHeld RM.tape RM.taped RM.token RM.frm RM.to RM.value RM.isWrong RM.unpaired RM.bestSound RM.bestWay RM.rows RM.rowN RM.sortOf RM.sizeOf RM.numbers RM.holdsWhat RM.holdsWhich RM.holdsMany RM.bodies RM.ran RM.actKind RM.actN RM.actA RM.isParted)) hF (ctX9_copyRow l D K (aM 2) (aM 0) vM_aside vM_s o_7 ho_7 H.size) (va_cwS 2 hts gX9_luck_X9_copyRow rfl rfl rfl hdX9_copyRow ⟨Nat.le_of_ble_eq_true rfl, Nat.le_of_ble_eq_true rfl⟩) hK hP hD hS hA [3, 1] [0, 2, 4, 5, 6, 7, 8, 9, 10, 11, 12, 13, 14, 15] rfl rfl (by decide) (by decide) (by decide) [0, 15, 1, 14, 2, 3, 4, 5, 6, 7, 8, 9, 10, 11, 12, 13] rfl (by decide) rfl hl.1 rfl (Nat.le_of_ble_eq_true rfl) dX9_luck_57 ⟨Nat.zero_le _, Nat.zero_le _⟩ (fun H locs hP hD hS => ?_)
        refine lv_aload_n hx hb dX9_luck_60 rfl (lv_at hl 0 rfl) ?_
        refine va_get (D := D) (ci := 9) (v := .ref (aM 0)) (C := RX9) (T := TX9) (N := 29) hx hb hts iw9 hown hK hP 0 rfl rfl 0 (by decide) kw2 (fun _ h9 => h9) rfl dX9_luck_61 ?_
        refine lv_iconst (v := 2) hx hb dX9_luck_64 (by decide) ?_
        refine lv_iload_n hx hb dX9_luck_65 rfl (lv_at hl 3 rfl) ?_
        obtain ⟨g_8, hf⟩ := ht_gd_ob hf
        obtain ⟨vM_s_9, evM_s_9, hf⟩ := ht_nm_ob hf
        refine ht_iast (w2 := (wMo K jM aM vM_s_9 RM.held vM_aside RM.before RM.isHeld RM.tape RM.taped RM.token RM.frm RM.to RM.value RM.isWrong RM.unpaired RM.bestSound RM.bestWay RM.rows RM.rowN RM.sortOf RM.sizeOf RM.numbers RM.holdsWhat RM.holdsWhich RM.holdsMany RM.bodies RM.ran RM.actKind RM.actN RM.actA RM.isParted)) hx hb hK hP hD hS 1 1 rfl rfl g_8 dX9_luck_66 evM_s_9 rfl (fun H locs hP hD hS => ?_)
        refine lv_iload hx hb dX9_luck_67 (lv_at hl 4 rfl) ?_
        refine lv_aload_n hx hb dX9_luck_69 rfl (lv_at hl 0 rfl) ?_
        obtain ⟨o_10, ho_10, hf⟩ := ht_bn_ob hf
        refine ht_callVi (r := o_10.1) (rest := [.int x4]) (As := []) (wc := (wMo K jM aM vM_s_9 RM.held vM_aside RM.before RM.isHeld RM.tape RM.taped RM.token RM.frm RM.to RM.value RM.isWrong RM.unpaired RM.bestSound RM.bestWay RM.rows RM.rowN RM.sortOf RM.sizeOf RM.numbers RM.holdsWhat RM.holdsWhich RM.holdsMany RM.bodies RM.ran RM.actKind RM.actN RM.actA RM.isParted)) (wr := []) (w1 := (wMo K jM aM o_10.2 RM.held vM_aside RM.before RM.isHeld RM.tape RM.taped RM.token RM.frm RM.to RM.value RM.isWrong RM.unpaired RM.bestSound RM.bestWay RM.rows RM.rowN RM.sortOf RM.sizeOf RM.numbers RM.holdsWhat RM.holdsWhich RM.holdsMany RM.bodies RM.ran RM.actKind RM.actN RM.actA RM.isParted)) (w2 := (wMo K jM aM o_10.2 RM.held vM_aside RM.before RM.isHeld RM.tape RM.taped RM.token RM.frm RM.to RM.value RM.isWrong RM.unpaired RM.bestSound RM.bestWay RM.rows RM.rowN RM.sortOf RM.sizeOf RM.numbers RM.holdsWhat RM.holdsWhich RM.holdsMany RM.bodies RM.ran RM.actKind RM.actN RM.actA RM.isParted)) hF (ctX9_day l D K jM aM (vM_s_9, RM.held, vM_aside, RM.before, RM.isHeld, RM.tape, RM.taped, RM.token, RM.frm, RM.to, RM.value, RM.isWrong, RM.unpaired, RM.bestSound, RM.bestWay, RM.rows, RM.rowN, RM.sortOf, RM.sizeOf, RM.numbers, RM.holdsWhat, RM.holdsWhich, RM.holdsMany, RM.bodies, RM.ran, RM.actKind, RM.actN, RM.actA, RM.isParted) o_10 ho_10 H.size) (cwV 0 hts gX9_luck_X9_day rfl rfl rfl hdX9_day ⟨Nat.le_of_ble_eq_true rfl, Nat.le_of_ble_eq_true rfl⟩) hK hP hD hS hA [0, 1, 2, 3, 4, 5, 6, 7, 8, 9, 10, 11, 12, 13, 14, 15] [] rfl rfl (by decide) (by decide) (by decide) [0, 1, 2, 3, 4, 5, 6, 7, 8, 9, 10, 11, 12, 13, 14, 15] rfl (by decide) (va_recv hK hP (ci := 9) (q0 := 0) rfl rfl) rfl hl.1 rfl (Nat.le_of_ble_eq_true rfl) dX9_luck_70 ⟨Nat.zero_le _, Nat.zero_le _⟩ (fun H locs hP hD hS => ?_)
        refine lv_iload_n hx hb dX9_luck_73 rfl (lv_at hl 2 rfl) ?_
        refine lv_icmp_le (tgt := 81) hx hb dX9_luck_74 (by decide) (fun c_11 => ?_) (fun c_11 => ?_)
        · replace hf := ht_t c_11 hf
          refine lv_iconst (v := 0) hx hb dX9_luck_81 (by decide) ?_
          exact b82 _ hk43 x1 x2 x5 x4 (0 : Int32) o_10.2 vM_aside _ _ _ hf hP hD hS (lv_sub hl [0, 1, 2, 5] rfl)
        · replace hf := ht_f c_11 hf
          refine lv_iconst (v := 1) hx hb dX9_luck_77 (by decide) ?_
          refine lv_goto (tgt := 82) hx hb dX9_luck_78 (by decide) ?_
          exact b82 _ hk43 x1 x2 x5 x4 (1 : Int32) o_10.2 vM_aside _ _ _ hf hP hD hS (lv_sub hl [0, 1, 2, 5] rfl)
  delta fX9_luck at hf
  refine lv_iload_n hx hb dX9_luck_0 rfl (lv_at hl 1 rfl) ?_
  refine lv_i2l hx hb dX9_luck_1 rfl ?_
  refine lv_lconst (v := 1) hx hb dX9_luck_2 (by decide) ?_
  refine lv_ldc2 hx hb hown kw3 dX9_luck_3 ?_
  obtain ⟨o_12, ho_12, hf⟩ := ht_bn_ob hf
  refine ht_callSi (r := o_12) (rest := []) (As := [.long p0.toInt64, .long (1 : Int64), .long (30 : Int64)]) (wc := []) (wr := (wMo K jM aM RM.s RM.held RM.aside RM.before RM.isHeld RM.tape RM.taped RM.token RM.frm RM.to RM.value RM.isWrong RM.unpaired RM.bestSound RM.bestWay RM.rows RM.rowN RM.sortOf RM.sizeOf RM.numbers RM.holdsWhat RM.holdsWhich RM.holdsMany RM.bodies RM.ran RM.actKind RM.actN RM.actA RM.isParted)) (w1 := []) (w2 := (wMo K jM aM RM.s RM.held RM.aside RM.before RM.isHeld RM.tape RM.taped RM.token RM.frm RM.to RM.value RM.isWrong RM.unpaired RM.bestSound RM.bestWay RM.rows RM.rowN RM.sortOf RM.sizeOf RM.numbers RM.holdsWhat RM.holdsWhich RM.holdsMany RM.bodies RM.ran RM.actKind RM.actN RM.actA RM.isParted)) hF (ctX9_isIn l D K p0.toInt64 (1 : Int64) (30 : Int64) o_12 ho_12 H.size) (va_cwS 3 hts gX9_luck_X9_isIn rfl rfl rfl hdX9_isIn ⟨Nat.le_of_ble_eq_true rfl, Nat.le_of_ble_eq_true rfl⟩) hK hP hD hS hA [] [0, 1, 2, 3, 4, 5, 6, 7, 8, 9, 10, 11, 12, 13, 14, 15] rfl rfl (by decide) (by decide) (by decide) [0, 1, 2, 3, 4, 5, 6, 7, 8, 9, 10, 11, 12, 13, 14, 15] rfl (by decide) rfl hl.1 rfl (Nat.le_of_ble_eq_true rfl) dX9_luck_6 ⟨Nat.zero_le _, Nat.zero_le _⟩ (fun H locs hP hD hS => ?_)
  refine lv_if_ne (tgt := 14) hx hb dX9_luck_9 (by decide) (fun c_13 => ?_) (fun c_13 => ?_)
  · replace hf := ht_f c_13 hf
    refine lv_aload_n hx hb dX9_luck_14 rfl (lv_at hl 0 rfl) ?_
    refine va_get (D := D) (ci := 9) (v := .ref (aM 0)) (C := RX9) (T := TX9) (N := 29) hx hb hts iw9 hown hK hP 0 rfl rfl 0 (by decide) kw2 (fun _ h9 => h9) rfl dX9_luck_15 ?_
    refine lv_aload_n hx hb dX9_luck_18 rfl (lv_at hl 0 rfl) ?_
    refine va_get (D := D) (ci := 9) (v := .ref (aM 2)) (C := RX9) (T := TX9) (N := 29) hx hb hts iw9 hown hK hP 0 rfl rfl 2 (by decide) kw1 (fun _ h9 => h9) rfl dX9_luck_19 ?_
    obtain ⟨o_14, ho_14, hf⟩ := ht_bn_ob hf
    refine ht_callSv (rest := []) (As := [.ref (aM 0), .ref (aM 2)]) (wc := (wAr K 57 (aM 0) RM.s ++ (wAr K 57 (aM 2) RM.aside))) (wr := ([(jM, .inr (9, [.ref (aM 0), .ref (aM 1), .ref (aM 2), .ref (aM 3), .int RM.isHeld, .ref (aM 4), .int RM.taped, .int RM.token, .int RM.frm, .int RM.to, .int RM.value, .int RM.isWrong, .ref (aM 5), .int RM.bestSound, .ref (aM 6), .ref (aM 7), .int RM.rowN, .ref (aM 8), .ref (aM 9), .ref (aM 10), .ref (aM 11), .ref (aM 12), .ref (aM 13), .ref (aM 14), .int RM.ran, .int RM.actKind, .int RM.actN, .int RM.actA, .int RM.isParted]))] ++ ([(aM 1, .inl (K 1, 57, .inl RM.held))] ++ ([(aM 3, .inl (K 1, 57, .inl RM.before))] ++ ([(aM 4, .inl (K 1, 200, .inl RM.tape))] ++ ([(aM 5, .inl (K 1, 57, .inl RM.unpaired))] ++ ([(aM 6, .inl (K 1, 8, .inl RM.bestWay))] ++ ([(aM 7, .inl (K 1, 30, .inl RM.rows))] ++ ([(aM 8, .inl (K 1, 4, .inl RM.sortOf))] ++ ([(aM 9, .inl (K 1, 4, .inl RM.sizeOf))] ++ ([(aM 10, .inl (K 1, 160, .inl RM.numbers))] ++ ([(aM 11, .inl (K 1, 4, .inl RM.holdsWhat))] ++ ([(aM 12, .inl (K 1, 4, .inl RM.holdsWhich))] ++ ([(aM 13, .inl (K 1, 4, .inl RM.holdsMany))] ++ ([(aM 14, .inl (K 1, 30, .inl RM.bodies))]))))))))))))))) (w1 := (wAr K 57 (aM 0) RM.s ++ (wAr K 57 (aM 2) o_14))) (w2 := (wMo K jM aM RM.s RM.held o_14 RM.before RM.isHeld RM.tape RM.taped RM.token RM.frm RM.to RM.value RM.isWrong RM.unpaired RM.bestSound RM.bestWay RM.rows RM.rowN RM.sortOf RM.sizeOf RM.numbers RM.holdsWhat RM.holdsWhich RM.holdsMany RM.bodies RM.ran RM.actKind RM.actN RM.actA RM.isParted)) hF (ctX9_copyRow l D K (aM 0) (aM 2) RM.s RM.aside o_14 ho_14 H.size) (va_cwS 2 hts gX9_luck_X9_copyRow rfl rfl rfl hdX9_copyRow ⟨Nat.le_of_ble_eq_true rfl, Nat.le_of_ble_eq_true rfl⟩) hK hP hD hS hA [1, 3] [0, 2, 4, 5, 6, 7, 8, 9, 10, 11, 12, 13, 14, 15] rfl rfl (by decide) (by decide) (by decide) [0, 14, 1, 15, 2, 3, 4, 5, 6, 7, 8, 9, 10, 11, 12, 13] rfl (by decide) rfl hl.1 rfl (Nat.le_of_ble_eq_true rfl) dX9_luck_22 ⟨Nat.zero_le _, Nat.zero_le _⟩ (fun H locs hP hD hS => ?_)
    refine lv_aload_n hx hb dX9_luck_25 rfl (lv_at hl 0 rfl) ?_
    obtain ⟨o_15, ho_15, hf⟩ := ht_bn_ob hf
    refine ht_callVi (r := o_15.1) (rest := []) (As := []) (wc := (wMo K jM aM RM.s RM.held o_14 RM.before RM.isHeld RM.tape RM.taped RM.token RM.frm RM.to RM.value RM.isWrong RM.unpaired RM.bestSound RM.bestWay RM.rows RM.rowN RM.sortOf RM.sizeOf RM.numbers RM.holdsWhat RM.holdsWhich RM.holdsMany RM.bodies RM.ran RM.actKind RM.actN RM.actA RM.isParted)) (wr := []) (w1 := (wMo K jM aM o_15.2 RM.held o_14 RM.before RM.isHeld RM.tape RM.taped RM.token RM.frm RM.to RM.value RM.isWrong RM.unpaired RM.bestSound RM.bestWay RM.rows RM.rowN RM.sortOf RM.sizeOf RM.numbers RM.holdsWhat RM.holdsWhich RM.holdsMany RM.bodies RM.ran RM.actKind RM.actN RM.actA RM.isParted)) (w2 := (wMo K jM aM o_15.2 RM.held o_14 RM.before RM.isHeld RM.tape RM.taped RM.token RM.frm RM.to RM.value RM.isWrong RM.unpaired RM.bestSound RM.bestWay RM.rows RM.rowN RM.sortOf RM.sizeOf RM.numbers RM.holdsWhat RM.holdsWhich RM.holdsMany RM.bodies RM.ran RM.actKind RM.actN RM.actA RM.isParted)) hF (ctX9_goesOn l D K jM aM (RM.s, RM.held, o_14, RM.before, RM.isHeld, RM.tape, RM.taped, RM.token, RM.frm, RM.to, RM.value, RM.isWrong, RM.unpaired, RM.bestSound, RM.bestWay, RM.rows, RM.rowN, RM.sortOf, RM.sizeOf, RM.numbers, RM.holdsWhat, RM.holdsWhich, RM.holdsMany, RM.bodies, RM.ran, RM.actKind, RM.actN, RM.actA, RM.isParted) o_15 ho_15 H.size) (cwV 0 hts gX9_luck_X9_goesOn rfl rfl rfl hdX9_goesOn ⟨Nat.le_of_ble_eq_true rfl, Nat.le_of_ble_eq_true rfl⟩) hK hP hD hS hA [0, 1, 2, 3, 4, 5, 6, 7, 8, 9, 10, 11, 12, 13, 14, 15] [] rfl rfl (by decide) (by decide) (by decide) [0, 1, 2, 3, 4, 5, 6, 7, 8, 9, 10, 11, 12, 13, 14, 15] rfl (by decide) (va_recv hK hP (ci := 9) (q0 := 0) rfl rfl) rfl hl.1 rfl (Nat.le_of_ble_eq_true rfl) dX9_luck_26 ⟨Nat.zero_le _, Nat.zero_le _⟩ (fun H locs hP hD hS => ?_)
    obtain ⟨x2_16, ex2_16, hf⟩ := ht_nm_ob hf
    rw [← ex2_16]
    refine lv_istore_n (lv' := [(2, .int x2_16), (0, .ref jM), (1, .int p0)]) hx hb dX9_luck_29 rfl hl (by decide) rfl (fun ls hl => ?_)
    refine lv_aload_n hx hb dX9_luck_30 rfl (lv_at hl 1 rfl) ?_
    refine va_get (D := D) (ci := 9) (v := .ref (aM 2)) (C := RX9) (T := TX9) (N := 29) hx hb hts iw9 hown hK hP 0 rfl rfl 2 (by decide) kw1 (fun _ h9 => h9) rfl dX9_luck_31 ?_
    refine lv_iconst (v := 2) hx hb dX9_luck_34 (by decide) ?_
    obtain ⟨g_17, hf⟩ := ht_gd_ob hf
    refine va_iald hx hb hK hP 3 1 rfl rfl (ht_ix_in g_17) dX9_luck_35 ?_
    obtain ⟨x3_18, ex3_18, hf⟩ := ht_nm_ob hf
    rw [← ex3_18]
    refine lv_istore_n (lv' := [(3, .int x3_18), (2, .int x2_16), (0, .ref jM), (1, .int p0)]) hx hb dX9_luck_36 rfl hl (by decide) rfl (fun ls hl => ?_)
    refine lv_iconst (v := 0) hx hb dX9_luck_37 (by decide) ?_
    refine lv_istore (lv' := [(4, .int (0 : Int32)), (3, .int x3_18), (2, .int x2_16), (0, .ref jM), (1, .int p0)]) hx hb dX9_luck_38 hl (by decide) rfl (fun ls hl => ?_)
    refine lv_iconst (v := 0) hx hb dX9_luck_40 (by decide) ?_
    refine lv_istore (lv' := [(5, .int (0 : Int32)), (4, .int (0 : Int32)), (3, .int x3_18), (2, .int x2_16), (0, .ref jM), (1, .int p0)]) hx hb dX9_luck_41 hl (by decide) rfl (fun ls hl => ?_)
    exact b43  FU p0 x2_16 x3_18 (0 : Int32) (0 : Int32) o_15.2 o_14 _ _ _ hf hP hD hS (lv_sub hl [4, 5, 3, 2, 1, 0] rfl)
  · replace hf := ht_t c_13 hf
    refine lv_iconst (v := -1) hx hb dX9_luck_12 (by decide) ?_
    have ho := Option.some.inj hf
    subst ho; subst hQ
    exact ht_iret hx hb hr hlk rfl hK hP hD hS dX9_luck_13
abbrev rmX9_sumOf : Room := { frames := 1, cells := 0, slots := 0, locals := 22 }
theorem hdX9_sumOf : yX9_sumOf.cls = RX9 ∧ yX9_sumOf.cls ≠ "java/lang/invoke/MethodHandle" ∧ yX9_sumOf.cls ≠ "java/lang/invoke/VarHandle" ∧ (parseMethodDescriptor yX9_sumOf.desc).map (fun d => d.parameters.length) = some 1 := by decide +kernel
def fX9_sumOf_b4 (RM : ModV) (k4 : Int32 → Int32 → Int32 → Option Int32) (x1 : Int32) (x2 : Int32) (x3 : Int32) : Option Int32 := ht_gd (ht_ix (0 : Int32) 57) (if (RM.s (0 : Int32).toNatClampNeg) ≤ x3 then (some x2) else (ht_bn (fX9_its RM x3 x1) (fun o_3 => ht_nm (x2 + o_3) (fun x2_4 => ht_nm (x3 + (1 : Int32)) (fun x3_5 => k4 x1 x2_4 x3_5)))))
def fX9_sumOf (RM : ModV) (p0 : Int32) : Option Int32 := ht_lp3 (fX9_sumOf_b4 RM) FU p0 (0 : Int32) (0 : Int32)
set_option maxHeartbeats 1000000 in
set_option maxRecDepth 100000 in
theorem ctX9_sumOf (l : Launch) (D : va_G) (K : Nat → ClassId) (jM : Nat) (aM : Nat → Nat) (RM : ModV) (p0 : Int32) (o : Int32) (hf : fX9_sumOf RM p0 = some o) (sz : Nat) : Met l yX9_sumOf wsX9_sumOf rmX9_sumOf (ht_Pre D K [.ref jM, .int p0] (wMo K jM aM RM.s RM.held RM.aside RM.before RM.isHeld RM.tape RM.taped RM.token RM.frm RM.to RM.value RM.isWrong RM.unpaired RM.bestSound RM.bestWay RM.rows RM.rowN RM.sortOf RM.sizeOf RM.numbers RM.holdsWhat RM.holdsWhich RM.holdsMany RM.bodies RM.ran RM.actKind RM.actN RM.actA RM.isParted) sz) (ht_Qi D K (wMo K jM aM RM.s RM.held RM.aside RM.before RM.isHeld RM.tape RM.taped RM.token RM.frm RM.to RM.value RM.isWrong RM.unpaired RM.bestSound RM.bestWay RM.rows RM.rowN RM.sortOf RM.sizeOf RM.numbers RM.holdsWhat RM.holdsWhich RM.holdsMany RM.bodies RM.ran RM.actKind RM.actN RM.actA RM.isParted) o (va_A (wMo K jM aM RM.s RM.held RM.aside RM.before RM.isHeld RM.tape RM.taped RM.token RM.frm RM.to RM.value RM.isWrong RM.unpaired RM.bestSound RM.bestWay RM.rows RM.rowN RM.sortOf RM.sizeOf RM.numbers RM.holdsWhat RM.holdsWhich RM.holdsMany RM.bodies RM.ran RM.actKind RM.actN RM.actA RM.isParted) sz)) 0 0 (va_A (wMo K jM aM RM.s RM.held RM.aside RM.before RM.isHeld RM.tape RM.taped RM.token RM.frm RM.to RM.value RM.isWrong RM.unpaired RM.bestSound RM.bestWay RM.rows RM.rowN RM.sortOf RM.sizeOf RM.numbers RM.holdsWhat RM.holdsWhich RM.holdsMany RM.bodies RM.ran RM.actKind RM.actN RM.actA RM.isParted) sz) := by
  refine ht_enter (Qf := ht_Qi D K (wMo K jM aM RM.s RM.held RM.aside RM.before RM.isHeld RM.tape RM.taped RM.token RM.frm RM.to RM.value RM.isWrong RM.unpaired RM.bestSound RM.bestWay RM.rows RM.rowN RM.sortOf RM.sizeOf RM.numbers RM.holdsWhat RM.holdsWhich RM.holdsMany RM.bodies RM.ran RM.actKind RM.actN RM.actA RM.isParted) o) (cc := cX9_sumOf) (maxL := 4) (rt := (some .int)) (by decide) rfl (Nat.le_of_ble_eq_true rfl) ?_ sz
  intro p e s m below meth c A Q H locs ls hQ hx hb hr hlk hmn hml hown hts hA hK hP hD hS hl
  have hown : s.vm.findClass RX9 = some m.cls := hown
  have hF : CallFix p m c cX9_sumOf 4 s ([.ref jM, .int p0] : List Value).toArray wsX9_sumOf RX9 := ⟨hx, hb, hml, hown, hts⟩
  have hl : lv_has ls 4 [(0, .ref jM), (1, .int p0)] := hl
  have iw9 : ∀ w ∈ u_ws RX9 TX9 29, w ∈ wsX9_sumOf := by decide +kernel
  have kw1 := hts (.fieldLink RX9 7 "HeldTonguesModel" "s" "[I") (by decide +kernel)
  have b4 : ∀ (n : Nat) (x1 : Int32) (x2 : Int32) (x3 : Int32) (H : Heap) (locs : List Loc) (ls : Array Slot), ht_lp3 (fX9_sumOf_b4 RM) n x1 x2 x3 = some o → va_P D vwCl (wMo K jM aM RM.s RM.held RM.aside RM.before RM.isHeld RM.tape RM.taped RM.token RM.frm RM.to RM.value RM.isWrong RM.unpaired RM.bestSound RM.bestWay RM.rows RM.rowN RM.sortOf RM.sizeOf RM.numbers RM.holdsWhat RM.holdsWhich RM.holdsMany RM.bodies RM.ran RM.actKind RM.actN RM.actA RM.isParted) H → va_D A (wMo K jM aM RM.s RM.held RM.aside RM.before RM.isHeld RM.tape RM.taped RM.token RM.frm RM.to RM.value RM.isWrong RM.unpaired RM.bestSound RM.bestWay RM.rows RM.rowN RM.sortOf RM.sizeOf RM.numbers RM.holdsWhat RM.holdsWhich RM.holdsMany RM.bodies RM.ran RM.actKind RM.actN RM.actA RM.isParted) → va_S A s.heap H locs → lv_has ls 4 [(0, .ref jM), (1, .int x1), (2, .int x2), (3, .int x3)] → W p l e (headSpec wsX9_sumOf rmX9_sumOf).room s m ([.ref jM, .int p0] : List Value).toArray below meth c H locs 0 0 Q (F0 m 4 ls []) := by
    intro n
    induction n with
    | zero =>
      intro x1 x2 x3 H locs ls hf hP hD hS hl
      cases (show (none : Option Int32) = some o from hf)
    | succ n hk4 =>
      intro x1 x2 x3 H locs ls hf hP hD hS hl
      replace hf : fX9_sumOf_b4 RM (ht_lp3 (fX9_sumOf_b4 RM) n) x1 x2 x3 = some o := hf
      delta fX9_sumOf_b4 at hf
      refine lv_iload_n hx hb dX9_sumOf_4 rfl (lv_at hl 3 rfl) ?_
      refine lv_aload_n hx hb dX9_sumOf_5 rfl (lv_at hl 0 rfl) ?_
      refine va_get (D := D) (ci := 9) (v := .ref (aM 0)) (C := RX9) (T := TX9) (N := 29) hx hb hts iw9 hown hK hP 0 rfl rfl 0 (by decide) kw1 (fun _ h9 => h9) rfl dX9_sumOf_6 ?_
      refine lv_iconst (v := 0) hx hb dX9_sumOf_9 (by decide) ?_
      obtain ⟨g_1, hf⟩ := ht_gd_ob hf
      refine va_iald hx hb hK hP 1 1 rfl rfl (ht_ix_in g_1) dX9_sumOf_10 ?_
      refine lv_icmp_ge (tgt := 29) hx hb dX9_sumOf_11 (by decide) (fun c_2 => ?_) (fun c_2 => ?_)
      · replace hf := ht_t c_2 hf
        refine lv_iload_n hx hb dX9_sumOf_29 rfl (lv_at hl 2 rfl) ?_
        have ho := Option.some.inj hf
        subst ho; subst hQ
        exact ht_iret hx hb hr hlk rfl hK hP hD hS dX9_sumOf_30
      · replace hf := ht_f c_2 hf
        refine lv_iload_n hx hb dX9_sumOf_14 rfl (lv_at hl 2 rfl) ?_
        refine lv_aload_n hx hb dX9_sumOf_15 rfl (lv_at hl 0 rfl) ?_
        refine lv_iload_n hx hb dX9_sumOf_16 rfl (lv_at hl 3 rfl) ?_
        refine lv_iload_n hx hb dX9_sumOf_17 rfl (lv_at hl 1 rfl) ?_
        obtain ⟨o_3, ho_3, hf⟩ := ht_bn_ob hf
        refine ht_callVi (r := o_3) (rest := [.int x2]) (As := [.int x3, .int x1]) (wc := (wMo K jM aM RM.s RM.held RM.aside RM.before RM.isHeld RM.tape RM.taped RM.token RM.frm RM.to RM.value RM.isWrong RM.unpaired RM.bestSound RM.bestWay RM.rows RM.rowN RM.sortOf RM.sizeOf RM.numbers RM.holdsWhat RM.holdsWhich RM.holdsMany RM.bodies RM.ran RM.actKind RM.actN RM.actA RM.isParted)) (wr := []) (w1 := (wMo K jM aM RM.s RM.held RM.aside RM.before RM.isHeld RM.tape RM.taped RM.token RM.frm RM.to RM.value RM.isWrong RM.unpaired RM.bestSound RM.bestWay RM.rows RM.rowN RM.sortOf RM.sizeOf RM.numbers RM.holdsWhat RM.holdsWhich RM.holdsMany RM.bodies RM.ran RM.actKind RM.actN RM.actA RM.isParted)) (w2 := (wMo K jM aM RM.s RM.held RM.aside RM.before RM.isHeld RM.tape RM.taped RM.token RM.frm RM.to RM.value RM.isWrong RM.unpaired RM.bestSound RM.bestWay RM.rows RM.rowN RM.sortOf RM.sizeOf RM.numbers RM.holdsWhat RM.holdsWhich RM.holdsMany RM.bodies RM.ran RM.actKind RM.actN RM.actA RM.isParted)) hF (ctX9_its l D K jM aM RM x3 x1 o_3 ho_3 H.size) (cwV 2 hts gX9_sumOf_X9_its rfl rfl rfl hdX9_its ⟨Nat.le_of_ble_eq_true rfl, Nat.le_of_ble_eq_true rfl⟩) hK hP hD hS hA [0, 1, 2, 3, 4, 5, 6, 7, 8, 9, 10, 11, 12, 13, 14, 15] [] rfl rfl (by decide) (by decide) (by decide) [0, 1, 2, 3, 4, 5, 6, 7, 8, 9, 10, 11, 12, 13, 14, 15] rfl (by decide) (va_recv hK hP (ci := 9) (q0 := 0) rfl rfl) rfl hl.1 rfl (Nat.le_of_ble_eq_true rfl) dX9_sumOf_18 ⟨Nat.zero_le _, Nat.zero_le _⟩ (fun H locs hP hD hS => ?_)
        refine lv_iadd hx hb dX9_sumOf_21 ?_
        obtain ⟨x2_4, ex2_4, hf⟩ := ht_nm_ob hf
        rw [← ex2_4]
        refine lv_istore_n (lv' := [(2, .int x2_4), (0, .ref jM), (1, .int x1), (3, .int x3)]) hx hb dX9_sumOf_22 rfl hl (by decide) rfl (fun ls hl => ?_)
        obtain ⟨x3_5, ex3_5, hf⟩ := ht_nm_ob hf
        refine lv_iinc (v := x3_5) (lv' := [(3, .int x3_5), (2, .int x2_4), (0, .ref jM), (1, .int x1)]) hx hb dX9_sumOf_23 hl (k := 3) rfl (by rw [ex3_5]; rfl) (by decide) rfl (fun ls hl => ?_)
        refine lv_goto (tgt := 4) hx hb dX9_sumOf_26 (by decide) ?_
        exact hk4 x1 x2_4 x3_5 _ _ _ hf hP hD hS (lv_sub hl [2, 3, 1, 0] rfl)
  delta fX9_sumOf at hf
  refine lv_iconst (v := 0) hx hb dX9_sumOf_0 (by decide) ?_
  refine lv_istore_n (lv' := [(2, .int (0 : Int32)), (0, .ref jM), (1, .int p0)]) hx hb dX9_sumOf_1 rfl hl (by decide) rfl (fun ls hl => ?_)
  refine lv_iconst (v := 0) hx hb dX9_sumOf_2 (by decide) ?_
  refine lv_istore_n (lv' := [(3, .int (0 : Int32)), (2, .int (0 : Int32)), (0, .ref jM), (1, .int p0)]) hx hb dX9_sumOf_3 rfl hl (by decide) rfl (fun ls hl => ?_)
  exact b4  FU p0 (0 : Int32) (0 : Int32) _ _ _ hf hP hD hS (lv_sub hl [2, 3, 1, 0] rfl)
abbrev rmX9_speakers : Room := { frames := 1, cells := 0, slots := 0, locals := 22 }
theorem hdX9_speakers : yX9_speakers.cls = RX9 ∧ yX9_speakers.cls ≠ "java/lang/invoke/MethodHandle" ∧ yX9_speakers.cls ≠ "java/lang/invoke/VarHandle" ∧ (parseMethodDescriptor yX9_speakers.desc).map (fun d => d.parameters.length) = some 0 := by decide +kernel
def fX9_speakers_b4 (RM : ModV) (k4 : Int32 → Int32 → Option Int32) (x1 : Int32) (x2 : Int32) : Option Int32 := ht_gd (ht_ix (0 : Int32) 57) (if (RM.s (0 : Int32).toNatClampNeg) ≤ x2 then (some x1) else (ht_bn (fX9_its RM x2 (5 : Int32)) (fun o_3 => ht_nm (x1 ||| (o_3 <<< (x2 &&& 31))) (fun x1_4 => ht_nm (x2 + (1 : Int32)) (fun x2_5 => k4 x1_4 x2_5)))))
def fX9_speakers (RM : ModV) : Option Int32 := ht_lp2 (fX9_speakers_b4 RM) FU (0 : Int32) (0 : Int32)
set_option maxHeartbeats 1000000 in
set_option maxRecDepth 100000 in
theorem ctX9_speakers (l : Launch) (D : va_G) (K : Nat → ClassId) (jM : Nat) (aM : Nat → Nat) (RM : ModV) (o : Int32) (hf : fX9_speakers RM = some o) (sz : Nat) : Met l yX9_speakers wsX9_speakers rmX9_speakers (ht_Pre D K [.ref jM] (wMo K jM aM RM.s RM.held RM.aside RM.before RM.isHeld RM.tape RM.taped RM.token RM.frm RM.to RM.value RM.isWrong RM.unpaired RM.bestSound RM.bestWay RM.rows RM.rowN RM.sortOf RM.sizeOf RM.numbers RM.holdsWhat RM.holdsWhich RM.holdsMany RM.bodies RM.ran RM.actKind RM.actN RM.actA RM.isParted) sz) (ht_Qi D K (wMo K jM aM RM.s RM.held RM.aside RM.before RM.isHeld RM.tape RM.taped RM.token RM.frm RM.to RM.value RM.isWrong RM.unpaired RM.bestSound RM.bestWay RM.rows RM.rowN RM.sortOf RM.sizeOf RM.numbers RM.holdsWhat RM.holdsWhich RM.holdsMany RM.bodies RM.ran RM.actKind RM.actN RM.actA RM.isParted) o (va_A (wMo K jM aM RM.s RM.held RM.aside RM.before RM.isHeld RM.tape RM.taped RM.token RM.frm RM.to RM.value RM.isWrong RM.unpaired RM.bestSound RM.bestWay RM.rows RM.rowN RM.sortOf RM.sizeOf RM.numbers RM.holdsWhat RM.holdsWhich RM.holdsMany RM.bodies RM.ran RM.actKind RM.actN RM.actA RM.isParted) sz)) 0 0 (va_A (wMo K jM aM RM.s RM.held RM.aside RM.before RM.isHeld RM.tape RM.taped RM.token RM.frm RM.to RM.value RM.isWrong RM.unpaired RM.bestSound RM.bestWay RM.rows RM.rowN RM.sortOf RM.sizeOf RM.numbers RM.holdsWhat RM.holdsWhich RM.holdsMany RM.bodies RM.ran RM.actKind RM.actN RM.actA RM.isParted) sz) := by
  refine ht_enter (Qf := ht_Qi D K (wMo K jM aM RM.s RM.held RM.aside RM.before RM.isHeld RM.tape RM.taped RM.token RM.frm RM.to RM.value RM.isWrong RM.unpaired RM.bestSound RM.bestWay RM.rows RM.rowN RM.sortOf RM.sizeOf RM.numbers RM.holdsWhat RM.holdsWhich RM.holdsMany RM.bodies RM.ran RM.actKind RM.actN RM.actA RM.isParted) o) (cc := cX9_speakers) (maxL := 3) (rt := (some .int)) (by decide) rfl (Nat.le_of_ble_eq_true rfl) ?_ sz
  intro p e s m below meth c A Q H locs ls hQ hx hb hr hlk hmn hml hown hts hA hK hP hD hS hl
  have hown : s.vm.findClass RX9 = some m.cls := hown
  have hF : CallFix p m c cX9_speakers 3 s ([.ref jM] : List Value).toArray wsX9_speakers RX9 := ⟨hx, hb, hml, hown, hts⟩
  have hl : lv_has ls 3 [(0, .ref jM)] := hl
  have iw9 : ∀ w ∈ u_ws RX9 TX9 29, w ∈ wsX9_speakers := by decide +kernel
  have kw1 := hts (.fieldLink RX9 7 "HeldTonguesModel" "s" "[I") (by decide +kernel)
  have b4 : ∀ (n : Nat) (x1 : Int32) (x2 : Int32) (H : Heap) (locs : List Loc) (ls : Array Slot), ht_lp2 (fX9_speakers_b4 RM) n x1 x2 = some o → va_P D vwCl (wMo K jM aM RM.s RM.held RM.aside RM.before RM.isHeld RM.tape RM.taped RM.token RM.frm RM.to RM.value RM.isWrong RM.unpaired RM.bestSound RM.bestWay RM.rows RM.rowN RM.sortOf RM.sizeOf RM.numbers RM.holdsWhat RM.holdsWhich RM.holdsMany RM.bodies RM.ran RM.actKind RM.actN RM.actA RM.isParted) H → va_D A (wMo K jM aM RM.s RM.held RM.aside RM.before RM.isHeld RM.tape RM.taped RM.token RM.frm RM.to RM.value RM.isWrong RM.unpaired RM.bestSound RM.bestWay RM.rows RM.rowN RM.sortOf RM.sizeOf RM.numbers RM.holdsWhat RM.holdsWhich RM.holdsMany RM.bodies RM.ran RM.actKind RM.actN RM.actA RM.isParted) → va_S A s.heap H locs → lv_has ls 3 [(0, .ref jM), (1, .int x1), (2, .int x2)] → W p l e (headSpec wsX9_speakers rmX9_speakers).room s m ([.ref jM] : List Value).toArray below meth c H locs 0 0 Q (F0 m 4 ls []) := by
    intro n
    induction n with
    | zero =>
      intro x1 x2 H locs ls hf hP hD hS hl
      cases (show (none : Option Int32) = some o from hf)
    | succ n hk4 =>
      intro x1 x2 H locs ls hf hP hD hS hl
      replace hf : fX9_speakers_b4 RM (ht_lp2 (fX9_speakers_b4 RM) n) x1 x2 = some o := hf
      delta fX9_speakers_b4 at hf
      refine lv_iload_n hx hb dX9_speakers_4 rfl (lv_at hl 2 rfl) ?_
      refine lv_aload_n hx hb dX9_speakers_5 rfl (lv_at hl 0 rfl) ?_
      refine va_get (D := D) (ci := 9) (v := .ref (aM 0)) (C := RX9) (T := TX9) (N := 29) hx hb hts iw9 hown hK hP 0 rfl rfl 0 (by decide) kw1 (fun _ h9 => h9) rfl dX9_speakers_6 ?_
      refine lv_iconst (v := 0) hx hb dX9_speakers_9 (by decide) ?_
      obtain ⟨g_1, hf⟩ := ht_gd_ob hf
      refine va_iald hx hb hK hP 1 1 rfl rfl (ht_ix_in g_1) dX9_speakers_10 ?_
      refine lv_icmp_ge (tgt := 31) hx hb dX9_speakers_11 (by decide) (fun c_2 => ?_) (fun c_2 => ?_)
      · replace hf := ht_t c_2 hf
        refine lv_iload_n hx hb dX9_speakers_31 rfl (lv_at hl 1 rfl) ?_
        have ho := Option.some.inj hf
        subst ho; subst hQ
        exact ht_iret hx hb hr hlk rfl hK hP hD hS dX9_speakers_32
      · replace hf := ht_f c_2 hf
        refine lv_iload_n hx hb dX9_speakers_14 rfl (lv_at hl 1 rfl) ?_
        refine lv_aload_n hx hb dX9_speakers_15 rfl (lv_at hl 0 rfl) ?_
        refine lv_iload_n hx hb dX9_speakers_16 rfl (lv_at hl 2 rfl) ?_
        refine lv_iconst (v := 5) hx hb dX9_speakers_17 (by decide) ?_
        obtain ⟨o_3, ho_3, hf⟩ := ht_bn_ob hf
        refine ht_callVi (r := o_3) (rest := [.int x1]) (As := [.int x2, .int (5 : Int32)]) (wc := (wMo K jM aM RM.s RM.held RM.aside RM.before RM.isHeld RM.tape RM.taped RM.token RM.frm RM.to RM.value RM.isWrong RM.unpaired RM.bestSound RM.bestWay RM.rows RM.rowN RM.sortOf RM.sizeOf RM.numbers RM.holdsWhat RM.holdsWhich RM.holdsMany RM.bodies RM.ran RM.actKind RM.actN RM.actA RM.isParted)) (wr := []) (w1 := (wMo K jM aM RM.s RM.held RM.aside RM.before RM.isHeld RM.tape RM.taped RM.token RM.frm RM.to RM.value RM.isWrong RM.unpaired RM.bestSound RM.bestWay RM.rows RM.rowN RM.sortOf RM.sizeOf RM.numbers RM.holdsWhat RM.holdsWhich RM.holdsMany RM.bodies RM.ran RM.actKind RM.actN RM.actA RM.isParted)) (w2 := (wMo K jM aM RM.s RM.held RM.aside RM.before RM.isHeld RM.tape RM.taped RM.token RM.frm RM.to RM.value RM.isWrong RM.unpaired RM.bestSound RM.bestWay RM.rows RM.rowN RM.sortOf RM.sizeOf RM.numbers RM.holdsWhat RM.holdsWhich RM.holdsMany RM.bodies RM.ran RM.actKind RM.actN RM.actA RM.isParted)) hF (ctX9_its l D K jM aM RM x2 (5 : Int32) o_3 ho_3 H.size) (cwV 2 hts gX9_speakers_X9_its rfl rfl rfl hdX9_its ⟨Nat.le_of_ble_eq_true rfl, Nat.le_of_ble_eq_true rfl⟩) hK hP hD hS hA [0, 1, 2, 3, 4, 5, 6, 7, 8, 9, 10, 11, 12, 13, 14, 15] [] rfl rfl (by decide) (by decide) (by decide) [0, 1, 2, 3, 4, 5, 6, 7, 8, 9, 10, 11, 12, 13, 14, 15] rfl (by decide) (va_recv hK hP (ci := 9) (q0 := 0) rfl rfl) rfl hl.1 rfl (Nat.le_of_ble_eq_true rfl) dX9_speakers_18 ⟨Nat.zero_le _, Nat.zero_le _⟩ (fun H locs hP hD hS => ?_)
        refine lv_iload_n hx hb dX9_speakers_21 rfl (lv_at hl 2 rfl) ?_
        refine lv_ishl hx hb dX9_speakers_22 ?_
        refine lv_ior hx hb dX9_speakers_23 ?_
        obtain ⟨x1_4, ex1_4, hf⟩ := ht_nm_ob hf
        rw [← ex1_4]
        refine lv_istore_n (lv' := [(1, .int x1_4), (0, .ref jM), (2, .int x2)]) hx hb dX9_speakers_24 rfl hl (by decide) rfl (fun ls hl => ?_)
        obtain ⟨x2_5, ex2_5, hf⟩ := ht_nm_ob hf
        refine lv_iinc (v := x2_5) (lv' := [(2, .int x2_5), (1, .int x1_4), (0, .ref jM)]) hx hb dX9_speakers_25 hl (k := 2) rfl (by rw [ex2_5]; rfl) (by decide) rfl (fun ls hl => ?_)
        refine lv_goto (tgt := 4) hx hb dX9_speakers_28 (by decide) ?_
        exact hk4 x1_4 x2_5 _ _ _ hf hP hD hS (lv_sub hl [2, 1, 0] rfl)
  delta fX9_speakers at hf
  refine lv_iconst (v := 0) hx hb dX9_speakers_0 (by decide) ?_
  refine lv_istore_n (lv' := [(1, .int (0 : Int32)), (0, .ref jM)]) hx hb dX9_speakers_1 rfl hl (by decide) rfl (fun ls hl => ?_)
  refine lv_iconst (v := 0) hx hb dX9_speakers_2 (by decide) ?_
  refine lv_istore_n (lv' := [(2, .int (0 : Int32)), (1, .int (0 : Int32)), (0, .ref jM)]) hx hb dX9_speakers_3 rfl hl (by decide) rfl (fun ls hl => ?_)
  exact b4  FU (0 : Int32) (0 : Int32) _ _ _ hf hP hD hS (lv_sub hl [2, 1, 0] rfl)
abbrev rmX9_state : Room := { frames := 2, cells := 0, slots := 0, locals := 45 }
theorem hdX9_state : yX9_state.cls = RX9 ∧ yX9_state.cls ≠ "java/lang/invoke/MethodHandle" ∧ yX9_state.cls ≠ "java/lang/invoke/VarHandle" ∧ (parseMethodDescriptor yX9_state.desc).map (fun d => d.parameters.length) = some 1 := by decide +kernel
def fX9_state (RM : ModV) (p0 : Int32) : Option Int32 := if p0 = 0 then (ht_gd (ht_ix (1 : Int32) 57) (some (RM.s (1 : Int32).toNatClampNeg))) else if p0 = 1 then (ht_gd (ht_ix (3 : Int32) 57) (some (RM.s (3 : Int32).toNatClampNeg))) else if p0 = 2 then (ht_gd (ht_ix (4 : Int32) 57) (some (RM.s (4 : Int32).toNatClampNeg))) else if p0 = 3 then (ht_bn (fX9_sumOf RM (1 : Int32)) (fun o_8 => some o_8)) else if p0 = 4 then (ht_bn (fX9_sumOf RM (2 : Int32)) (fun o_10 => some o_10)) else if p0 = 5 then (ht_bn (fX9_speakers RM) (fun o_12 => some o_12)) else (some (-1 : Int32))
set_option maxHeartbeats 1000000 in
set_option maxRecDepth 100000 in
theorem ctX9_state (l : Launch) (D : va_G) (K : Nat → ClassId) (jM : Nat) (aM : Nat → Nat) (RM : ModV) (p0 : Int32) (o : Int32) (hf : fX9_state RM p0 = some o) (sz : Nat) : Met l yX9_state wsX9_state rmX9_state (ht_Pre D K [.ref jM, .int p0] (wMo K jM aM RM.s RM.held RM.aside RM.before RM.isHeld RM.tape RM.taped RM.token RM.frm RM.to RM.value RM.isWrong RM.unpaired RM.bestSound RM.bestWay RM.rows RM.rowN RM.sortOf RM.sizeOf RM.numbers RM.holdsWhat RM.holdsWhich RM.holdsMany RM.bodies RM.ran RM.actKind RM.actN RM.actA RM.isParted) sz) (ht_Qi D K (wMo K jM aM RM.s RM.held RM.aside RM.before RM.isHeld RM.tape RM.taped RM.token RM.frm RM.to RM.value RM.isWrong RM.unpaired RM.bestSound RM.bestWay RM.rows RM.rowN RM.sortOf RM.sizeOf RM.numbers RM.holdsWhat RM.holdsWhich RM.holdsMany RM.bodies RM.ran RM.actKind RM.actN RM.actA RM.isParted) o (va_A (wMo K jM aM RM.s RM.held RM.aside RM.before RM.isHeld RM.tape RM.taped RM.token RM.frm RM.to RM.value RM.isWrong RM.unpaired RM.bestSound RM.bestWay RM.rows RM.rowN RM.sortOf RM.sizeOf RM.numbers RM.holdsWhat RM.holdsWhich RM.holdsMany RM.bodies RM.ran RM.actKind RM.actN RM.actA RM.isParted) sz)) 0 0 (va_A (wMo K jM aM RM.s RM.held RM.aside RM.before RM.isHeld RM.tape RM.taped RM.token RM.frm RM.to RM.value RM.isWrong RM.unpaired RM.bestSound RM.bestWay RM.rows RM.rowN RM.sortOf RM.sizeOf RM.numbers RM.holdsWhat RM.holdsWhich RM.holdsMany RM.bodies RM.ran RM.actKind RM.actN RM.actA RM.isParted) sz) := by
  refine ht_enter (Qf := ht_Qi D K (wMo K jM aM RM.s RM.held RM.aside RM.before RM.isHeld RM.tape RM.taped RM.token RM.frm RM.to RM.value RM.isWrong RM.unpaired RM.bestSound RM.bestWay RM.rows RM.rowN RM.sortOf RM.sizeOf RM.numbers RM.holdsWhat RM.holdsWhich RM.holdsMany RM.bodies RM.ran RM.actKind RM.actN RM.actA RM.isParted) o) (cc := cX9_state) (maxL := 2) (rt := (some .int)) (by decide) rfl (Nat.le_of_ble_eq_true rfl) ?_ sz
  intro p e s m below meth c A Q H locs ls hQ hx hb hr hlk hmn hml hown hts hA hK hP hD hS hl
  have hown : s.vm.findClass RX9 = some m.cls := hown
  have hF : CallFix p m c cX9_state 2 s ([.ref jM, .int p0] : List Value).toArray wsX9_state RX9 := ⟨hx, hb, hml, hown, hts⟩
  have hl : lv_has ls 2 [(0, .ref jM), (1, .int p0)] := hl
  have iw9 : ∀ w ∈ u_ws RX9 TX9 29, w ∈ wsX9_state := by decide +kernel
  have kw1 := hts (.fieldLink RX9 7 "HeldTonguesModel" "s" "[I") (by decide +kernel)
  delta fX9_state at hf
  refine lv_iload_n hx hb dX9_state_0 rfl (lv_at hl 1 rfl) ?_
  by_cases c_1 : p0 = 0
  · replace hf := ht_t c_1 hf
    refine lv_tableIn (tgt := 40) hx hb dX9_state_1 (by rw [c_1]; decide) (by rw [c_1]; decide) (by rw [c_1]; rfl) (by decide) ?_
    refine lv_aload_n hx hb dX9_state_40 rfl (lv_at hl 0 rfl) ?_
    refine va_get (D := D) (ci := 9) (v := .ref (aM 0)) (C := RX9) (T := TX9) (N := 29) hx hb hts iw9 hown hK hP 0 rfl rfl 0 (by decide) kw1 (fun _ h9 => h9) rfl dX9_state_41 ?_
    refine lv_iconst (v := 1) hx hb dX9_state_44 (by decide) ?_
    obtain ⟨g_2, hf⟩ := ht_gd_ob hf
    refine va_iald hx hb hK hP 1 1 rfl rfl (ht_ix_in g_2) dX9_state_45 ?_
    have ho := Option.some.inj hf
    subst ho; subst hQ
    exact ht_iret hx hb hr hlk rfl hK hP hD hS dX9_state_46
  replace hf := ht_f c_1 hf
  by_cases c_3 : p0 = 1
  · replace hf := ht_t c_3 hf
    refine lv_tableIn (tgt := 47) hx hb dX9_state_1 (by rw [c_3]; decide) (by rw [c_3]; decide) (by rw [c_3]; rfl) (by decide) ?_
    refine lv_aload_n hx hb dX9_state_47 rfl (lv_at hl 0 rfl) ?_
    refine va_get (D := D) (ci := 9) (v := .ref (aM 0)) (C := RX9) (T := TX9) (N := 29) hx hb hts iw9 hown hK hP 0 rfl rfl 0 (by decide) kw1 (fun _ h9 => h9) rfl dX9_state_48 ?_
    refine lv_iconst (v := 3) hx hb dX9_state_51 (by decide) ?_
    obtain ⟨g_4, hf⟩ := ht_gd_ob hf
    refine va_iald hx hb hK hP 1 1 rfl rfl (ht_ix_in g_4) dX9_state_52 ?_
    have ho := Option.some.inj hf
    subst ho; subst hQ
    exact ht_iret hx hb hr hlk rfl hK hP hD hS dX9_state_53
  replace hf := ht_f c_3 hf
  by_cases c_5 : p0 = 2
  · replace hf := ht_t c_5 hf
    refine lv_tableIn (tgt := 54) hx hb dX9_state_1 (by rw [c_5]; decide) (by rw [c_5]; decide) (by rw [c_5]; rfl) (by decide) ?_
    refine lv_aload_n hx hb dX9_state_54 rfl (lv_at hl 0 rfl) ?_
    refine va_get (D := D) (ci := 9) (v := .ref (aM 0)) (C := RX9) (T := TX9) (N := 29) hx hb hts iw9 hown hK hP 0 rfl rfl 0 (by decide) kw1 (fun _ h9 => h9) rfl dX9_state_55 ?_
    refine lv_iconst (v := 4) hx hb dX9_state_58 (by decide) ?_
    obtain ⟨g_6, hf⟩ := ht_gd_ob hf
    refine va_iald hx hb hK hP 1 1 rfl rfl (ht_ix_in g_6) dX9_state_59 ?_
    have ho := Option.some.inj hf
    subst ho; subst hQ
    exact ht_iret hx hb hr hlk rfl hK hP hD hS dX9_state_60
  replace hf := ht_f c_5 hf
  by_cases c_7 : p0 = 3
  · replace hf := ht_t c_7 hf
    refine lv_tableIn (tgt := 61) hx hb dX9_state_1 (by rw [c_7]; decide) (by rw [c_7]; decide) (by rw [c_7]; rfl) (by decide) ?_
    refine lv_aload_n hx hb dX9_state_61 rfl (lv_at hl 0 rfl) ?_
    refine lv_iconst (v := 1) hx hb dX9_state_62 (by decide) ?_
    obtain ⟨o_8, ho_8, hf⟩ := ht_bn_ob hf
    refine ht_callVi (r := o_8) (rest := []) (As := [.int (1 : Int32)]) (wc := (wMo K jM aM RM.s RM.held RM.aside RM.before RM.isHeld RM.tape RM.taped RM.token RM.frm RM.to RM.value RM.isWrong RM.unpaired RM.bestSound RM.bestWay RM.rows RM.rowN RM.sortOf RM.sizeOf RM.numbers RM.holdsWhat RM.holdsWhich RM.holdsMany RM.bodies RM.ran RM.actKind RM.actN RM.actA RM.isParted)) (wr := []) (w1 := (wMo K jM aM RM.s RM.held RM.aside RM.before RM.isHeld RM.tape RM.taped RM.token RM.frm RM.to RM.value RM.isWrong RM.unpaired RM.bestSound RM.bestWay RM.rows RM.rowN RM.sortOf RM.sizeOf RM.numbers RM.holdsWhat RM.holdsWhich RM.holdsMany RM.bodies RM.ran RM.actKind RM.actN RM.actA RM.isParted)) (w2 := (wMo K jM aM RM.s RM.held RM.aside RM.before RM.isHeld RM.tape RM.taped RM.token RM.frm RM.to RM.value RM.isWrong RM.unpaired RM.bestSound RM.bestWay RM.rows RM.rowN RM.sortOf RM.sizeOf RM.numbers RM.holdsWhat RM.holdsWhich RM.holdsMany RM.bodies RM.ran RM.actKind RM.actN RM.actA RM.isParted)) hF (ctX9_sumOf l D K jM aM RM (1 : Int32) o_8 ho_8 H.size) (cwV 1 hts gX9_state_X9_sumOf rfl rfl rfl hdX9_sumOf ⟨Nat.le_of_ble_eq_true rfl, Nat.le_of_ble_eq_true rfl⟩) hK hP hD hS hA [0, 1, 2, 3, 4, 5, 6, 7, 8, 9, 10, 11, 12, 13, 14, 15] [] rfl rfl (by decide) (by decide) (by decide) [0, 1, 2, 3, 4, 5, 6, 7, 8, 9, 10, 11, 12, 13, 14, 15] rfl (by decide) (va_recv hK hP (ci := 9) (q0 := 0) rfl rfl) rfl hl.1 rfl (Nat.le_of_ble_eq_true rfl) dX9_state_63 ⟨Nat.zero_le _, Nat.zero_le _⟩ (fun H locs hP hD hS => ?_)
    have ho := Option.some.inj hf
    subst ho; subst hQ
    exact ht_iret hx hb hr hlk rfl hK hP hD hS dX9_state_66
  replace hf := ht_f c_7 hf
  by_cases c_9 : p0 = 4
  · replace hf := ht_t c_9 hf
    refine lv_tableIn (tgt := 67) hx hb dX9_state_1 (by rw [c_9]; decide) (by rw [c_9]; decide) (by rw [c_9]; rfl) (by decide) ?_
    refine lv_aload_n hx hb dX9_state_67 rfl (lv_at hl 0 rfl) ?_
    refine lv_iconst (v := 2) hx hb dX9_state_68 (by decide) ?_
    obtain ⟨o_10, ho_10, hf⟩ := ht_bn_ob hf
    refine ht_callVi (r := o_10) (rest := []) (As := [.int (2 : Int32)]) (wc := (wMo K jM aM RM.s RM.held RM.aside RM.before RM.isHeld RM.tape RM.taped RM.token RM.frm RM.to RM.value RM.isWrong RM.unpaired RM.bestSound RM.bestWay RM.rows RM.rowN RM.sortOf RM.sizeOf RM.numbers RM.holdsWhat RM.holdsWhich RM.holdsMany RM.bodies RM.ran RM.actKind RM.actN RM.actA RM.isParted)) (wr := []) (w1 := (wMo K jM aM RM.s RM.held RM.aside RM.before RM.isHeld RM.tape RM.taped RM.token RM.frm RM.to RM.value RM.isWrong RM.unpaired RM.bestSound RM.bestWay RM.rows RM.rowN RM.sortOf RM.sizeOf RM.numbers RM.holdsWhat RM.holdsWhich RM.holdsMany RM.bodies RM.ran RM.actKind RM.actN RM.actA RM.isParted)) (w2 := (wMo K jM aM RM.s RM.held RM.aside RM.before RM.isHeld RM.tape RM.taped RM.token RM.frm RM.to RM.value RM.isWrong RM.unpaired RM.bestSound RM.bestWay RM.rows RM.rowN RM.sortOf RM.sizeOf RM.numbers RM.holdsWhat RM.holdsWhich RM.holdsMany RM.bodies RM.ran RM.actKind RM.actN RM.actA RM.isParted)) hF (ctX9_sumOf l D K jM aM RM (2 : Int32) o_10 ho_10 H.size) (cwV 1 hts gX9_state_X9_sumOf rfl rfl rfl hdX9_sumOf ⟨Nat.le_of_ble_eq_true rfl, Nat.le_of_ble_eq_true rfl⟩) hK hP hD hS hA [0, 1, 2, 3, 4, 5, 6, 7, 8, 9, 10, 11, 12, 13, 14, 15] [] rfl rfl (by decide) (by decide) (by decide) [0, 1, 2, 3, 4, 5, 6, 7, 8, 9, 10, 11, 12, 13, 14, 15] rfl (by decide) (va_recv hK hP (ci := 9) (q0 := 0) rfl rfl) rfl hl.1 rfl (Nat.le_of_ble_eq_true rfl) dX9_state_69 ⟨Nat.zero_le _, Nat.zero_le _⟩ (fun H locs hP hD hS => ?_)
    have ho := Option.some.inj hf
    subst ho; subst hQ
    exact ht_iret hx hb hr hlk rfl hK hP hD hS dX9_state_72
  replace hf := ht_f c_9 hf
  by_cases c_11 : p0 = 5
  · replace hf := ht_t c_11 hf
    refine lv_tableIn (tgt := 73) hx hb dX9_state_1 (by rw [c_11]; decide) (by rw [c_11]; decide) (by rw [c_11]; rfl) (by decide) ?_
    refine lv_aload_n hx hb dX9_state_73 rfl (lv_at hl 0 rfl) ?_
    obtain ⟨o_12, ho_12, hf⟩ := ht_bn_ob hf
    refine ht_callVi (r := o_12) (rest := []) (As := []) (wc := (wMo K jM aM RM.s RM.held RM.aside RM.before RM.isHeld RM.tape RM.taped RM.token RM.frm RM.to RM.value RM.isWrong RM.unpaired RM.bestSound RM.bestWay RM.rows RM.rowN RM.sortOf RM.sizeOf RM.numbers RM.holdsWhat RM.holdsWhich RM.holdsMany RM.bodies RM.ran RM.actKind RM.actN RM.actA RM.isParted)) (wr := []) (w1 := (wMo K jM aM RM.s RM.held RM.aside RM.before RM.isHeld RM.tape RM.taped RM.token RM.frm RM.to RM.value RM.isWrong RM.unpaired RM.bestSound RM.bestWay RM.rows RM.rowN RM.sortOf RM.sizeOf RM.numbers RM.holdsWhat RM.holdsWhich RM.holdsMany RM.bodies RM.ran RM.actKind RM.actN RM.actA RM.isParted)) (w2 := (wMo K jM aM RM.s RM.held RM.aside RM.before RM.isHeld RM.tape RM.taped RM.token RM.frm RM.to RM.value RM.isWrong RM.unpaired RM.bestSound RM.bestWay RM.rows RM.rowN RM.sortOf RM.sizeOf RM.numbers RM.holdsWhat RM.holdsWhich RM.holdsMany RM.bodies RM.ran RM.actKind RM.actN RM.actA RM.isParted)) hF (ctX9_speakers l D K jM aM RM o_12 ho_12 H.size) (cwV 0 hts gX9_state_X9_speakers rfl rfl rfl hdX9_speakers ⟨Nat.le_of_ble_eq_true rfl, Nat.le_of_ble_eq_true rfl⟩) hK hP hD hS hA [0, 1, 2, 3, 4, 5, 6, 7, 8, 9, 10, 11, 12, 13, 14, 15] [] rfl rfl (by decide) (by decide) (by decide) [0, 1, 2, 3, 4, 5, 6, 7, 8, 9, 10, 11, 12, 13, 14, 15] rfl (by decide) (va_recv hK hP (ci := 9) (q0 := 0) rfl rfl) rfl hl.1 rfl (Nat.le_of_ble_eq_true rfl) dX9_state_74 ⟨Nat.zero_le _, Nat.zero_le _⟩ (fun H locs hP hD hS => ?_)
    have ho := Option.some.inj hf
    subst ho; subst hQ
    exact ht_iret hx hb hr hlk rfl hK hP hD hS dX9_state_77
  replace hf := ht_f c_11 hf
  refine lv_tableOut (tgt := 78) hx hb dX9_state_1 (by have := lv_neT c_1 (a := 0) rfl; have := lv_neT c_3 (a := 1) rfl; have := lv_neT c_5 (a := 2) rfl; have := lv_neT c_7 (a := 3) rfl; have := lv_neT c_9 (a := 4) rfl; have := lv_neT c_11 (a := 5) rfl; omega) (by decide) ?_
  refine lv_iconst (v := -1) hx hb dX9_state_78 (by decide) ?_
  have ho := Option.some.inj hf
  subst ho; subst hQ
  exact ht_iret hx hb hr hlk rfl hK hP hD hS dX9_state_79
abbrev rmX9_soundBy : Room := { frames := 4, cells := 0, slots := 0, locals := 93 }
theorem hdX9_soundBy : yX9_soundBy.cls = RX9 ∧ yX9_soundBy.cls ≠ "java/lang/invoke/MethodHandle" ∧ yX9_soundBy.cls ≠ "java/lang/invoke/VarHandle" ∧ (parseMethodDescriptor yX9_soundBy.desc).map (fun d => d.parameters.length) = some 1 := by decide +kernel
def fX9_soundBy_b33 (RM : ModV) (x2 : Int32) (vM_s : AI) (vM_aside : AI) : Option (Int32 × AI × AI) := ht_bn (fX9_copyRow vM_aside vM_s) (fun o_1 => some (x2, o_1, vM_aside))
def fX9_soundBy_b15 (RM : ModV) (k15 : Int32 → Int32 → Int32 → AI → AI → Option (Int32 × AI × AI)) (x1 : Int32) (x2 : Int32) (x3 : Int32) (vM_s : AI) (vM_aside : AI) : Option (Int32 × AI × AI) := if x1 ≤ x3 then (fX9_soundBy_b33 RM x2 vM_s vM_aside) else (ht_bn (fX9_goesOn (vM_s, RM.held, vM_aside, RM.before, RM.isHeld, RM.tape, RM.taped, RM.token, RM.frm, RM.to, RM.value, RM.isWrong, RM.unpaired, RM.bestSound, RM.bestWay, RM.rows, RM.rowN, RM.sortOf, RM.sizeOf, RM.numbers, RM.holdsWhat, RM.holdsWhich, RM.holdsMany, RM.bodies, RM.ran, RM.actKind, RM.actN, RM.actA, RM.isParted)) (fun o_3 => ht_nm (x2 + o_3.1) (fun x2_4 => ht_nm (x3 + (1 : Int32)) (fun x3_5 => k15 x1 x2_4 x3_5 o_3.2 vM_aside))))
def fX9_soundBy (RM : ModV) (p0 : Int32) : Option (Int32 × AI × AI) := ht_bn (fX9_copyRow RM.s RM.aside) (fun o_6 => ht_lp5 (fX9_soundBy_b15 RM) FU p0 (0 : Int32) (0 : Int32) RM.s o_6)
set_option maxHeartbeats 1000000 in
set_option maxRecDepth 100000 in
theorem ctX9_soundBy (l : Launch) (D : va_G) (K : Nat → ClassId) (jM : Nat) (aM : Nat → Nat) (RM : ModV) (p0 : Int32) (o : (Int32 × AI × AI)) (hf : fX9_soundBy RM p0 = some o) (sz : Nat) : Met l yX9_soundBy wsX9_soundBy rmX9_soundBy (ht_Pre D K [.ref jM, .int p0] (wMo K jM aM RM.s RM.held RM.aside RM.before RM.isHeld RM.tape RM.taped RM.token RM.frm RM.to RM.value RM.isWrong RM.unpaired RM.bestSound RM.bestWay RM.rows RM.rowN RM.sortOf RM.sizeOf RM.numbers RM.holdsWhat RM.holdsWhich RM.holdsMany RM.bodies RM.ran RM.actKind RM.actN RM.actA RM.isParted) sz) (ht_Qi D K (wMo K jM aM o.2.1 RM.held o.2.2 RM.before RM.isHeld RM.tape RM.taped RM.token RM.frm RM.to RM.value RM.isWrong RM.unpaired RM.bestSound RM.bestWay RM.rows RM.rowN RM.sortOf RM.sizeOf RM.numbers RM.holdsWhat RM.holdsWhich RM.holdsMany RM.bodies RM.ran RM.actKind RM.actN RM.actA RM.isParted) o.1 (va_A (wMo K jM aM RM.s RM.held RM.aside RM.before RM.isHeld RM.tape RM.taped RM.token RM.frm RM.to RM.value RM.isWrong RM.unpaired RM.bestSound RM.bestWay RM.rows RM.rowN RM.sortOf RM.sizeOf RM.numbers RM.holdsWhat RM.holdsWhich RM.holdsMany RM.bodies RM.ran RM.actKind RM.actN RM.actA RM.isParted) sz)) 0 0 (va_A (wMo K jM aM RM.s RM.held RM.aside RM.before RM.isHeld RM.tape RM.taped RM.token RM.frm RM.to RM.value RM.isWrong RM.unpaired RM.bestSound RM.bestWay RM.rows RM.rowN RM.sortOf RM.sizeOf RM.numbers RM.holdsWhat RM.holdsWhich RM.holdsMany RM.bodies RM.ran RM.actKind RM.actN RM.actA RM.isParted) sz) := by
  refine ht_enter (Qf := ht_Qi D K (wMo K jM aM o.2.1 RM.held o.2.2 RM.before RM.isHeld RM.tape RM.taped RM.token RM.frm RM.to RM.value RM.isWrong RM.unpaired RM.bestSound RM.bestWay RM.rows RM.rowN RM.sortOf RM.sizeOf RM.numbers RM.holdsWhat RM.holdsWhich RM.holdsMany RM.bodies RM.ran RM.actKind RM.actN RM.actA RM.isParted) o.1) (cc := cX9_soundBy) (maxL := 4) (rt := (some .int)) (by decide) rfl (Nat.le_of_ble_eq_true rfl) ?_ sz
  intro p e s m below meth c A Q H locs ls hQ hx hb hr hlk hmn hml hown hts hA hK hP hD hS hl
  have hown : s.vm.findClass RX9 = some m.cls := hown
  have hF : CallFix p m c cX9_soundBy 4 s ([.ref jM, .int p0] : List Value).toArray wsX9_soundBy RX9 := ⟨hx, hb, hml, hown, hts⟩
  have hl : lv_has ls 4 [(0, .ref jM), (1, .int p0)] := hl
  have iw9 : ∀ w ∈ u_ws RX9 TX9 29, w ∈ wsX9_soundBy := by decide +kernel
  have kw1 := hts (.fieldLink RX9 16 "HeldTonguesModel" "aside" "[I") (by decide +kernel)
  have kw2 := hts (.fieldLink RX9 7 "HeldTonguesModel" "s" "[I") (by decide +kernel)
  have b33 : ∀ (x2 : Int32) (vM_s : AI) (vM_aside : AI) (H : Heap) (locs : List Loc) (ls : Array Slot), fX9_soundBy_b33 RM x2 vM_s vM_aside = some o → va_P D vwCl (wMo K jM aM vM_s RM.held vM_aside RM.before RM.isHeld RM.tape RM.taped RM.token RM.frm RM.to RM.value RM.isWrong RM.unpaired RM.bestSound RM.bestWay RM.rows RM.rowN RM.sortOf RM.sizeOf RM.numbers RM.holdsWhat RM.holdsWhich RM.holdsMany RM.bodies RM.ran RM.actKind RM.actN RM.actA RM.isParted) H → va_D A (wMo K jM aM vM_s RM.held vM_aside RM.before RM.isHeld RM.tape RM.taped RM.token RM.frm RM.to RM.value RM.isWrong RM.unpaired RM.bestSound RM.bestWay RM.rows RM.rowN RM.sortOf RM.sizeOf RM.numbers RM.holdsWhat RM.holdsWhich RM.holdsMany RM.bodies RM.ran RM.actKind RM.actN RM.actA RM.isParted) → va_S A s.heap H locs → lv_has ls 4 [(0, .ref jM), (2, .int x2)] → W p l e (headSpec wsX9_soundBy rmX9_soundBy).room s m ([.ref jM, .int p0] : List Value).toArray below meth c H locs 0 0 Q (F0 m 33 ls []) := by
    intro x2 vM_s vM_aside H locs ls hf hP hD hS hl
    delta fX9_soundBy_b33 at hf
    refine lv_aload_n hx hb dX9_soundBy_33 rfl (lv_at hl 0 rfl) ?_
    refine va_get (D := D) (ci := 9) (v := .ref (aM 2)) (C := RX9) (T := TX9) (N := 29) hx hb hts iw9 hown hK hP 0 rfl rfl 2 (by decide) kw1 (fun _ h9 => h9) rfl dX9_soundBy_34 ?_
    refine lv_aload_n hx hb dX9_soundBy_37 rfl (lv_at hl 0 rfl) ?_
    refine va_get (D := D) (ci := 9) (v := .ref (aM 0)) (C := RX9) (T := TX9) (N := 29) hx hb hts iw9 hown hK hP 0 rfl rfl 0 (by decide) kw2 (fun _ h9 => h9) rfl dX9_soundBy_38 ?_
    obtain ⟨o_1, ho_1, hf⟩ := ht_bn_ob hf
    refine ht_callSv (rest := []) (As := [.ref (aM 2), .ref (aM 0)]) (wc := (wAr K 57 (aM 2) vM_aside ++ (wAr K 57 (aM 0) vM_s))) (wr := ([(jM, .inr (9, [.ref (aM 0), .ref (aM 1), .ref (aM 2), .ref (aM 3), .int RM.isHeld, .ref (aM 4), .int RM.taped, .int RM.token, .int RM.frm, .int RM.to, .int RM.value, .int RM.isWrong, .ref (aM 5), .int RM.bestSound, .ref (aM 6), .ref (aM 7), .int RM.rowN, .ref (aM 8), .ref (aM 9), .ref (aM 10), .ref (aM 11), .ref (aM 12), .ref (aM 13), .ref (aM 14), .int RM.ran, .int RM.actKind, .int RM.actN, .int RM.actA, .int RM.isParted]))] ++ ([(aM 1, .inl (K 1, 57, .inl RM.held))] ++ ([(aM 3, .inl (K 1, 57, .inl RM.before))] ++ ([(aM 4, .inl (K 1, 200, .inl RM.tape))] ++ ([(aM 5, .inl (K 1, 57, .inl RM.unpaired))] ++ ([(aM 6, .inl (K 1, 8, .inl RM.bestWay))] ++ ([(aM 7, .inl (K 1, 30, .inl RM.rows))] ++ ([(aM 8, .inl (K 1, 4, .inl RM.sortOf))] ++ ([(aM 9, .inl (K 1, 4, .inl RM.sizeOf))] ++ ([(aM 10, .inl (K 1, 160, .inl RM.numbers))] ++ ([(aM 11, .inl (K 1, 4, .inl RM.holdsWhat))] ++ ([(aM 12, .inl (K 1, 4, .inl RM.holdsWhich))] ++ ([(aM 13, .inl (K 1, 4, .inl RM.holdsMany))] ++ ([(aM 14, .inl (K 1, 30, .inl RM.bodies))]))))))))))))))) (w1 := (wAr K 57 (aM 2) vM_aside ++ (wAr K 57 (aM 0) o_1))) (w2 := (wMo K jM aM o_1 RM.held vM_aside RM.before RM.isHeld RM.tape RM.taped RM.token RM.frm RM.to RM.value RM.isWrong RM.unpaired RM.bestSound RM.bestWay RM.rows RM.rowN RM.sortOf RM.sizeOf RM.numbers RM.holdsWhat RM.holdsWhich RM.holdsMany RM.bodies RM.ran RM.actKind RM.actN RM.actA RM.isParted)) hF (ctX9_copyRow l D K (aM 2) (aM 0) vM_aside vM_s o_1 ho_1 H.size) (va_cwS 2 hts gX9_soundBy_X9_copyRow rfl rfl rfl hdX9_copyRow ⟨Nat.le_of_ble_eq_true rfl, Nat.le_of_ble_eq_true rfl⟩) hK hP hD hS hA [3, 1] [0, 2, 4, 5, 6, 7, 8, 9, 10, 11, 12, 13, 14, 15] rfl rfl (by decide) (by decide) (by decide) [0, 15, 1, 14, 2, 3, 4, 5, 6, 7, 8, 9, 10, 11, 12, 13] rfl (by decide) rfl hl.1 rfl (Nat.le_of_ble_eq_true rfl) dX9_soundBy_41 ⟨Nat.zero_le _, Nat.zero_le _⟩ (fun H locs hP hD hS => ?_)
    refine lv_iload_n hx hb dX9_soundBy_44 rfl (lv_at hl 1 rfl) ?_
    have ho := Option.some.inj hf
    subst ho; subst hQ
    exact ht_iret hx hb hr hlk rfl hK hP hD hS dX9_soundBy_45
  have b15 : ∀ (n : Nat) (x1 : Int32) (x2 : Int32) (x3 : Int32) (vM_s : AI) (vM_aside : AI) (H : Heap) (locs : List Loc) (ls : Array Slot), ht_lp5 (fX9_soundBy_b15 RM) n x1 x2 x3 vM_s vM_aside = some o → va_P D vwCl (wMo K jM aM vM_s RM.held vM_aside RM.before RM.isHeld RM.tape RM.taped RM.token RM.frm RM.to RM.value RM.isWrong RM.unpaired RM.bestSound RM.bestWay RM.rows RM.rowN RM.sortOf RM.sizeOf RM.numbers RM.holdsWhat RM.holdsWhich RM.holdsMany RM.bodies RM.ran RM.actKind RM.actN RM.actA RM.isParted) H → va_D A (wMo K jM aM vM_s RM.held vM_aside RM.before RM.isHeld RM.tape RM.taped RM.token RM.frm RM.to RM.value RM.isWrong RM.unpaired RM.bestSound RM.bestWay RM.rows RM.rowN RM.sortOf RM.sizeOf RM.numbers RM.holdsWhat RM.holdsWhich RM.holdsMany RM.bodies RM.ran RM.actKind RM.actN RM.actA RM.isParted) → va_S A s.heap H locs → lv_has ls 4 [(0, .ref jM), (1, .int x1), (2, .int x2), (3, .int x3)] → W p l e (headSpec wsX9_soundBy rmX9_soundBy).room s m ([.ref jM, .int p0] : List Value).toArray below meth c H locs 0 0 Q (F0 m 15 ls []) := by
    intro n
    induction n with
    | zero =>
      intro x1 x2 x3 vM_s vM_aside H locs ls hf hP hD hS hl
      cases (show (none : Option (Int32 × AI × AI)) = some o from hf)
    | succ n hk15 =>
      intro x1 x2 x3 vM_s vM_aside H locs ls hf hP hD hS hl
      replace hf : fX9_soundBy_b15 RM (ht_lp5 (fX9_soundBy_b15 RM) n) x1 x2 x3 vM_s vM_aside = some o := hf
      delta fX9_soundBy_b15 at hf
      refine lv_iload_n hx hb dX9_soundBy_15 rfl (lv_at hl 3 rfl) ?_
      refine lv_iload_n hx hb dX9_soundBy_16 rfl (lv_at hl 1 rfl) ?_
      refine lv_icmp_ge (tgt := 33) hx hb dX9_soundBy_17 (by decide) (fun c_2 => ?_) (fun c_2 => ?_)
      · replace hf := ht_t c_2 hf
        exact b33  x2 vM_s vM_aside _ _ _ hf hP hD hS (lv_sub hl [0, 2] rfl)
      · replace hf := ht_f c_2 hf
        refine lv_iload_n hx hb dX9_soundBy_20 rfl (lv_at hl 2 rfl) ?_
        refine lv_aload_n hx hb dX9_soundBy_21 rfl (lv_at hl 0 rfl) ?_
        obtain ⟨o_3, ho_3, hf⟩ := ht_bn_ob hf
        refine ht_callVi (r := o_3.1) (rest := [.int x2]) (As := []) (wc := (wMo K jM aM vM_s RM.held vM_aside RM.before RM.isHeld RM.tape RM.taped RM.token RM.frm RM.to RM.value RM.isWrong RM.unpaired RM.bestSound RM.bestWay RM.rows RM.rowN RM.sortOf RM.sizeOf RM.numbers RM.holdsWhat RM.holdsWhich RM.holdsMany RM.bodies RM.ran RM.actKind RM.actN RM.actA RM.isParted)) (wr := []) (w1 := (wMo K jM aM o_3.2 RM.held vM_aside RM.before RM.isHeld RM.tape RM.taped RM.token RM.frm RM.to RM.value RM.isWrong RM.unpaired RM.bestSound RM.bestWay RM.rows RM.rowN RM.sortOf RM.sizeOf RM.numbers RM.holdsWhat RM.holdsWhich RM.holdsMany RM.bodies RM.ran RM.actKind RM.actN RM.actA RM.isParted)) (w2 := (wMo K jM aM o_3.2 RM.held vM_aside RM.before RM.isHeld RM.tape RM.taped RM.token RM.frm RM.to RM.value RM.isWrong RM.unpaired RM.bestSound RM.bestWay RM.rows RM.rowN RM.sortOf RM.sizeOf RM.numbers RM.holdsWhat RM.holdsWhich RM.holdsMany RM.bodies RM.ran RM.actKind RM.actN RM.actA RM.isParted)) hF (ctX9_goesOn l D K jM aM (vM_s, RM.held, vM_aside, RM.before, RM.isHeld, RM.tape, RM.taped, RM.token, RM.frm, RM.to, RM.value, RM.isWrong, RM.unpaired, RM.bestSound, RM.bestWay, RM.rows, RM.rowN, RM.sortOf, RM.sizeOf, RM.numbers, RM.holdsWhat, RM.holdsWhich, RM.holdsMany, RM.bodies, RM.ran, RM.actKind, RM.actN, RM.actA, RM.isParted) o_3 ho_3 H.size) (cwV 0 hts gX9_soundBy_X9_goesOn rfl rfl rfl hdX9_goesOn ⟨Nat.le_of_ble_eq_true rfl, Nat.le_of_ble_eq_true rfl⟩) hK hP hD hS hA [0, 1, 2, 3, 4, 5, 6, 7, 8, 9, 10, 11, 12, 13, 14, 15] [] rfl rfl (by decide) (by decide) (by decide) [0, 1, 2, 3, 4, 5, 6, 7, 8, 9, 10, 11, 12, 13, 14, 15] rfl (by decide) (va_recv hK hP (ci := 9) (q0 := 0) rfl rfl) rfl hl.1 rfl (Nat.le_of_ble_eq_true rfl) dX9_soundBy_22 ⟨Nat.zero_le _, Nat.zero_le _⟩ (fun H locs hP hD hS => ?_)
        refine lv_iadd hx hb dX9_soundBy_25 ?_
        obtain ⟨x2_4, ex2_4, hf⟩ := ht_nm_ob hf
        rw [← ex2_4]
        refine lv_istore_n (lv' := [(2, .int x2_4), (0, .ref jM), (1, .int x1), (3, .int x3)]) hx hb dX9_soundBy_26 rfl hl (by decide) rfl (fun ls hl => ?_)
        obtain ⟨x3_5, ex3_5, hf⟩ := ht_nm_ob hf
        refine lv_iinc (v := x3_5) (lv' := [(3, .int x3_5), (2, .int x2_4), (0, .ref jM), (1, .int x1)]) hx hb dX9_soundBy_27 hl (k := 3) rfl (by rw [ex3_5]; rfl) (by decide) rfl (fun ls hl => ?_)
        refine lv_goto (tgt := 15) hx hb dX9_soundBy_30 (by decide) ?_
        exact hk15 x1 x2_4 x3_5 o_3.2 vM_aside _ _ _ hf hP hD hS (lv_sub hl [2, 3, 1, 0] rfl)
  delta fX9_soundBy at hf
  refine lv_aload_n hx hb dX9_soundBy_0 rfl (lv_at hl 0 rfl) ?_
  refine va_get (D := D) (ci := 9) (v := .ref (aM 0)) (C := RX9) (T := TX9) (N := 29) hx hb hts iw9 hown hK hP 0 rfl rfl 0 (by decide) kw2 (fun _ h9 => h9) rfl dX9_soundBy_1 ?_
  refine lv_aload_n hx hb dX9_soundBy_4 rfl (lv_at hl 0 rfl) ?_
  refine va_get (D := D) (ci := 9) (v := .ref (aM 2)) (C := RX9) (T := TX9) (N := 29) hx hb hts iw9 hown hK hP 0 rfl rfl 2 (by decide) kw1 (fun _ h9 => h9) rfl dX9_soundBy_5 ?_
  obtain ⟨o_6, ho_6, hf⟩ := ht_bn_ob hf
  refine ht_callSv (rest := []) (As := [.ref (aM 0), .ref (aM 2)]) (wc := (wAr K 57 (aM 0) RM.s ++ (wAr K 57 (aM 2) RM.aside))) (wr := ([(jM, .inr (9, [.ref (aM 0), .ref (aM 1), .ref (aM 2), .ref (aM 3), .int RM.isHeld, .ref (aM 4), .int RM.taped, .int RM.token, .int RM.frm, .int RM.to, .int RM.value, .int RM.isWrong, .ref (aM 5), .int RM.bestSound, .ref (aM 6), .ref (aM 7), .int RM.rowN, .ref (aM 8), .ref (aM 9), .ref (aM 10), .ref (aM 11), .ref (aM 12), .ref (aM 13), .ref (aM 14), .int RM.ran, .int RM.actKind, .int RM.actN, .int RM.actA, .int RM.isParted]))] ++ ([(aM 1, .inl (K 1, 57, .inl RM.held))] ++ ([(aM 3, .inl (K 1, 57, .inl RM.before))] ++ ([(aM 4, .inl (K 1, 200, .inl RM.tape))] ++ ([(aM 5, .inl (K 1, 57, .inl RM.unpaired))] ++ ([(aM 6, .inl (K 1, 8, .inl RM.bestWay))] ++ ([(aM 7, .inl (K 1, 30, .inl RM.rows))] ++ ([(aM 8, .inl (K 1, 4, .inl RM.sortOf))] ++ ([(aM 9, .inl (K 1, 4, .inl RM.sizeOf))] ++ ([(aM 10, .inl (K 1, 160, .inl RM.numbers))] ++ ([(aM 11, .inl (K 1, 4, .inl RM.holdsWhat))] ++ ([(aM 12, .inl (K 1, 4, .inl RM.holdsWhich))] ++ ([(aM 13, .inl (K 1, 4, .inl RM.holdsMany))] ++ ([(aM 14, .inl (K 1, 30, .inl RM.bodies))]))))))))))))))) (w1 := (wAr K 57 (aM 0) RM.s ++ (wAr K 57 (aM 2) o_6))) (w2 := (wMo K jM aM RM.s RM.held o_6 RM.before RM.isHeld RM.tape RM.taped RM.token RM.frm RM.to RM.value RM.isWrong RM.unpaired RM.bestSound RM.bestWay RM.rows RM.rowN RM.sortOf RM.sizeOf RM.numbers RM.holdsWhat RM.holdsWhich RM.holdsMany RM.bodies RM.ran RM.actKind RM.actN RM.actA RM.isParted)) hF (ctX9_copyRow l D K (aM 0) (aM 2) RM.s RM.aside o_6 ho_6 H.size) (va_cwS 2 hts gX9_soundBy_X9_copyRow rfl rfl rfl hdX9_copyRow ⟨Nat.le_of_ble_eq_true rfl, Nat.le_of_ble_eq_true rfl⟩) hK hP hD hS hA [1, 3] [0, 2, 4, 5, 6, 7, 8, 9, 10, 11, 12, 13, 14, 15] rfl rfl (by decide) (by decide) (by decide) [0, 14, 1, 15, 2, 3, 4, 5, 6, 7, 8, 9, 10, 11, 12, 13] rfl (by decide) rfl hl.1 rfl (Nat.le_of_ble_eq_true rfl) dX9_soundBy_8 ⟨Nat.zero_le _, Nat.zero_le _⟩ (fun H locs hP hD hS => ?_)
  refine lv_iconst (v := 0) hx hb dX9_soundBy_11 (by decide) ?_
  refine lv_istore_n (lv' := [(2, .int (0 : Int32)), (0, .ref jM), (1, .int p0)]) hx hb dX9_soundBy_12 rfl hl (by decide) rfl (fun ls hl => ?_)
  refine lv_iconst (v := 0) hx hb dX9_soundBy_13 (by decide) ?_
  refine lv_istore_n (lv' := [(3, .int (0 : Int32)), (2, .int (0 : Int32)), (0, .ref jM), (1, .int p0)]) hx hb dX9_soundBy_14 rfl hl (by decide) rfl (fun ls hl => ?_)
  exact b15  FU p0 (0 : Int32) (0 : Int32) RM.s o_6 _ _ _ hf hP hD hS (lv_sub hl [2, 3, 1, 0] rfl)
abbrev rmX9_sound : Room := { frames := 5, cells := 0, slots := 0, locals := 116 }
theorem hdX9_sound : yX9_sound.cls = RX9 ∧ yX9_sound.cls ≠ "java/lang/invoke/MethodHandle" ∧ yX9_sound.cls ≠ "java/lang/invoke/VarHandle" ∧ (parseMethodDescriptor yX9_sound.desc).map (fun d => d.parameters.length) = some 1 := by decide +kernel
def fX9_sound (RM : ModV) (p0 : Int32) : Option (Int32 × AI × AI) := ht_bn (fX9_isIn p0.toInt64 (0 : Int64) (60 : Int64)) (fun o_1 => if o_1 = 0 then (some ((-1 : Int32), RM.s, RM.aside)) else (ht_bn (fX9_soundBy RM p0) (fun o_3 => some (o_3.1, o_3.2.1, o_3.2.2))))
set_option maxHeartbeats 1000000 in
set_option maxRecDepth 100000 in
theorem ctX9_sound (l : Launch) (D : va_G) (K : Nat → ClassId) (jM : Nat) (aM : Nat → Nat) (RM : ModV) (p0 : Int32) (o : (Int32 × AI × AI)) (hf : fX9_sound RM p0 = some o) (sz : Nat) : Met l yX9_sound wsX9_sound rmX9_sound (ht_Pre D K [.ref jM, .int p0] (wMo K jM aM RM.s RM.held RM.aside RM.before RM.isHeld RM.tape RM.taped RM.token RM.frm RM.to RM.value RM.isWrong RM.unpaired RM.bestSound RM.bestWay RM.rows RM.rowN RM.sortOf RM.sizeOf RM.numbers RM.holdsWhat RM.holdsWhich RM.holdsMany RM.bodies RM.ran RM.actKind RM.actN RM.actA RM.isParted) sz) (ht_Qi D K (wMo K jM aM o.2.1 RM.held o.2.2 RM.before RM.isHeld RM.tape RM.taped RM.token RM.frm RM.to RM.value RM.isWrong RM.unpaired RM.bestSound RM.bestWay RM.rows RM.rowN RM.sortOf RM.sizeOf RM.numbers RM.holdsWhat RM.holdsWhich RM.holdsMany RM.bodies RM.ran RM.actKind RM.actN RM.actA RM.isParted) o.1 (va_A (wMo K jM aM RM.s RM.held RM.aside RM.before RM.isHeld RM.tape RM.taped RM.token RM.frm RM.to RM.value RM.isWrong RM.unpaired RM.bestSound RM.bestWay RM.rows RM.rowN RM.sortOf RM.sizeOf RM.numbers RM.holdsWhat RM.holdsWhich RM.holdsMany RM.bodies RM.ran RM.actKind RM.actN RM.actA RM.isParted) sz)) 0 0 (va_A (wMo K jM aM RM.s RM.held RM.aside RM.before RM.isHeld RM.tape RM.taped RM.token RM.frm RM.to RM.value RM.isWrong RM.unpaired RM.bestSound RM.bestWay RM.rows RM.rowN RM.sortOf RM.sizeOf RM.numbers RM.holdsWhat RM.holdsWhich RM.holdsMany RM.bodies RM.ran RM.actKind RM.actN RM.actA RM.isParted) sz) := by
  refine ht_enter (Qf := ht_Qi D K (wMo K jM aM o.2.1 RM.held o.2.2 RM.before RM.isHeld RM.tape RM.taped RM.token RM.frm RM.to RM.value RM.isWrong RM.unpaired RM.bestSound RM.bestWay RM.rows RM.rowN RM.sortOf RM.sizeOf RM.numbers RM.holdsWhat RM.holdsWhich RM.holdsMany RM.bodies RM.ran RM.actKind RM.actN RM.actA RM.isParted) o.1) (cc := cX9_sound) (maxL := 2) (rt := (some .int)) (by decide) rfl (Nat.le_of_ble_eq_true rfl) ?_ sz
  intro p e s m below meth c A Q H locs ls hQ hx hb hr hlk hmn hml hown hts hA hK hP hD hS hl
  have hown : s.vm.findClass RX9 = some m.cls := hown
  have hF : CallFix p m c cX9_sound 2 s ([.ref jM, .int p0] : List Value).toArray wsX9_sound RX9 := ⟨hx, hb, hml, hown, hts⟩
  have hl : lv_has ls 2 [(0, .ref jM), (1, .int p0)] := hl
  have kw0 := hts (.constantLong RX9 205 (60)) (by decide +kernel)
  delta fX9_sound at hf
  refine lv_iload_n hx hb dX9_sound_0 rfl (lv_at hl 1 rfl) ?_
  refine lv_i2l hx hb dX9_sound_1 rfl ?_
  refine lv_lconst (v := 0) hx hb dX9_sound_2 (by decide) ?_
  refine lv_ldc2 hx hb hown kw0 dX9_sound_3 ?_
  obtain ⟨o_1, ho_1, hf⟩ := ht_bn_ob hf
  refine ht_callSi (r := o_1) (rest := []) (As := [.long p0.toInt64, .long (0 : Int64), .long (60 : Int64)]) (wc := []) (wr := (wMo K jM aM RM.s RM.held RM.aside RM.before RM.isHeld RM.tape RM.taped RM.token RM.frm RM.to RM.value RM.isWrong RM.unpaired RM.bestSound RM.bestWay RM.rows RM.rowN RM.sortOf RM.sizeOf RM.numbers RM.holdsWhat RM.holdsWhich RM.holdsMany RM.bodies RM.ran RM.actKind RM.actN RM.actA RM.isParted)) (w1 := []) (w2 := (wMo K jM aM RM.s RM.held RM.aside RM.before RM.isHeld RM.tape RM.taped RM.token RM.frm RM.to RM.value RM.isWrong RM.unpaired RM.bestSound RM.bestWay RM.rows RM.rowN RM.sortOf RM.sizeOf RM.numbers RM.holdsWhat RM.holdsWhich RM.holdsMany RM.bodies RM.ran RM.actKind RM.actN RM.actA RM.isParted)) hF (ctX9_isIn l D K p0.toInt64 (0 : Int64) (60 : Int64) o_1 ho_1 H.size) (va_cwS 3 hts gX9_sound_X9_isIn rfl rfl rfl hdX9_isIn ⟨Nat.le_of_ble_eq_true rfl, Nat.le_of_ble_eq_true rfl⟩) hK hP hD hS hA [] [0, 1, 2, 3, 4, 5, 6, 7, 8, 9, 10, 11, 12, 13, 14, 15] rfl rfl (by decide) (by decide) (by decide) [0, 1, 2, 3, 4, 5, 6, 7, 8, 9, 10, 11, 12, 13, 14, 15] rfl (by decide) rfl hl.1 rfl (Nat.le_of_ble_eq_true rfl) dX9_sound_6 ⟨Nat.zero_le _, Nat.zero_le _⟩ (fun H locs hP hD hS => ?_)
  refine lv_if_eq (tgt := 20) hx hb dX9_sound_9 (by decide) (fun c_2 => ?_) (fun c_2 => ?_)
  · replace hf := ht_t c_2 hf
    refine lv_iconst (v := -1) hx hb dX9_sound_20 (by decide) ?_
    have ho := Option.some.inj hf
    subst ho; subst hQ
    exact ht_iret hx hb hr hlk rfl hK hP hD hS dX9_sound_21
  · replace hf := ht_f c_2 hf
    refine lv_aload_n hx hb dX9_sound_12 rfl (lv_at hl 0 rfl) ?_
    refine lv_iload_n hx hb dX9_sound_13 rfl (lv_at hl 1 rfl) ?_
    obtain ⟨o_3, ho_3, hf⟩ := ht_bn_ob hf
    refine ht_callVi (r := o_3.1) (rest := []) (As := [.int p0]) (wc := (wMo K jM aM RM.s RM.held RM.aside RM.before RM.isHeld RM.tape RM.taped RM.token RM.frm RM.to RM.value RM.isWrong RM.unpaired RM.bestSound RM.bestWay RM.rows RM.rowN RM.sortOf RM.sizeOf RM.numbers RM.holdsWhat RM.holdsWhich RM.holdsMany RM.bodies RM.ran RM.actKind RM.actN RM.actA RM.isParted)) (wr := []) (w1 := (wMo K jM aM o_3.2.1 RM.held o_3.2.2 RM.before RM.isHeld RM.tape RM.taped RM.token RM.frm RM.to RM.value RM.isWrong RM.unpaired RM.bestSound RM.bestWay RM.rows RM.rowN RM.sortOf RM.sizeOf RM.numbers RM.holdsWhat RM.holdsWhich RM.holdsMany RM.bodies RM.ran RM.actKind RM.actN RM.actA RM.isParted)) (w2 := (wMo K jM aM o_3.2.1 RM.held o_3.2.2 RM.before RM.isHeld RM.tape RM.taped RM.token RM.frm RM.to RM.value RM.isWrong RM.unpaired RM.bestSound RM.bestWay RM.rows RM.rowN RM.sortOf RM.sizeOf RM.numbers RM.holdsWhat RM.holdsWhich RM.holdsMany RM.bodies RM.ran RM.actKind RM.actN RM.actA RM.isParted)) hF (ctX9_soundBy l D K jM aM RM p0 o_3 ho_3 H.size) (cwV 1 hts gX9_sound_X9_soundBy rfl rfl rfl hdX9_soundBy ⟨Nat.le_of_ble_eq_true rfl, Nat.le_of_ble_eq_true rfl⟩) hK hP hD hS hA [0, 1, 2, 3, 4, 5, 6, 7, 8, 9, 10, 11, 12, 13, 14, 15] [] rfl rfl (by decide) (by decide) (by decide) [0, 1, 2, 3, 4, 5, 6, 7, 8, 9, 10, 11, 12, 13, 14, 15] rfl (by decide) (va_recv hK hP (ci := 9) (q0 := 0) rfl rfl) rfl hl.1 rfl (Nat.le_of_ble_eq_true rfl) dX9_sound_14 ⟨Nat.zero_le _, Nat.zero_le _⟩ (fun H locs hP hD hS => ?_)
    refine lv_goto (tgt := 21) hx hb dX9_sound_17 (by decide) ?_
    have ho := Option.some.inj hf
    subst ho; subst hQ
    exact ht_iret hx hb hr hlk rfl hK hP hD hS dX9_sound_21
abbrev rmX9_needFirst : Room := { frames := 4, cells := 0, slots := 0, locals := 93 }
theorem hdX9_needFirst : yX9_needFirst.cls = RX9 ∧ yX9_needFirst.cls ≠ "java/lang/invoke/MethodHandle" ∧ yX9_needFirst.cls ≠ "java/lang/invoke/VarHandle" ∧ (parseMethodDescriptor yX9_needFirst.desc).map (fun d => d.parameters.length) = some 2 := by decide +kernel
def fX9_needFirst_b41 (RM : ModV) (x3 : Int32) (vM_s : AI) (vM_aside : AI) : Option (Int32 × AI × AI) := ht_bn (fX9_copyRow vM_aside vM_s) (fun o_1 => if (60 : Int32) < x3 then (some ((-3 : Int32), o_1, vM_aside)) else (some (x3, o_1, vM_aside)))
def fX9_needFirst_b13 (RM : ModV) (k13 : Int32 → Int32 → Int32 → AI → AI → Option (Int32 × AI × AI)) (x1 : Int32) (x2 : Int32) (x3 : Int32) (vM_s : AI) (vM_aside : AI) : Option (Int32 × AI × AI) := if (60 : Int32) < x3 then (fX9_needFirst_b41 RM x3 vM_s vM_aside) else (ht_bn (fX9_its (vM_s, RM.held, vM_aside, RM.before, RM.isHeld, RM.tape, RM.taped, RM.token, RM.frm, RM.to, RM.value, RM.isWrong, RM.unpaired, RM.bestSound, RM.bestWay, RM.rows, RM.rowN, RM.sortOf, RM.sizeOf, RM.numbers, RM.holdsWhat, RM.holdsWhich, RM.holdsMany, RM.bodies, RM.ran, RM.actKind, RM.actN, RM.actA, RM.isParted) x1 (1 : Int32)) (fun o_4 => if o_4 = x2 then (fX9_needFirst_b41 RM x3 vM_s vM_aside) else (ht_bn (fX9_goesOn (vM_s, RM.held, vM_aside, RM.before, RM.isHeld, RM.tape, RM.taped, RM.token, RM.frm, RM.to, RM.value, RM.isWrong, RM.unpaired, RM.bestSound, RM.bestWay, RM.rows, RM.rowN, RM.sortOf, RM.sizeOf, RM.numbers, RM.holdsWhat, RM.holdsWhich, RM.holdsMany, RM.bodies, RM.ran, RM.actKind, RM.actN, RM.actA, RM.isParted)) (fun o_6 => ht_nm o_6.1 (fun x4_7 => ht_nm (x3 + (1 : Int32)) (fun x3_8 => k13 x1 x2 x3_8 o_6.2 vM_aside))))))
def fX9_needFirst (RM : ModV) (p0 : Int32) (p1 : Int32) : Option (Int32 × AI × AI) := ht_bn (fX9_copyRow RM.s RM.aside) (fun o_9 => ht_lp5 (fX9_needFirst_b13 RM) FU p0 p1 (0 : Int32) RM.s o_9)
set_option maxHeartbeats 1000000 in
set_option maxRecDepth 100000 in
theorem ctX9_needFirst (l : Launch) (D : va_G) (K : Nat → ClassId) (jM : Nat) (aM : Nat → Nat) (RM : ModV) (p0 : Int32) (p1 : Int32) (o : (Int32 × AI × AI)) (hf : fX9_needFirst RM p0 p1 = some o) (sz : Nat) : Met l yX9_needFirst wsX9_needFirst rmX9_needFirst (ht_Pre D K [.ref jM, .int p0, .int p1] (wMo K jM aM RM.s RM.held RM.aside RM.before RM.isHeld RM.tape RM.taped RM.token RM.frm RM.to RM.value RM.isWrong RM.unpaired RM.bestSound RM.bestWay RM.rows RM.rowN RM.sortOf RM.sizeOf RM.numbers RM.holdsWhat RM.holdsWhich RM.holdsMany RM.bodies RM.ran RM.actKind RM.actN RM.actA RM.isParted) sz) (ht_Qi D K (wMo K jM aM o.2.1 RM.held o.2.2 RM.before RM.isHeld RM.tape RM.taped RM.token RM.frm RM.to RM.value RM.isWrong RM.unpaired RM.bestSound RM.bestWay RM.rows RM.rowN RM.sortOf RM.sizeOf RM.numbers RM.holdsWhat RM.holdsWhich RM.holdsMany RM.bodies RM.ran RM.actKind RM.actN RM.actA RM.isParted) o.1 (va_A (wMo K jM aM RM.s RM.held RM.aside RM.before RM.isHeld RM.tape RM.taped RM.token RM.frm RM.to RM.value RM.isWrong RM.unpaired RM.bestSound RM.bestWay RM.rows RM.rowN RM.sortOf RM.sizeOf RM.numbers RM.holdsWhat RM.holdsWhich RM.holdsMany RM.bodies RM.ran RM.actKind RM.actN RM.actA RM.isParted) sz)) 0 0 (va_A (wMo K jM aM RM.s RM.held RM.aside RM.before RM.isHeld RM.tape RM.taped RM.token RM.frm RM.to RM.value RM.isWrong RM.unpaired RM.bestSound RM.bestWay RM.rows RM.rowN RM.sortOf RM.sizeOf RM.numbers RM.holdsWhat RM.holdsWhich RM.holdsMany RM.bodies RM.ran RM.actKind RM.actN RM.actA RM.isParted) sz) := by
  refine ht_enter (Qf := ht_Qi D K (wMo K jM aM o.2.1 RM.held o.2.2 RM.before RM.isHeld RM.tape RM.taped RM.token RM.frm RM.to RM.value RM.isWrong RM.unpaired RM.bestSound RM.bestWay RM.rows RM.rowN RM.sortOf RM.sizeOf RM.numbers RM.holdsWhat RM.holdsWhich RM.holdsMany RM.bodies RM.ran RM.actKind RM.actN RM.actA RM.isParted) o.1) (cc := cX9_needFirst) (maxL := 5) (rt := (some .int)) (by decide) rfl (Nat.le_of_ble_eq_true rfl) ?_ sz
  intro p e s m below meth c A Q H locs ls hQ hx hb hr hlk hmn hml hown hts hA hK hP hD hS hl
  have hown : s.vm.findClass RX9 = some m.cls := hown
  have hF : CallFix p m c cX9_needFirst 5 s ([.ref jM, .int p0, .int p1] : List Value).toArray wsX9_needFirst RX9 := ⟨hx, hb, hml, hown, hts⟩
  have hl : lv_has ls 5 [(0, .ref jM), (1, .int p0), (2, .int p1)] := hl
  have iw9 : ∀ w ∈ u_ws RX9 TX9 29, w ∈ wsX9_needFirst := by decide +kernel
  have kw1 := hts (.fieldLink RX9 16 "HeldTonguesModel" "aside" "[I") (by decide +kernel)
  have kw2 := hts (.fieldLink RX9 7 "HeldTonguesModel" "s" "[I") (by decide +kernel)
  have b41 : ∀ (x3 : Int32) (vM_s : AI) (vM_aside : AI) (H : Heap) (locs : List Loc) (ls : Array Slot), fX9_needFirst_b41 RM x3 vM_s vM_aside = some o → va_P D vwCl (wMo K jM aM vM_s RM.held vM_aside RM.before RM.isHeld RM.tape RM.taped RM.token RM.frm RM.to RM.value RM.isWrong RM.unpaired RM.bestSound RM.bestWay RM.rows RM.rowN RM.sortOf RM.sizeOf RM.numbers RM.holdsWhat RM.holdsWhich RM.holdsMany RM.bodies RM.ran RM.actKind RM.actN RM.actA RM.isParted) H → va_D A (wMo K jM aM vM_s RM.held vM_aside RM.before RM.isHeld RM.tape RM.taped RM.token RM.frm RM.to RM.value RM.isWrong RM.unpaired RM.bestSound RM.bestWay RM.rows RM.rowN RM.sortOf RM.sizeOf RM.numbers RM.holdsWhat RM.holdsWhich RM.holdsMany RM.bodies RM.ran RM.actKind RM.actN RM.actA RM.isParted) → va_S A s.heap H locs → lv_has ls 5 [(0, .ref jM), (3, .int x3)] → W p l e (headSpec wsX9_needFirst rmX9_needFirst).room s m ([.ref jM, .int p0, .int p1] : List Value).toArray below meth c H locs 0 0 Q (F0 m 41 ls []) := by
    intro x3 vM_s vM_aside H locs ls hf hP hD hS hl
    delta fX9_needFirst_b41 at hf
    refine lv_aload_n hx hb dX9_needFirst_41 rfl (lv_at hl 0 rfl) ?_
    refine va_get (D := D) (ci := 9) (v := .ref (aM 2)) (C := RX9) (T := TX9) (N := 29) hx hb hts iw9 hown hK hP 0 rfl rfl 2 (by decide) kw1 (fun _ h9 => h9) rfl dX9_needFirst_42 ?_
    refine lv_aload_n hx hb dX9_needFirst_45 rfl (lv_at hl 0 rfl) ?_
    refine va_get (D := D) (ci := 9) (v := .ref (aM 0)) (C := RX9) (T := TX9) (N := 29) hx hb hts iw9 hown hK hP 0 rfl rfl 0 (by decide) kw2 (fun _ h9 => h9) rfl dX9_needFirst_46 ?_
    obtain ⟨o_1, ho_1, hf⟩ := ht_bn_ob hf
    refine ht_callSv (rest := []) (As := [.ref (aM 2), .ref (aM 0)]) (wc := (wAr K 57 (aM 2) vM_aside ++ (wAr K 57 (aM 0) vM_s))) (wr := ([(jM, .inr (9, [.ref (aM 0), .ref (aM 1), .ref (aM 2), .ref (aM 3), .int RM.isHeld, .ref (aM 4), .int RM.taped, .int RM.token, .int RM.frm, .int RM.to, .int RM.value, .int RM.isWrong, .ref (aM 5), .int RM.bestSound, .ref (aM 6), .ref (aM 7), .int RM.rowN, .ref (aM 8), .ref (aM 9), .ref (aM 10), .ref (aM 11), .ref (aM 12), .ref (aM 13), .ref (aM 14), .int RM.ran, .int RM.actKind, .int RM.actN, .int RM.actA, .int RM.isParted]))] ++ ([(aM 1, .inl (K 1, 57, .inl RM.held))] ++ ([(aM 3, .inl (K 1, 57, .inl RM.before))] ++ ([(aM 4, .inl (K 1, 200, .inl RM.tape))] ++ ([(aM 5, .inl (K 1, 57, .inl RM.unpaired))] ++ ([(aM 6, .inl (K 1, 8, .inl RM.bestWay))] ++ ([(aM 7, .inl (K 1, 30, .inl RM.rows))] ++ ([(aM 8, .inl (K 1, 4, .inl RM.sortOf))] ++ ([(aM 9, .inl (K 1, 4, .inl RM.sizeOf))] ++ ([(aM 10, .inl (K 1, 160, .inl RM.numbers))] ++ ([(aM 11, .inl (K 1, 4, .inl RM.holdsWhat))] ++ ([(aM 12, .inl (K 1, 4, .inl RM.holdsWhich))] ++ ([(aM 13, .inl (K 1, 4, .inl RM.holdsMany))] ++ ([(aM 14, .inl (K 1, 30, .inl RM.bodies))]))))))))))))))) (w1 := (wAr K 57 (aM 2) vM_aside ++ (wAr K 57 (aM 0) o_1))) (w2 := (wMo K jM aM o_1 RM.held vM_aside RM.before RM.isHeld RM.tape RM.taped RM.token RM.frm RM.to RM.value RM.isWrong RM.unpaired RM.bestSound RM.bestWay RM.rows RM.rowN RM.sortOf RM.sizeOf RM.numbers RM.holdsWhat RM.holdsWhich RM.holdsMany RM.bodies RM.ran RM.actKind RM.actN RM.actA RM.isParted)) hF (ctX9_copyRow l D K (aM 2) (aM 0) vM_aside vM_s o_1 ho_1 H.size) (va_cwS 2 hts gX9_needFirst_X9_copyRow rfl rfl rfl hdX9_copyRow ⟨Nat.le_of_ble_eq_true rfl, Nat.le_of_ble_eq_true rfl⟩) hK hP hD hS hA [3, 1] [0, 2, 4, 5, 6, 7, 8, 9, 10, 11, 12, 13, 14, 15] rfl rfl (by decide) (by decide) (by decide) [0, 15, 1, 14, 2, 3, 4, 5, 6, 7, 8, 9, 10, 11, 12, 13] rfl (by decide) rfl hl.1 rfl (Nat.le_of_ble_eq_true rfl) dX9_needFirst_49 ⟨Nat.zero_le _, Nat.zero_le _⟩ (fun H locs hP hD hS => ?_)
    refine lv_iload_n hx hb dX9_needFirst_52 rfl (lv_at hl 1 rfl) ?_
    refine lv_bipush (v := 60) hx hb dX9_needFirst_53 (by decide) ?_
    refine lv_icmp_gt (tgt := 62) hx hb dX9_needFirst_55 (by decide) (fun c_2 => ?_) (fun c_2 => ?_)
    · replace hf := ht_t c_2 hf
      refine lv_bipush (v := -3) hx hb dX9_needFirst_62 (by decide) ?_
      have ho := Option.some.inj hf
      subst ho; subst hQ
      exact ht_iret hx hb hr hlk rfl hK hP hD hS dX9_needFirst_64
    · replace hf := ht_f c_2 hf
      refine lv_iload_n hx hb dX9_needFirst_58 rfl (lv_at hl 1 rfl) ?_
      refine lv_goto (tgt := 64) hx hb dX9_needFirst_59 (by decide) ?_
      have ho := Option.some.inj hf
      subst ho; subst hQ
      exact ht_iret hx hb hr hlk rfl hK hP hD hS dX9_needFirst_64
  have b13 : ∀ (n : Nat) (x1 : Int32) (x2 : Int32) (x3 : Int32) (vM_s : AI) (vM_aside : AI) (H : Heap) (locs : List Loc) (ls : Array Slot), ht_lp5 (fX9_needFirst_b13 RM) n x1 x2 x3 vM_s vM_aside = some o → va_P D vwCl (wMo K jM aM vM_s RM.held vM_aside RM.before RM.isHeld RM.tape RM.taped RM.token RM.frm RM.to RM.value RM.isWrong RM.unpaired RM.bestSound RM.bestWay RM.rows RM.rowN RM.sortOf RM.sizeOf RM.numbers RM.holdsWhat RM.holdsWhich RM.holdsMany RM.bodies RM.ran RM.actKind RM.actN RM.actA RM.isParted) H → va_D A (wMo K jM aM vM_s RM.held vM_aside RM.before RM.isHeld RM.tape RM.taped RM.token RM.frm RM.to RM.value RM.isWrong RM.unpaired RM.bestSound RM.bestWay RM.rows RM.rowN RM.sortOf RM.sizeOf RM.numbers RM.holdsWhat RM.holdsWhich RM.holdsMany RM.bodies RM.ran RM.actKind RM.actN RM.actA RM.isParted) → va_S A s.heap H locs → lv_has ls 5 [(0, .ref jM), (1, .int x1), (2, .int x2), (3, .int x3)] → W p l e (headSpec wsX9_needFirst rmX9_needFirst).room s m ([.ref jM, .int p0, .int p1] : List Value).toArray below meth c H locs 0 0 Q (F0 m 13 ls []) := by
    intro n
    induction n with
    | zero =>
      intro x1 x2 x3 vM_s vM_aside H locs ls hf hP hD hS hl
      cases (show (none : Option (Int32 × AI × AI)) = some o from hf)
    | succ n hk13 =>
      intro x1 x2 x3 vM_s vM_aside H locs ls hf hP hD hS hl
      replace hf : fX9_needFirst_b13 RM (ht_lp5 (fX9_needFirst_b13 RM) n) x1 x2 x3 vM_s vM_aside = some o := hf
      delta fX9_needFirst_b13 at hf
      refine lv_iload_n hx hb dX9_needFirst_13 rfl (lv_at hl 3 rfl) ?_
      refine lv_bipush (v := 60) hx hb dX9_needFirst_14 (by decide) ?_
      refine lv_icmp_gt (tgt := 41) hx hb dX9_needFirst_16 (by decide) (fun c_3 => ?_) (fun c_3 => ?_)
      · replace hf := ht_t c_3 hf
        exact b41  x3 vM_s vM_aside _ _ _ hf hP hD hS (lv_sub hl [0, 3] rfl)
      · replace hf := ht_f c_3 hf
        refine lv_aload_n hx hb dX9_needFirst_19 rfl (lv_at hl 0 rfl) ?_
        refine lv_iload_n hx hb dX9_needFirst_20 rfl (lv_at hl 1 rfl) ?_
        refine lv_iconst (v := 1) hx hb dX9_needFirst_21 (by decide) ?_
        obtain ⟨o_4, ho_4, hf⟩ := ht_bn_ob hf
        refine ht_callVi (r := o_4) (rest := []) (As := [.int x1, .int (1 : Int32)]) (wc := (wMo K jM aM vM_s RM.held vM_aside RM.before RM.isHeld RM.tape RM.taped RM.token RM.frm RM.to RM.value RM.isWrong RM.unpaired RM.bestSound RM.bestWay RM.rows RM.rowN RM.sortOf RM.sizeOf RM.numbers RM.holdsWhat RM.holdsWhich RM.holdsMany RM.bodies RM.ran RM.actKind RM.actN RM.actA RM.isParted)) (wr := []) (w1 := (wMo K jM aM vM_s RM.held vM_aside RM.before RM.isHeld RM.tape RM.taped RM.token RM.frm RM.to RM.value RM.isWrong RM.unpaired RM.bestSound RM.bestWay RM.rows RM.rowN RM.sortOf RM.sizeOf RM.numbers RM.holdsWhat RM.holdsWhich RM.holdsMany RM.bodies RM.ran RM.actKind RM.actN RM.actA RM.isParted)) (w2 := (wMo K jM aM vM_s RM.held vM_aside RM.before RM.isHeld RM.tape RM.taped RM.token RM.frm RM.to RM.value RM.isWrong RM.unpaired RM.bestSound RM.bestWay RM.rows RM.rowN RM.sortOf RM.sizeOf RM.numbers RM.holdsWhat RM.holdsWhich RM.holdsMany RM.bodies RM.ran RM.actKind RM.actN RM.actA RM.isParted)) hF (ctX9_its l D K jM aM (vM_s, RM.held, vM_aside, RM.before, RM.isHeld, RM.tape, RM.taped, RM.token, RM.frm, RM.to, RM.value, RM.isWrong, RM.unpaired, RM.bestSound, RM.bestWay, RM.rows, RM.rowN, RM.sortOf, RM.sizeOf, RM.numbers, RM.holdsWhat, RM.holdsWhich, RM.holdsMany, RM.bodies, RM.ran, RM.actKind, RM.actN, RM.actA, RM.isParted) x1 (1 : Int32) o_4 ho_4 H.size) (cwV 2 hts gX9_needFirst_X9_its rfl rfl rfl hdX9_its ⟨Nat.le_of_ble_eq_true rfl, Nat.le_of_ble_eq_true rfl⟩) hK hP hD hS hA [0, 1, 2, 3, 4, 5, 6, 7, 8, 9, 10, 11, 12, 13, 14, 15] [] rfl rfl (by decide) (by decide) (by decide) [0, 1, 2, 3, 4, 5, 6, 7, 8, 9, 10, 11, 12, 13, 14, 15] rfl (by decide) (va_recv hK hP (ci := 9) (q0 := 0) rfl rfl) rfl hl.1 rfl (Nat.le_of_ble_eq_true rfl) dX9_needFirst_22 ⟨Nat.zero_le _, Nat.zero_le _⟩ (fun H locs hP hD hS => ?_)
        refine lv_iload_n hx hb dX9_needFirst_25 rfl (lv_at hl 2 rfl) ?_
        refine lv_icmp_eq (tgt := 41) hx hb dX9_needFirst_26 (by decide) (fun c_5 => ?_) (fun c_5 => ?_)
        · replace hf := ht_t c_5 hf
          exact b41  x3 vM_s vM_aside _ _ _ hf hP hD hS (lv_sub hl [0, 3] rfl)
        · replace hf := ht_f c_5 hf
          refine lv_aload_n hx hb dX9_needFirst_29 rfl (lv_at hl 0 rfl) ?_
          obtain ⟨o_6, ho_6, hf⟩ := ht_bn_ob hf
          refine ht_callVi (r := o_6.1) (rest := []) (As := []) (wc := (wMo K jM aM vM_s RM.held vM_aside RM.before RM.isHeld RM.tape RM.taped RM.token RM.frm RM.to RM.value RM.isWrong RM.unpaired RM.bestSound RM.bestWay RM.rows RM.rowN RM.sortOf RM.sizeOf RM.numbers RM.holdsWhat RM.holdsWhich RM.holdsMany RM.bodies RM.ran RM.actKind RM.actN RM.actA RM.isParted)) (wr := []) (w1 := (wMo K jM aM o_6.2 RM.held vM_aside RM.before RM.isHeld RM.tape RM.taped RM.token RM.frm RM.to RM.value RM.isWrong RM.unpaired RM.bestSound RM.bestWay RM.rows RM.rowN RM.sortOf RM.sizeOf RM.numbers RM.holdsWhat RM.holdsWhich RM.holdsMany RM.bodies RM.ran RM.actKind RM.actN RM.actA RM.isParted)) (w2 := (wMo K jM aM o_6.2 RM.held vM_aside RM.before RM.isHeld RM.tape RM.taped RM.token RM.frm RM.to RM.value RM.isWrong RM.unpaired RM.bestSound RM.bestWay RM.rows RM.rowN RM.sortOf RM.sizeOf RM.numbers RM.holdsWhat RM.holdsWhich RM.holdsMany RM.bodies RM.ran RM.actKind RM.actN RM.actA RM.isParted)) hF (ctX9_goesOn l D K jM aM (vM_s, RM.held, vM_aside, RM.before, RM.isHeld, RM.tape, RM.taped, RM.token, RM.frm, RM.to, RM.value, RM.isWrong, RM.unpaired, RM.bestSound, RM.bestWay, RM.rows, RM.rowN, RM.sortOf, RM.sizeOf, RM.numbers, RM.holdsWhat, RM.holdsWhich, RM.holdsMany, RM.bodies, RM.ran, RM.actKind, RM.actN, RM.actA, RM.isParted) o_6 ho_6 H.size) (cwV 0 hts gX9_needFirst_X9_goesOn rfl rfl rfl hdX9_goesOn ⟨Nat.le_of_ble_eq_true rfl, Nat.le_of_ble_eq_true rfl⟩) hK hP hD hS hA [0, 1, 2, 3, 4, 5, 6, 7, 8, 9, 10, 11, 12, 13, 14, 15] [] rfl rfl (by decide) (by decide) (by decide) [0, 1, 2, 3, 4, 5, 6, 7, 8, 9, 10, 11, 12, 13, 14, 15] rfl (by decide) (va_recv hK hP (ci := 9) (q0 := 0) rfl rfl) rfl hl.1 rfl (Nat.le_of_ble_eq_true rfl) dX9_needFirst_30 ⟨Nat.zero_le _, Nat.zero_le _⟩ (fun H locs hP hD hS => ?_)
          obtain ⟨x4_7, ex4_7, hf⟩ := ht_nm_ob hf
          rw [← ex4_7]
          refine lv_istore (lv' := [(4, .int x4_7), (0, .ref jM), (1, .int x1), (2, .int x2), (3, .int x3)]) hx hb dX9_needFirst_33 hl (by decide) rfl (fun ls hl => ?_)
          obtain ⟨x3_8, ex3_8, hf⟩ := ht_nm_ob hf
          refine lv_iinc (v := x3_8) (lv' := [(3, .int x3_8), (4, .int x4_7), (0, .ref jM), (1, .int x1), (2, .int x2)]) hx hb dX9_needFirst_35 hl (k := 4) rfl (by rw [ex3_8]; rfl) (by decide) rfl (fun ls hl => ?_)
          refine lv_goto (tgt := 13) hx hb dX9_needFirst_38 (by decide) ?_
          exact hk13 x1 x2 x3_8 o_6.2 vM_aside _ _ _ hf hP hD hS (lv_sub hl [2, 3, 4, 0] rfl)
  delta fX9_needFirst at hf
  refine lv_aload_n hx hb dX9_needFirst_0 rfl (lv_at hl 0 rfl) ?_
  refine va_get (D := D) (ci := 9) (v := .ref (aM 0)) (C := RX9) (T := TX9) (N := 29) hx hb hts iw9 hown hK hP 0 rfl rfl 0 (by decide) kw2 (fun _ h9 => h9) rfl dX9_needFirst_1 ?_
  refine lv_aload_n hx hb dX9_needFirst_4 rfl (lv_at hl 0 rfl) ?_
  refine va_get (D := D) (ci := 9) (v := .ref (aM 2)) (C := RX9) (T := TX9) (N := 29) hx hb hts iw9 hown hK hP 0 rfl rfl 2 (by decide) kw1 (fun _ h9 => h9) rfl dX9_needFirst_5 ?_
  obtain ⟨o_9, ho_9, hf⟩ := ht_bn_ob hf
  refine ht_callSv (rest := []) (As := [.ref (aM 0), .ref (aM 2)]) (wc := (wAr K 57 (aM 0) RM.s ++ (wAr K 57 (aM 2) RM.aside))) (wr := ([(jM, .inr (9, [.ref (aM 0), .ref (aM 1), .ref (aM 2), .ref (aM 3), .int RM.isHeld, .ref (aM 4), .int RM.taped, .int RM.token, .int RM.frm, .int RM.to, .int RM.value, .int RM.isWrong, .ref (aM 5), .int RM.bestSound, .ref (aM 6), .ref (aM 7), .int RM.rowN, .ref (aM 8), .ref (aM 9), .ref (aM 10), .ref (aM 11), .ref (aM 12), .ref (aM 13), .ref (aM 14), .int RM.ran, .int RM.actKind, .int RM.actN, .int RM.actA, .int RM.isParted]))] ++ ([(aM 1, .inl (K 1, 57, .inl RM.held))] ++ ([(aM 3, .inl (K 1, 57, .inl RM.before))] ++ ([(aM 4, .inl (K 1, 200, .inl RM.tape))] ++ ([(aM 5, .inl (K 1, 57, .inl RM.unpaired))] ++ ([(aM 6, .inl (K 1, 8, .inl RM.bestWay))] ++ ([(aM 7, .inl (K 1, 30, .inl RM.rows))] ++ ([(aM 8, .inl (K 1, 4, .inl RM.sortOf))] ++ ([(aM 9, .inl (K 1, 4, .inl RM.sizeOf))] ++ ([(aM 10, .inl (K 1, 160, .inl RM.numbers))] ++ ([(aM 11, .inl (K 1, 4, .inl RM.holdsWhat))] ++ ([(aM 12, .inl (K 1, 4, .inl RM.holdsWhich))] ++ ([(aM 13, .inl (K 1, 4, .inl RM.holdsMany))] ++ ([(aM 14, .inl (K 1, 30, .inl RM.bodies))]))))))))))))))) (w1 := (wAr K 57 (aM 0) RM.s ++ (wAr K 57 (aM 2) o_9))) (w2 := (wMo K jM aM RM.s RM.held o_9 RM.before RM.isHeld RM.tape RM.taped RM.token RM.frm RM.to RM.value RM.isWrong RM.unpaired RM.bestSound RM.bestWay RM.rows RM.rowN RM.sortOf RM.sizeOf RM.numbers RM.holdsWhat RM.holdsWhich RM.holdsMany RM.bodies RM.ran RM.actKind RM.actN RM.actA RM.isParted)) hF (ctX9_copyRow l D K (aM 0) (aM 2) RM.s RM.aside o_9 ho_9 H.size) (va_cwS 2 hts gX9_needFirst_X9_copyRow rfl rfl rfl hdX9_copyRow ⟨Nat.le_of_ble_eq_true rfl, Nat.le_of_ble_eq_true rfl⟩) hK hP hD hS hA [1, 3] [0, 2, 4, 5, 6, 7, 8, 9, 10, 11, 12, 13, 14, 15] rfl rfl (by decide) (by decide) (by decide) [0, 14, 1, 15, 2, 3, 4, 5, 6, 7, 8, 9, 10, 11, 12, 13] rfl (by decide) rfl hl.1 rfl (Nat.le_of_ble_eq_true rfl) dX9_needFirst_8 ⟨Nat.zero_le _, Nat.zero_le _⟩ (fun H locs hP hD hS => ?_)
  refine lv_iconst (v := 0) hx hb dX9_needFirst_11 (by decide) ?_
  refine lv_istore_n (lv' := [(3, .int (0 : Int32)), (0, .ref jM), (1, .int p0), (2, .int p1)]) hx hb dX9_needFirst_12 rfl hl (by decide) rfl (fun ls hl => ?_)
  exact b13  FU p0 p1 (0 : Int32) RM.s o_9 _ _ _ hf hP hD hS (lv_sub hl [1, 2, 3, 0] rfl)
abbrev rmX9_eased : Room := { frames := 5, cells := 0, slots := 0, locals := 117 }
theorem hdX9_eased : yX9_eased.cls = RX9 ∧ yX9_eased.cls ≠ "java/lang/invoke/MethodHandle" ∧ yX9_eased.cls ≠ "java/lang/invoke/VarHandle" ∧ (parseMethodDescriptor yX9_eased.desc).map (fun d => d.parameters.length) = some 1 := by decide +kernel
def fX9_eased (RM : ModV) (p0 : Int32) : Option (Int32 × AI × AI) := ht_bn (fX9_isOne RM p0) (fun o_1 => if o_1 = 0 then (some ((-1 : Int32), RM.s, RM.aside)) else (ht_bn (fX9_needFirst RM p0 (0 : Int32)) (fun o_3 => some (o_3.1, o_3.2.1, o_3.2.2))))
set_option maxHeartbeats 1000000 in
set_option maxRecDepth 100000 in
theorem ctX9_eased (l : Launch) (D : va_G) (K : Nat → ClassId) (jM : Nat) (aM : Nat → Nat) (RM : ModV) (p0 : Int32) (o : (Int32 × AI × AI)) (hf : fX9_eased RM p0 = some o) (sz : Nat) : Met l yX9_eased wsX9_eased rmX9_eased (ht_Pre D K [.ref jM, .int p0] (wMo K jM aM RM.s RM.held RM.aside RM.before RM.isHeld RM.tape RM.taped RM.token RM.frm RM.to RM.value RM.isWrong RM.unpaired RM.bestSound RM.bestWay RM.rows RM.rowN RM.sortOf RM.sizeOf RM.numbers RM.holdsWhat RM.holdsWhich RM.holdsMany RM.bodies RM.ran RM.actKind RM.actN RM.actA RM.isParted) sz) (ht_Qi D K (wMo K jM aM o.2.1 RM.held o.2.2 RM.before RM.isHeld RM.tape RM.taped RM.token RM.frm RM.to RM.value RM.isWrong RM.unpaired RM.bestSound RM.bestWay RM.rows RM.rowN RM.sortOf RM.sizeOf RM.numbers RM.holdsWhat RM.holdsWhich RM.holdsMany RM.bodies RM.ran RM.actKind RM.actN RM.actA RM.isParted) o.1 (va_A (wMo K jM aM RM.s RM.held RM.aside RM.before RM.isHeld RM.tape RM.taped RM.token RM.frm RM.to RM.value RM.isWrong RM.unpaired RM.bestSound RM.bestWay RM.rows RM.rowN RM.sortOf RM.sizeOf RM.numbers RM.holdsWhat RM.holdsWhich RM.holdsMany RM.bodies RM.ran RM.actKind RM.actN RM.actA RM.isParted) sz)) 0 0 (va_A (wMo K jM aM RM.s RM.held RM.aside RM.before RM.isHeld RM.tape RM.taped RM.token RM.frm RM.to RM.value RM.isWrong RM.unpaired RM.bestSound RM.bestWay RM.rows RM.rowN RM.sortOf RM.sizeOf RM.numbers RM.holdsWhat RM.holdsWhich RM.holdsMany RM.bodies RM.ran RM.actKind RM.actN RM.actA RM.isParted) sz) := by
  refine ht_enter (Qf := ht_Qi D K (wMo K jM aM o.2.1 RM.held o.2.2 RM.before RM.isHeld RM.tape RM.taped RM.token RM.frm RM.to RM.value RM.isWrong RM.unpaired RM.bestSound RM.bestWay RM.rows RM.rowN RM.sortOf RM.sizeOf RM.numbers RM.holdsWhat RM.holdsWhich RM.holdsMany RM.bodies RM.ran RM.actKind RM.actN RM.actA RM.isParted) o.1) (cc := cX9_eased) (maxL := 2) (rt := (some .int)) (by decide) rfl (Nat.le_of_ble_eq_true rfl) ?_ sz
  intro p e s m below meth c A Q H locs ls hQ hx hb hr hlk hmn hml hown hts hA hK hP hD hS hl
  have hown : s.vm.findClass RX9 = some m.cls := hown
  have hF : CallFix p m c cX9_eased 2 s ([.ref jM, .int p0] : List Value).toArray wsX9_eased RX9 := ⟨hx, hb, hml, hown, hts⟩
  have hl : lv_has ls 2 [(0, .ref jM), (1, .int p0)] := hl
  delta fX9_eased at hf
  refine lv_aload_n hx hb dX9_eased_0 rfl (lv_at hl 0 rfl) ?_
  refine lv_iload_n hx hb dX9_eased_1 rfl (lv_at hl 1 rfl) ?_
  obtain ⟨o_1, ho_1, hf⟩ := ht_bn_ob hf
  refine ht_callVi (r := o_1) (rest := []) (As := [.int p0]) (wc := (wMo K jM aM RM.s RM.held RM.aside RM.before RM.isHeld RM.tape RM.taped RM.token RM.frm RM.to RM.value RM.isWrong RM.unpaired RM.bestSound RM.bestWay RM.rows RM.rowN RM.sortOf RM.sizeOf RM.numbers RM.holdsWhat RM.holdsWhich RM.holdsMany RM.bodies RM.ran RM.actKind RM.actN RM.actA RM.isParted)) (wr := []) (w1 := (wMo K jM aM RM.s RM.held RM.aside RM.before RM.isHeld RM.tape RM.taped RM.token RM.frm RM.to RM.value RM.isWrong RM.unpaired RM.bestSound RM.bestWay RM.rows RM.rowN RM.sortOf RM.sizeOf RM.numbers RM.holdsWhat RM.holdsWhich RM.holdsMany RM.bodies RM.ran RM.actKind RM.actN RM.actA RM.isParted)) (w2 := (wMo K jM aM RM.s RM.held RM.aside RM.before RM.isHeld RM.tape RM.taped RM.token RM.frm RM.to RM.value RM.isWrong RM.unpaired RM.bestSound RM.bestWay RM.rows RM.rowN RM.sortOf RM.sizeOf RM.numbers RM.holdsWhat RM.holdsWhich RM.holdsMany RM.bodies RM.ran RM.actKind RM.actN RM.actA RM.isParted)) hF (ctX9_isOne l D K jM aM RM p0 o_1 ho_1 H.size) (cwV 1 hts gX9_eased_X9_isOne rfl rfl rfl hdX9_isOne ⟨Nat.le_of_ble_eq_true rfl, Nat.le_of_ble_eq_true rfl⟩) hK hP hD hS hA [0, 1, 2, 3, 4, 5, 6, 7, 8, 9, 10, 11, 12, 13, 14, 15] [] rfl rfl (by decide) (by decide) (by decide) [0, 1, 2, 3, 4, 5, 6, 7, 8, 9, 10, 11, 12, 13, 14, 15] rfl (by decide) (va_recv hK hP (ci := 9) (q0 := 0) rfl rfl) rfl hl.1 rfl (Nat.le_of_ble_eq_true rfl) dX9_eased_2 ⟨Nat.zero_le _, Nat.zero_le _⟩ (fun H locs hP hD hS => ?_)
  refine lv_if_eq (tgt := 17) hx hb dX9_eased_5 (by decide) (fun c_2 => ?_) (fun c_2 => ?_)
  · replace hf := ht_t c_2 hf
    refine lv_iconst (v := -1) hx hb dX9_eased_17 (by decide) ?_
    have ho := Option.some.inj hf
    subst ho; subst hQ
    exact ht_iret hx hb hr hlk rfl hK hP hD hS dX9_eased_18
  · replace hf := ht_f c_2 hf
    refine lv_aload_n hx hb dX9_eased_8 rfl (lv_at hl 0 rfl) ?_
    refine lv_iload_n hx hb dX9_eased_9 rfl (lv_at hl 1 rfl) ?_
    refine lv_iconst (v := 0) hx hb dX9_eased_10 (by decide) ?_
    obtain ⟨o_3, ho_3, hf⟩ := ht_bn_ob hf
    refine ht_callVi (r := o_3.1) (rest := []) (As := [.int p0, .int (0 : Int32)]) (wc := (wMo K jM aM RM.s RM.held RM.aside RM.before RM.isHeld RM.tape RM.taped RM.token RM.frm RM.to RM.value RM.isWrong RM.unpaired RM.bestSound RM.bestWay RM.rows RM.rowN RM.sortOf RM.sizeOf RM.numbers RM.holdsWhat RM.holdsWhich RM.holdsMany RM.bodies RM.ran RM.actKind RM.actN RM.actA RM.isParted)) (wr := []) (w1 := (wMo K jM aM o_3.2.1 RM.held o_3.2.2 RM.before RM.isHeld RM.tape RM.taped RM.token RM.frm RM.to RM.value RM.isWrong RM.unpaired RM.bestSound RM.bestWay RM.rows RM.rowN RM.sortOf RM.sizeOf RM.numbers RM.holdsWhat RM.holdsWhich RM.holdsMany RM.bodies RM.ran RM.actKind RM.actN RM.actA RM.isParted)) (w2 := (wMo K jM aM o_3.2.1 RM.held o_3.2.2 RM.before RM.isHeld RM.tape RM.taped RM.token RM.frm RM.to RM.value RM.isWrong RM.unpaired RM.bestSound RM.bestWay RM.rows RM.rowN RM.sortOf RM.sizeOf RM.numbers RM.holdsWhat RM.holdsWhich RM.holdsMany RM.bodies RM.ran RM.actKind RM.actN RM.actA RM.isParted)) hF (ctX9_needFirst l D K jM aM RM p0 (0 : Int32) o_3 ho_3 H.size) (cwV 2 hts gX9_eased_X9_needFirst rfl rfl rfl hdX9_needFirst ⟨Nat.le_of_ble_eq_true rfl, Nat.le_of_ble_eq_true rfl⟩) hK hP hD hS hA [0, 1, 2, 3, 4, 5, 6, 7, 8, 9, 10, 11, 12, 13, 14, 15] [] rfl rfl (by decide) (by decide) (by decide) [0, 1, 2, 3, 4, 5, 6, 7, 8, 9, 10, 11, 12, 13, 14, 15] rfl (by decide) (va_recv hK hP (ci := 9) (q0 := 0) rfl rfl) rfl hl.1 rfl (Nat.le_of_ble_eq_true rfl) dX9_eased_11 ⟨Nat.zero_le _, Nat.zero_le _⟩ (fun H locs hP hD hS => ?_)
    refine lv_goto (tgt := 18) hx hb dX9_eased_14 (by decide) ?_
    have ho := Option.some.inj hf
    subst ho; subst hQ
    exact ht_iret hx hb hr hlk rfl hK hP hD hS dX9_eased_18
abbrev rmX9_full : Room := { frames := 5, cells := 0, slots := 0, locals := 117 }
theorem hdX9_full : yX9_full.cls = RX9 ∧ yX9_full.cls ≠ "java/lang/invoke/MethodHandle" ∧ yX9_full.cls ≠ "java/lang/invoke/VarHandle" ∧ (parseMethodDescriptor yX9_full.desc).map (fun d => d.parameters.length) = some 1 := by decide +kernel
def fX9_full (RM : ModV) (p0 : Int32) : Option (Int32 × AI × AI) := ht_bn (fX9_isOne RM p0) (fun o_1 => if o_1 = 0 then (some ((-1 : Int32), RM.s, RM.aside)) else (ht_bn (fX9_needFirst RM p0 (99 : Int32)) (fun o_3 => some (o_3.1, o_3.2.1, o_3.2.2))))
set_option maxHeartbeats 1000000 in
set_option maxRecDepth 100000 in
theorem ctX9_full (l : Launch) (D : va_G) (K : Nat → ClassId) (jM : Nat) (aM : Nat → Nat) (RM : ModV) (p0 : Int32) (o : (Int32 × AI × AI)) (hf : fX9_full RM p0 = some o) (sz : Nat) : Met l yX9_full wsX9_full rmX9_full (ht_Pre D K [.ref jM, .int p0] (wMo K jM aM RM.s RM.held RM.aside RM.before RM.isHeld RM.tape RM.taped RM.token RM.frm RM.to RM.value RM.isWrong RM.unpaired RM.bestSound RM.bestWay RM.rows RM.rowN RM.sortOf RM.sizeOf RM.numbers RM.holdsWhat RM.holdsWhich RM.holdsMany RM.bodies RM.ran RM.actKind RM.actN RM.actA RM.isParted) sz) (ht_Qi D K (wMo K jM aM o.2.1 RM.held o.2.2 RM.before RM.isHeld RM.tape RM.taped RM.token RM.frm RM.to RM.value RM.isWrong RM.unpaired RM.bestSound RM.bestWay RM.rows RM.rowN RM.sortOf RM.sizeOf RM.numbers RM.holdsWhat RM.holdsWhich RM.holdsMany RM.bodies RM.ran RM.actKind RM.actN RM.actA RM.isParted) o.1 (va_A (wMo K jM aM RM.s RM.held RM.aside RM.before RM.isHeld RM.tape RM.taped RM.token RM.frm RM.to RM.value RM.isWrong RM.unpaired RM.bestSound RM.bestWay RM.rows RM.rowN RM.sortOf RM.sizeOf RM.numbers RM.holdsWhat RM.holdsWhich RM.holdsMany RM.bodies RM.ran RM.actKind RM.actN RM.actA RM.isParted) sz)) 0 0 (va_A (wMo K jM aM RM.s RM.held RM.aside RM.before RM.isHeld RM.tape RM.taped RM.token RM.frm RM.to RM.value RM.isWrong RM.unpaired RM.bestSound RM.bestWay RM.rows RM.rowN RM.sortOf RM.sizeOf RM.numbers RM.holdsWhat RM.holdsWhich RM.holdsMany RM.bodies RM.ran RM.actKind RM.actN RM.actA RM.isParted) sz) := by
  refine ht_enter (Qf := ht_Qi D K (wMo K jM aM o.2.1 RM.held o.2.2 RM.before RM.isHeld RM.tape RM.taped RM.token RM.frm RM.to RM.value RM.isWrong RM.unpaired RM.bestSound RM.bestWay RM.rows RM.rowN RM.sortOf RM.sizeOf RM.numbers RM.holdsWhat RM.holdsWhich RM.holdsMany RM.bodies RM.ran RM.actKind RM.actN RM.actA RM.isParted) o.1) (cc := cX9_full) (maxL := 2) (rt := (some .int)) (by decide) rfl (Nat.le_of_ble_eq_true rfl) ?_ sz
  intro p e s m below meth c A Q H locs ls hQ hx hb hr hlk hmn hml hown hts hA hK hP hD hS hl
  have hown : s.vm.findClass RX9 = some m.cls := hown
  have hF : CallFix p m c cX9_full 2 s ([.ref jM, .int p0] : List Value).toArray wsX9_full RX9 := ⟨hx, hb, hml, hown, hts⟩
  have hl : lv_has ls 2 [(0, .ref jM), (1, .int p0)] := hl
  delta fX9_full at hf
  refine lv_aload_n hx hb dX9_full_0 rfl (lv_at hl 0 rfl) ?_
  refine lv_iload_n hx hb dX9_full_1 rfl (lv_at hl 1 rfl) ?_
  obtain ⟨o_1, ho_1, hf⟩ := ht_bn_ob hf
  refine ht_callVi (r := o_1) (rest := []) (As := [.int p0]) (wc := (wMo K jM aM RM.s RM.held RM.aside RM.before RM.isHeld RM.tape RM.taped RM.token RM.frm RM.to RM.value RM.isWrong RM.unpaired RM.bestSound RM.bestWay RM.rows RM.rowN RM.sortOf RM.sizeOf RM.numbers RM.holdsWhat RM.holdsWhich RM.holdsMany RM.bodies RM.ran RM.actKind RM.actN RM.actA RM.isParted)) (wr := []) (w1 := (wMo K jM aM RM.s RM.held RM.aside RM.before RM.isHeld RM.tape RM.taped RM.token RM.frm RM.to RM.value RM.isWrong RM.unpaired RM.bestSound RM.bestWay RM.rows RM.rowN RM.sortOf RM.sizeOf RM.numbers RM.holdsWhat RM.holdsWhich RM.holdsMany RM.bodies RM.ran RM.actKind RM.actN RM.actA RM.isParted)) (w2 := (wMo K jM aM RM.s RM.held RM.aside RM.before RM.isHeld RM.tape RM.taped RM.token RM.frm RM.to RM.value RM.isWrong RM.unpaired RM.bestSound RM.bestWay RM.rows RM.rowN RM.sortOf RM.sizeOf RM.numbers RM.holdsWhat RM.holdsWhich RM.holdsMany RM.bodies RM.ran RM.actKind RM.actN RM.actA RM.isParted)) hF (ctX9_isOne l D K jM aM RM p0 o_1 ho_1 H.size) (cwV 1 hts gX9_full_X9_isOne rfl rfl rfl hdX9_isOne ⟨Nat.le_of_ble_eq_true rfl, Nat.le_of_ble_eq_true rfl⟩) hK hP hD hS hA [0, 1, 2, 3, 4, 5, 6, 7, 8, 9, 10, 11, 12, 13, 14, 15] [] rfl rfl (by decide) (by decide) (by decide) [0, 1, 2, 3, 4, 5, 6, 7, 8, 9, 10, 11, 12, 13, 14, 15] rfl (by decide) (va_recv hK hP (ci := 9) (q0 := 0) rfl rfl) rfl hl.1 rfl (Nat.le_of_ble_eq_true rfl) dX9_full_2 ⟨Nat.zero_le _, Nat.zero_le _⟩ (fun H locs hP hD hS => ?_)
  refine lv_if_eq (tgt := 18) hx hb dX9_full_5 (by decide) (fun c_2 => ?_) (fun c_2 => ?_)
  · replace hf := ht_t c_2 hf
    refine lv_iconst (v := -1) hx hb dX9_full_18 (by decide) ?_
    have ho := Option.some.inj hf
    subst ho; subst hQ
    exact ht_iret hx hb hr hlk rfl hK hP hD hS dX9_full_19
  · replace hf := ht_f c_2 hf
    refine lv_aload_n hx hb dX9_full_8 rfl (lv_at hl 0 rfl) ?_
    refine lv_iload_n hx hb dX9_full_9 rfl (lv_at hl 1 rfl) ?_
    refine lv_bipush (v := 99) hx hb dX9_full_10 (by decide) ?_
    obtain ⟨o_3, ho_3, hf⟩ := ht_bn_ob hf
    refine ht_callVi (r := o_3.1) (rest := []) (As := [.int p0, .int (99 : Int32)]) (wc := (wMo K jM aM RM.s RM.held RM.aside RM.before RM.isHeld RM.tape RM.taped RM.token RM.frm RM.to RM.value RM.isWrong RM.unpaired RM.bestSound RM.bestWay RM.rows RM.rowN RM.sortOf RM.sizeOf RM.numbers RM.holdsWhat RM.holdsWhich RM.holdsMany RM.bodies RM.ran RM.actKind RM.actN RM.actA RM.isParted)) (wr := []) (w1 := (wMo K jM aM o_3.2.1 RM.held o_3.2.2 RM.before RM.isHeld RM.tape RM.taped RM.token RM.frm RM.to RM.value RM.isWrong RM.unpaired RM.bestSound RM.bestWay RM.rows RM.rowN RM.sortOf RM.sizeOf RM.numbers RM.holdsWhat RM.holdsWhich RM.holdsMany RM.bodies RM.ran RM.actKind RM.actN RM.actA RM.isParted)) (w2 := (wMo K jM aM o_3.2.1 RM.held o_3.2.2 RM.before RM.isHeld RM.tape RM.taped RM.token RM.frm RM.to RM.value RM.isWrong RM.unpaired RM.bestSound RM.bestWay RM.rows RM.rowN RM.sortOf RM.sizeOf RM.numbers RM.holdsWhat RM.holdsWhich RM.holdsMany RM.bodies RM.ran RM.actKind RM.actN RM.actA RM.isParted)) hF (ctX9_needFirst l D K jM aM RM p0 (99 : Int32) o_3 ho_3 H.size) (cwV 2 hts gX9_full_X9_needFirst rfl rfl rfl hdX9_needFirst ⟨Nat.le_of_ble_eq_true rfl, Nat.le_of_ble_eq_true rfl⟩) hK hP hD hS hA [0, 1, 2, 3, 4, 5, 6, 7, 8, 9, 10, 11, 12, 13, 14, 15] [] rfl rfl (by decide) (by decide) (by decide) [0, 1, 2, 3, 4, 5, 6, 7, 8, 9, 10, 11, 12, 13, 14, 15] rfl (by decide) (va_recv hK hP (ci := 9) (q0 := 0) rfl rfl) rfl hl.1 rfl (Nat.le_of_ble_eq_true rfl) dX9_full_12 ⟨Nat.zero_le _, Nat.zero_le _⟩ (fun H locs hP hD hS => ?_)
    refine lv_goto (tgt := 19) hx hb dX9_full_15 (by decide) ?_
    have ho := Option.some.inj hf
    subst ho; subst hQ
    exact ht_iret hx hb hr hlk rfl hK hP hD hS dX9_full_19
abbrev rmX9_hush : Room := { frames := 4, cells := 0, slots := 0, locals := 93 }
theorem hdX9_hush : yX9_hush.cls = RX9 ∧ yX9_hush.cls ≠ "java/lang/invoke/MethodHandle" ∧ yX9_hush.cls ≠ "java/lang/invoke/VarHandle" ∧ (parseMethodDescriptor yX9_hush.desc).map (fun d => d.parameters.length) = some 0 := by decide +kernel
def fX9_hush_b38 (RM : ModV) (x1 : Int32) (vM_s : AI) (vM_aside : AI) : Option (Int32 × AI × AI) := ht_bn (fX9_copyRow vM_aside vM_s) (fun o_1 => if (60 : Int32) < x1 then (some ((-3 : Int32), o_1, vM_aside)) else (some (x1, o_1, vM_aside)))
def fX9_hush_b13 (RM : ModV) (k13 : Int32 → AI → AI → Option (Int32 × AI × AI)) (x1 : Int32) (vM_s : AI) (vM_aside : AI) : Option (Int32 × AI × AI) := if (60 : Int32) < x1 then (fX9_hush_b38 RM x1 vM_s vM_aside) else (ht_bn (fX9_sumOf (vM_s, RM.held, vM_aside, RM.before, RM.isHeld, RM.tape, RM.taped, RM.token, RM.frm, RM.to, RM.value, RM.isWrong, RM.unpaired, RM.bestSound, RM.bestWay, RM.rows, RM.rowN, RM.sortOf, RM.sizeOf, RM.numbers, RM.holdsWhat, RM.holdsWhich, RM.holdsMany, RM.bodies, RM.ran, RM.actKind, RM.actN, RM.actA, RM.isParted) (1 : Int32)) (fun o_4 => if o_4 ≤ 0 then (fX9_hush_b38 RM x1 vM_s vM_aside) else (ht_bn (fX9_goesOn (vM_s, RM.held, vM_aside, RM.before, RM.isHeld, RM.tape, RM.taped, RM.token, RM.frm, RM.to, RM.value, RM.isWrong, RM.unpaired, RM.bestSound, RM.bestWay, RM.rows, RM.rowN, RM.sortOf, RM.sizeOf, RM.numbers, RM.holdsWhat, RM.holdsWhich, RM.holdsMany, RM.bodies, RM.ran, RM.actKind, RM.actN, RM.actA, RM.isParted)) (fun o_6 => ht_nm o_6.1 (fun x2_7 => ht_nm (x1 + (1 : Int32)) (fun x1_8 => k13 x1_8 o_6.2 vM_aside))))))
def fX9_hush (RM : ModV) : Option (Int32 × AI × AI) := ht_bn (fX9_copyRow RM.s RM.aside) (fun o_9 => ht_lp3 (fX9_hush_b13 RM) FU (0 : Int32) RM.s o_9)
set_option maxHeartbeats 1000000 in
set_option maxRecDepth 100000 in
theorem ctX9_hush (l : Launch) (D : va_G) (K : Nat → ClassId) (jM : Nat) (aM : Nat → Nat) (RM : ModV) (o : (Int32 × AI × AI)) (hf : fX9_hush RM = some o) (sz : Nat) : Met l yX9_hush wsX9_hush rmX9_hush (ht_Pre D K [.ref jM] (wMo K jM aM RM.s RM.held RM.aside RM.before RM.isHeld RM.tape RM.taped RM.token RM.frm RM.to RM.value RM.isWrong RM.unpaired RM.bestSound RM.bestWay RM.rows RM.rowN RM.sortOf RM.sizeOf RM.numbers RM.holdsWhat RM.holdsWhich RM.holdsMany RM.bodies RM.ran RM.actKind RM.actN RM.actA RM.isParted) sz) (ht_Qi D K (wMo K jM aM o.2.1 RM.held o.2.2 RM.before RM.isHeld RM.tape RM.taped RM.token RM.frm RM.to RM.value RM.isWrong RM.unpaired RM.bestSound RM.bestWay RM.rows RM.rowN RM.sortOf RM.sizeOf RM.numbers RM.holdsWhat RM.holdsWhich RM.holdsMany RM.bodies RM.ran RM.actKind RM.actN RM.actA RM.isParted) o.1 (va_A (wMo K jM aM RM.s RM.held RM.aside RM.before RM.isHeld RM.tape RM.taped RM.token RM.frm RM.to RM.value RM.isWrong RM.unpaired RM.bestSound RM.bestWay RM.rows RM.rowN RM.sortOf RM.sizeOf RM.numbers RM.holdsWhat RM.holdsWhich RM.holdsMany RM.bodies RM.ran RM.actKind RM.actN RM.actA RM.isParted) sz)) 0 0 (va_A (wMo K jM aM RM.s RM.held RM.aside RM.before RM.isHeld RM.tape RM.taped RM.token RM.frm RM.to RM.value RM.isWrong RM.unpaired RM.bestSound RM.bestWay RM.rows RM.rowN RM.sortOf RM.sizeOf RM.numbers RM.holdsWhat RM.holdsWhich RM.holdsMany RM.bodies RM.ran RM.actKind RM.actN RM.actA RM.isParted) sz) := by
  refine ht_enter (Qf := ht_Qi D K (wMo K jM aM o.2.1 RM.held o.2.2 RM.before RM.isHeld RM.tape RM.taped RM.token RM.frm RM.to RM.value RM.isWrong RM.unpaired RM.bestSound RM.bestWay RM.rows RM.rowN RM.sortOf RM.sizeOf RM.numbers RM.holdsWhat RM.holdsWhich RM.holdsMany RM.bodies RM.ran RM.actKind RM.actN RM.actA RM.isParted) o.1) (cc := cX9_hush) (maxL := 3) (rt := (some .int)) (by decide) rfl (Nat.le_of_ble_eq_true rfl) ?_ sz
  intro p e s m below meth c A Q H locs ls hQ hx hb hr hlk hmn hml hown hts hA hK hP hD hS hl
  have hown : s.vm.findClass RX9 = some m.cls := hown
  have hF : CallFix p m c cX9_hush 3 s ([.ref jM] : List Value).toArray wsX9_hush RX9 := ⟨hx, hb, hml, hown, hts⟩
  have hl : lv_has ls 3 [(0, .ref jM)] := hl
  have iw9 : ∀ w ∈ u_ws RX9 TX9 29, w ∈ wsX9_hush := by decide +kernel
  have kw1 := hts (.fieldLink RX9 16 "HeldTonguesModel" "aside" "[I") (by decide +kernel)
  have kw2 := hts (.fieldLink RX9 7 "HeldTonguesModel" "s" "[I") (by decide +kernel)
  have b38 : ∀ (x1 : Int32) (vM_s : AI) (vM_aside : AI) (H : Heap) (locs : List Loc) (ls : Array Slot), fX9_hush_b38 RM x1 vM_s vM_aside = some o → va_P D vwCl (wMo K jM aM vM_s RM.held vM_aside RM.before RM.isHeld RM.tape RM.taped RM.token RM.frm RM.to RM.value RM.isWrong RM.unpaired RM.bestSound RM.bestWay RM.rows RM.rowN RM.sortOf RM.sizeOf RM.numbers RM.holdsWhat RM.holdsWhich RM.holdsMany RM.bodies RM.ran RM.actKind RM.actN RM.actA RM.isParted) H → va_D A (wMo K jM aM vM_s RM.held vM_aside RM.before RM.isHeld RM.tape RM.taped RM.token RM.frm RM.to RM.value RM.isWrong RM.unpaired RM.bestSound RM.bestWay RM.rows RM.rowN RM.sortOf RM.sizeOf RM.numbers RM.holdsWhat RM.holdsWhich RM.holdsMany RM.bodies RM.ran RM.actKind RM.actN RM.actA RM.isParted) → va_S A s.heap H locs → lv_has ls 3 [(0, .ref jM), (1, .int x1)] → W p l e (headSpec wsX9_hush rmX9_hush).room s m ([.ref jM] : List Value).toArray below meth c H locs 0 0 Q (F0 m 38 ls []) := by
    intro x1 vM_s vM_aside H locs ls hf hP hD hS hl
    delta fX9_hush_b38 at hf
    refine lv_aload_n hx hb dX9_hush_38 rfl (lv_at hl 0 rfl) ?_
    refine va_get (D := D) (ci := 9) (v := .ref (aM 2)) (C := RX9) (T := TX9) (N := 29) hx hb hts iw9 hown hK hP 0 rfl rfl 2 (by decide) kw1 (fun _ h9 => h9) rfl dX9_hush_39 ?_
    refine lv_aload_n hx hb dX9_hush_42 rfl (lv_at hl 0 rfl) ?_
    refine va_get (D := D) (ci := 9) (v := .ref (aM 0)) (C := RX9) (T := TX9) (N := 29) hx hb hts iw9 hown hK hP 0 rfl rfl 0 (by decide) kw2 (fun _ h9 => h9) rfl dX9_hush_43 ?_
    obtain ⟨o_1, ho_1, hf⟩ := ht_bn_ob hf
    refine ht_callSv (rest := []) (As := [.ref (aM 2), .ref (aM 0)]) (wc := (wAr K 57 (aM 2) vM_aside ++ (wAr K 57 (aM 0) vM_s))) (wr := ([(jM, .inr (9, [.ref (aM 0), .ref (aM 1), .ref (aM 2), .ref (aM 3), .int RM.isHeld, .ref (aM 4), .int RM.taped, .int RM.token, .int RM.frm, .int RM.to, .int RM.value, .int RM.isWrong, .ref (aM 5), .int RM.bestSound, .ref (aM 6), .ref (aM 7), .int RM.rowN, .ref (aM 8), .ref (aM 9), .ref (aM 10), .ref (aM 11), .ref (aM 12), .ref (aM 13), .ref (aM 14), .int RM.ran, .int RM.actKind, .int RM.actN, .int RM.actA, .int RM.isParted]))] ++ ([(aM 1, .inl (K 1, 57, .inl RM.held))] ++ ([(aM 3, .inl (K 1, 57, .inl RM.before))] ++ ([(aM 4, .inl (K 1, 200, .inl RM.tape))] ++ ([(aM 5, .inl (K 1, 57, .inl RM.unpaired))] ++ ([(aM 6, .inl (K 1, 8, .inl RM.bestWay))] ++ ([(aM 7, .inl (K 1, 30, .inl RM.rows))] ++ ([(aM 8, .inl (K 1, 4, .inl RM.sortOf))] ++ ([(aM 9, .inl (K 1, 4, .inl RM.sizeOf))] ++ ([(aM 10, .inl (K 1, 160, .inl RM.numbers))] ++ ([(aM 11, .inl (K 1, 4, .inl RM.holdsWhat))] ++ ([(aM 12, .inl (K 1, 4, .inl RM.holdsWhich))] ++ ([(aM 13, .inl (K 1, 4, .inl RM.holdsMany))] ++ ([(aM 14, .inl (K 1, 30, .inl RM.bodies))]))))))))))))))) (w1 := (wAr K 57 (aM 2) vM_aside ++ (wAr K 57 (aM 0) o_1))) (w2 := (wMo K jM aM o_1 RM.held vM_aside RM.before RM.isHeld RM.tape RM.taped RM.token RM.frm RM.to RM.value RM.isWrong RM.unpaired RM.bestSound RM.bestWay RM.rows RM.rowN RM.sortOf RM.sizeOf RM.numbers RM.holdsWhat RM.holdsWhich RM.holdsMany RM.bodies RM.ran RM.actKind RM.actN RM.actA RM.isParted)) hF (ctX9_copyRow l D K (aM 2) (aM 0) vM_aside vM_s o_1 ho_1 H.size) (va_cwS 2 hts gX9_hush_X9_copyRow rfl rfl rfl hdX9_copyRow ⟨Nat.le_of_ble_eq_true rfl, Nat.le_of_ble_eq_true rfl⟩) hK hP hD hS hA [3, 1] [0, 2, 4, 5, 6, 7, 8, 9, 10, 11, 12, 13, 14, 15] rfl rfl (by decide) (by decide) (by decide) [0, 15, 1, 14, 2, 3, 4, 5, 6, 7, 8, 9, 10, 11, 12, 13] rfl (by decide) rfl hl.1 rfl (Nat.le_of_ble_eq_true rfl) dX9_hush_46 ⟨Nat.zero_le _, Nat.zero_le _⟩ (fun H locs hP hD hS => ?_)
    refine lv_iload_n hx hb dX9_hush_49 rfl (lv_at hl 1 rfl) ?_
    refine lv_bipush (v := 60) hx hb dX9_hush_50 (by decide) ?_
    refine lv_icmp_gt (tgt := 59) hx hb dX9_hush_52 (by decide) (fun c_2 => ?_) (fun c_2 => ?_)
    · replace hf := ht_t c_2 hf
      refine lv_bipush (v := -3) hx hb dX9_hush_59 (by decide) ?_
      have ho := Option.some.inj hf
      subst ho; subst hQ
      exact ht_iret hx hb hr hlk rfl hK hP hD hS dX9_hush_61
    · replace hf := ht_f c_2 hf
      refine lv_iload_n hx hb dX9_hush_55 rfl (lv_at hl 1 rfl) ?_
      refine lv_goto (tgt := 61) hx hb dX9_hush_56 (by decide) ?_
      have ho := Option.some.inj hf
      subst ho; subst hQ
      exact ht_iret hx hb hr hlk rfl hK hP hD hS dX9_hush_61
  have b13 : ∀ (n : Nat) (x1 : Int32) (vM_s : AI) (vM_aside : AI) (H : Heap) (locs : List Loc) (ls : Array Slot), ht_lp3 (fX9_hush_b13 RM) n x1 vM_s vM_aside = some o → va_P D vwCl (wMo K jM aM vM_s RM.held vM_aside RM.before RM.isHeld RM.tape RM.taped RM.token RM.frm RM.to RM.value RM.isWrong RM.unpaired RM.bestSound RM.bestWay RM.rows RM.rowN RM.sortOf RM.sizeOf RM.numbers RM.holdsWhat RM.holdsWhich RM.holdsMany RM.bodies RM.ran RM.actKind RM.actN RM.actA RM.isParted) H → va_D A (wMo K jM aM vM_s RM.held vM_aside RM.before RM.isHeld RM.tape RM.taped RM.token RM.frm RM.to RM.value RM.isWrong RM.unpaired RM.bestSound RM.bestWay RM.rows RM.rowN RM.sortOf RM.sizeOf RM.numbers RM.holdsWhat RM.holdsWhich RM.holdsMany RM.bodies RM.ran RM.actKind RM.actN RM.actA RM.isParted) → va_S A s.heap H locs → lv_has ls 3 [(0, .ref jM), (1, .int x1)] → W p l e (headSpec wsX9_hush rmX9_hush).room s m ([.ref jM] : List Value).toArray below meth c H locs 0 0 Q (F0 m 13 ls []) := by
    intro n
    induction n with
    | zero =>
      intro x1 vM_s vM_aside H locs ls hf hP hD hS hl
      cases (show (none : Option (Int32 × AI × AI)) = some o from hf)
    | succ n hk13 =>
      intro x1 vM_s vM_aside H locs ls hf hP hD hS hl
      replace hf : fX9_hush_b13 RM (ht_lp3 (fX9_hush_b13 RM) n) x1 vM_s vM_aside = some o := hf
      delta fX9_hush_b13 at hf
      refine lv_iload_n hx hb dX9_hush_13 rfl (lv_at hl 1 rfl) ?_
      refine lv_bipush (v := 60) hx hb dX9_hush_14 (by decide) ?_
      refine lv_icmp_gt (tgt := 38) hx hb dX9_hush_16 (by decide) (fun c_3 => ?_) (fun c_3 => ?_)
      · replace hf := ht_t c_3 hf
        exact b38  x1 vM_s vM_aside _ _ _ hf hP hD hS hl
      · replace hf := ht_f c_3 hf
        refine lv_aload_n hx hb dX9_hush_19 rfl (lv_at hl 0 rfl) ?_
        refine lv_iconst (v := 1) hx hb dX9_hush_20 (by decide) ?_
        obtain ⟨o_4, ho_4, hf⟩ := ht_bn_ob hf
        refine ht_callVi (r := o_4) (rest := []) (As := [.int (1 : Int32)]) (wc := (wMo K jM aM vM_s RM.held vM_aside RM.before RM.isHeld RM.tape RM.taped RM.token RM.frm RM.to RM.value RM.isWrong RM.unpaired RM.bestSound RM.bestWay RM.rows RM.rowN RM.sortOf RM.sizeOf RM.numbers RM.holdsWhat RM.holdsWhich RM.holdsMany RM.bodies RM.ran RM.actKind RM.actN RM.actA RM.isParted)) (wr := []) (w1 := (wMo K jM aM vM_s RM.held vM_aside RM.before RM.isHeld RM.tape RM.taped RM.token RM.frm RM.to RM.value RM.isWrong RM.unpaired RM.bestSound RM.bestWay RM.rows RM.rowN RM.sortOf RM.sizeOf RM.numbers RM.holdsWhat RM.holdsWhich RM.holdsMany RM.bodies RM.ran RM.actKind RM.actN RM.actA RM.isParted)) (w2 := (wMo K jM aM vM_s RM.held vM_aside RM.before RM.isHeld RM.tape RM.taped RM.token RM.frm RM.to RM.value RM.isWrong RM.unpaired RM.bestSound RM.bestWay RM.rows RM.rowN RM.sortOf RM.sizeOf RM.numbers RM.holdsWhat RM.holdsWhich RM.holdsMany RM.bodies RM.ran RM.actKind RM.actN RM.actA RM.isParted)) hF (ctX9_sumOf l D K jM aM (vM_s, RM.held, vM_aside, RM.before, RM.isHeld, RM.tape, RM.taped, RM.token, RM.frm, RM.to, RM.value, RM.isWrong, RM.unpaired, RM.bestSound, RM.bestWay, RM.rows, RM.rowN, RM.sortOf, RM.sizeOf, RM.numbers, RM.holdsWhat, RM.holdsWhich, RM.holdsMany, RM.bodies, RM.ran, RM.actKind, RM.actN, RM.actA, RM.isParted) (1 : Int32) o_4 ho_4 H.size) (cwV 1 hts gX9_hush_X9_sumOf rfl rfl rfl hdX9_sumOf ⟨Nat.le_of_ble_eq_true rfl, Nat.le_of_ble_eq_true rfl⟩) hK hP hD hS hA [0, 1, 2, 3, 4, 5, 6, 7, 8, 9, 10, 11, 12, 13, 14, 15] [] rfl rfl (by decide) (by decide) (by decide) [0, 1, 2, 3, 4, 5, 6, 7, 8, 9, 10, 11, 12, 13, 14, 15] rfl (by decide) (va_recv hK hP (ci := 9) (q0 := 0) rfl rfl) rfl hl.1 rfl (Nat.le_of_ble_eq_true rfl) dX9_hush_21 ⟨Nat.zero_le _, Nat.zero_le _⟩ (fun H locs hP hD hS => ?_)
        refine lv_if_le (tgt := 38) hx hb dX9_hush_24 (by decide) (fun c_5 => ?_) (fun c_5 => ?_)
        · replace hf := ht_t c_5 hf
          exact b38  x1 vM_s vM_aside _ _ _ hf hP hD hS hl
        · replace hf := ht_f c_5 hf
          refine lv_aload_n hx hb dX9_hush_27 rfl (lv_at hl 0 rfl) ?_
          obtain ⟨o_6, ho_6, hf⟩ := ht_bn_ob hf
          refine ht_callVi (r := o_6.1) (rest := []) (As := []) (wc := (wMo K jM aM vM_s RM.held vM_aside RM.before RM.isHeld RM.tape RM.taped RM.token RM.frm RM.to RM.value RM.isWrong RM.unpaired RM.bestSound RM.bestWay RM.rows RM.rowN RM.sortOf RM.sizeOf RM.numbers RM.holdsWhat RM.holdsWhich RM.holdsMany RM.bodies RM.ran RM.actKind RM.actN RM.actA RM.isParted)) (wr := []) (w1 := (wMo K jM aM o_6.2 RM.held vM_aside RM.before RM.isHeld RM.tape RM.taped RM.token RM.frm RM.to RM.value RM.isWrong RM.unpaired RM.bestSound RM.bestWay RM.rows RM.rowN RM.sortOf RM.sizeOf RM.numbers RM.holdsWhat RM.holdsWhich RM.holdsMany RM.bodies RM.ran RM.actKind RM.actN RM.actA RM.isParted)) (w2 := (wMo K jM aM o_6.2 RM.held vM_aside RM.before RM.isHeld RM.tape RM.taped RM.token RM.frm RM.to RM.value RM.isWrong RM.unpaired RM.bestSound RM.bestWay RM.rows RM.rowN RM.sortOf RM.sizeOf RM.numbers RM.holdsWhat RM.holdsWhich RM.holdsMany RM.bodies RM.ran RM.actKind RM.actN RM.actA RM.isParted)) hF (ctX9_goesOn l D K jM aM (vM_s, RM.held, vM_aside, RM.before, RM.isHeld, RM.tape, RM.taped, RM.token, RM.frm, RM.to, RM.value, RM.isWrong, RM.unpaired, RM.bestSound, RM.bestWay, RM.rows, RM.rowN, RM.sortOf, RM.sizeOf, RM.numbers, RM.holdsWhat, RM.holdsWhich, RM.holdsMany, RM.bodies, RM.ran, RM.actKind, RM.actN, RM.actA, RM.isParted) o_6 ho_6 H.size) (cwV 0 hts gX9_hush_X9_goesOn rfl rfl rfl hdX9_goesOn ⟨Nat.le_of_ble_eq_true rfl, Nat.le_of_ble_eq_true rfl⟩) hK hP hD hS hA [0, 1, 2, 3, 4, 5, 6, 7, 8, 9, 10, 11, 12, 13, 14, 15] [] rfl rfl (by decide) (by decide) (by decide) [0, 1, 2, 3, 4, 5, 6, 7, 8, 9, 10, 11, 12, 13, 14, 15] rfl (by decide) (va_recv hK hP (ci := 9) (q0 := 0) rfl rfl) rfl hl.1 rfl (Nat.le_of_ble_eq_true rfl) dX9_hush_28 ⟨Nat.zero_le _, Nat.zero_le _⟩ (fun H locs hP hD hS => ?_)
          obtain ⟨x2_7, ex2_7, hf⟩ := ht_nm_ob hf
          rw [← ex2_7]
          refine lv_istore_n (lv' := [(2, .int x2_7), (0, .ref jM), (1, .int x1)]) hx hb dX9_hush_31 rfl hl (by decide) rfl (fun ls hl => ?_)
          obtain ⟨x1_8, ex1_8, hf⟩ := ht_nm_ob hf
          refine lv_iinc (v := x1_8) (lv' := [(1, .int x1_8), (2, .int x2_7), (0, .ref jM)]) hx hb dX9_hush_32 hl (k := 2) rfl (by rw [ex1_8]; rfl) (by decide) rfl (fun ls hl => ?_)
          refine lv_goto (tgt := 13) hx hb dX9_hush_35 (by decide) ?_
          exact hk13 x1_8 o_6.2 vM_aside _ _ _ hf hP hD hS (lv_sub hl [2, 0] rfl)
  delta fX9_hush at hf
  refine lv_aload_n hx hb dX9_hush_0 rfl (lv_at hl 0 rfl) ?_
  refine va_get (D := D) (ci := 9) (v := .ref (aM 0)) (C := RX9) (T := TX9) (N := 29) hx hb hts iw9 hown hK hP 0 rfl rfl 0 (by decide) kw2 (fun _ h9 => h9) rfl dX9_hush_1 ?_
  refine lv_aload_n hx hb dX9_hush_4 rfl (lv_at hl 0 rfl) ?_
  refine va_get (D := D) (ci := 9) (v := .ref (aM 2)) (C := RX9) (T := TX9) (N := 29) hx hb hts iw9 hown hK hP 0 rfl rfl 2 (by decide) kw1 (fun _ h9 => h9) rfl dX9_hush_5 ?_
  obtain ⟨o_9, ho_9, hf⟩ := ht_bn_ob hf
  refine ht_callSv (rest := []) (As := [.ref (aM 0), .ref (aM 2)]) (wc := (wAr K 57 (aM 0) RM.s ++ (wAr K 57 (aM 2) RM.aside))) (wr := ([(jM, .inr (9, [.ref (aM 0), .ref (aM 1), .ref (aM 2), .ref (aM 3), .int RM.isHeld, .ref (aM 4), .int RM.taped, .int RM.token, .int RM.frm, .int RM.to, .int RM.value, .int RM.isWrong, .ref (aM 5), .int RM.bestSound, .ref (aM 6), .ref (aM 7), .int RM.rowN, .ref (aM 8), .ref (aM 9), .ref (aM 10), .ref (aM 11), .ref (aM 12), .ref (aM 13), .ref (aM 14), .int RM.ran, .int RM.actKind, .int RM.actN, .int RM.actA, .int RM.isParted]))] ++ ([(aM 1, .inl (K 1, 57, .inl RM.held))] ++ ([(aM 3, .inl (K 1, 57, .inl RM.before))] ++ ([(aM 4, .inl (K 1, 200, .inl RM.tape))] ++ ([(aM 5, .inl (K 1, 57, .inl RM.unpaired))] ++ ([(aM 6, .inl (K 1, 8, .inl RM.bestWay))] ++ ([(aM 7, .inl (K 1, 30, .inl RM.rows))] ++ ([(aM 8, .inl (K 1, 4, .inl RM.sortOf))] ++ ([(aM 9, .inl (K 1, 4, .inl RM.sizeOf))] ++ ([(aM 10, .inl (K 1, 160, .inl RM.numbers))] ++ ([(aM 11, .inl (K 1, 4, .inl RM.holdsWhat))] ++ ([(aM 12, .inl (K 1, 4, .inl RM.holdsWhich))] ++ ([(aM 13, .inl (K 1, 4, .inl RM.holdsMany))] ++ ([(aM 14, .inl (K 1, 30, .inl RM.bodies))]))))))))))))))) (w1 := (wAr K 57 (aM 0) RM.s ++ (wAr K 57 (aM 2) o_9))) (w2 := (wMo K jM aM RM.s RM.held o_9 RM.before RM.isHeld RM.tape RM.taped RM.token RM.frm RM.to RM.value RM.isWrong RM.unpaired RM.bestSound RM.bestWay RM.rows RM.rowN RM.sortOf RM.sizeOf RM.numbers RM.holdsWhat RM.holdsWhich RM.holdsMany RM.bodies RM.ran RM.actKind RM.actN RM.actA RM.isParted)) hF (ctX9_copyRow l D K (aM 0) (aM 2) RM.s RM.aside o_9 ho_9 H.size) (va_cwS 2 hts gX9_hush_X9_copyRow rfl rfl rfl hdX9_copyRow ⟨Nat.le_of_ble_eq_true rfl, Nat.le_of_ble_eq_true rfl⟩) hK hP hD hS hA [1, 3] [0, 2, 4, 5, 6, 7, 8, 9, 10, 11, 12, 13, 14, 15] rfl rfl (by decide) (by decide) (by decide) [0, 14, 1, 15, 2, 3, 4, 5, 6, 7, 8, 9, 10, 11, 12, 13] rfl (by decide) rfl hl.1 rfl (Nat.le_of_ble_eq_true rfl) dX9_hush_8 ⟨Nat.zero_le _, Nat.zero_le _⟩ (fun H locs hP hD hS => ?_)
  refine lv_iconst (v := 0) hx hb dX9_hush_11 (by decide) ?_
  refine lv_istore_n (lv' := [(1, .int (0 : Int32)), (0, .ref jM)]) hx hb dX9_hush_12 rfl hl (by decide) rfl (fun ls hl => ?_)
  exact b13  FU (0 : Int32) RM.s o_9 _ _ _ hf hP hD hS (lv_sub hl [1, 0] rfl)
abbrev rmX9_partnerFor : Room := { frames := 5, cells := 0, slots := 0, locals := 116 }
theorem hdX9_partnerFor : yX9_partnerFor.cls = RX9 ∧ yX9_partnerFor.cls ≠ "java/lang/invoke/MethodHandle" ∧ yX9_partnerFor.cls ≠ "java/lang/invoke/VarHandle" ∧ (parseMethodDescriptor yX9_partnerFor.desc).map (fun d => d.parameters.length) = some 2 := by decide +kernel
def fX9_partnerFor_b111 (RM : ModV) (x4 : Int32) (vM_s : AI) (vM_aside : AI) (vM_unpaired : AI) : Option (Int32 × AI × AI × AI) := some (x4, vM_s, vM_aside, vM_unpaired)
def fX9_partnerFor_b105 (RM : ModV) (k41 : Int32 → Int32 → Int32 → Int32 → Int32 → AI → AI → AI → Option (Int32 × AI × AI × AI)) (x1 : Int32) (x2 : Int32) (x3 : Int32) (x4 : Int32) (x5 : Int32) (vM_s : AI) (vM_aside : AI) (vM_unpaired : AI) : Option (Int32 × AI × AI × AI) := ht_nm (x5 + (1 : Int32)) (fun x5_1 => k41 x1 x2 x3 x4 x5_1 vM_s vM_aside vM_unpaired)
def fX9_partnerFor_b85 (RM : ModV) (k41 : Int32 → Int32 → Int32 → Int32 → Int32 → AI → AI → AI → Option (Int32 × AI × AI × AI)) (x1 : Int32) (x2 : Int32) (x3 : Int32) (x5 : Int32) (x6 : Int32) (t0 : Int32) (vM_s : AI) (vM_aside : AI) (vM_unpaired : AI) : Option (Int32 × AI × AI × AI) := ht_bn (fX9_greatest x3 x6) (fun o_2 => ht_bn (fX9_copyRow vM_unpaired vM_s) (fun o_3 => fX9_partnerFor_b105 RM k41 x1 x2 o_2 t0 x5 o_3 vM_aside vM_unpaired))
def fX9_partnerFor_b41 (RM : ModV) (k41 : Int32 → Int32 → Int32 → Int32 → Int32 → AI → AI → AI → Option (Int32 × AI × AI × AI)) (x1 : Int32) (x2 : Int32) (x3 : Int32) (x4 : Int32) (x5 : Int32) (vM_s : AI) (vM_aside : AI) (vM_unpaired : AI) : Option (Int32 × AI × AI × AI) := ht_gd (ht_ix (0 : Int32) 57) (if (vM_s (0 : Int32).toNatClampNeg) ≤ x5 then (fX9_partnerFor_b111 RM x4 vM_s vM_aside vM_unpaired) else (if x5 = x1 then (fX9_partnerFor_b105 RM k41 x1 x2 x3 x4 x5 vM_s vM_aside vM_unpaired) else (ht_bn (fX9_pairs (vM_s, RM.held, vM_aside, RM.before, RM.isHeld, RM.tape, RM.taped, RM.token, RM.frm, RM.to, RM.value, RM.isWrong, vM_unpaired, RM.bestSound, RM.bestWay, RM.rows, RM.rowN, RM.sortOf, RM.sizeOf, RM.numbers, RM.holdsWhat, RM.holdsWhich, RM.holdsMany, RM.bodies, RM.ran, RM.actKind, RM.actN, RM.actA, RM.isParted) x1 x5) (fun o_7 => ht_bn (fX9_soundBy (o_7, RM.held, vM_aside, RM.before, RM.isHeld, RM.tape, RM.taped, RM.token, RM.frm, RM.to, RM.value, RM.isWrong, vM_unpaired, RM.bestSound, RM.bestWay, RM.rows, RM.rowN, RM.sortOf, RM.sizeOf, RM.numbers, RM.holdsWhat, RM.holdsWhich, RM.holdsMany, RM.bodies, RM.ran, RM.actKind, RM.actN, RM.actA, RM.isParted) x2) (fun o_8 => ht_nm o_8.1 (fun x6_9 => if x6_9 ≤ x3 then (fX9_partnerFor_b85 RM k41 x1 x2 x3 x5 x6_9 x4 o_8.2.1 o_8.2.2 vM_unpaired) else (fX9_partnerFor_b85 RM k41 x1 x2 x3 x5 x6_9 x5 o_8.2.1 o_8.2.2 vM_unpaired)))))))
def fX9_partnerFor (RM : ModV) (p0 : Int32) (p1 : Int32) : Option (Int32 × AI × AI × AI) := ht_bn (fX9_isOne RM p0) (fun o_11 => if o_11 = 0 then (some ((-1 : Int32), RM.s, RM.aside, RM.unpaired)) else (ht_bn (fX9_isShort p1) (fun o_13 => if o_13 = 0 then (some ((-1 : Int32), RM.s, RM.aside, RM.unpaired)) else (ht_bn (fX9_copyRow RM.s RM.unpaired) (fun o_15 => ht_bn (fX9_soundBy (RM.s, RM.held, RM.aside, RM.before, RM.isHeld, RM.tape, RM.taped, RM.token, RM.frm, RM.to, RM.value, RM.isWrong, o_15, RM.bestSound, RM.bestWay, RM.rows, RM.rowN, RM.sortOf, RM.sizeOf, RM.numbers, RM.holdsWhat, RM.holdsWhich, RM.holdsMany, RM.bodies, RM.ran, RM.actKind, RM.actN, RM.actA, RM.isParted) p1) (fun o_16 => ht_nm o_16.1 (fun x3_17 => ht_lp8 (fX9_partnerFor_b41 RM) FU p0 p1 x3_17 (-3 : Int32) (0 : Int32) o_16.2.1 o_16.2.2 o_15)))))))
set_option maxHeartbeats 1000000 in
set_option maxRecDepth 100000 in
theorem ctX9_partnerFor (l : Launch) (D : va_G) (K : Nat → ClassId) (jM : Nat) (aM : Nat → Nat) (RM : ModV) (p0 : Int32) (p1 : Int32) (o : (Int32 × AI × AI × AI)) (hf : fX9_partnerFor RM p0 p1 = some o) (sz : Nat) : Met l yX9_partnerFor wsX9_partnerFor rmX9_partnerFor (ht_Pre D K [.ref jM, .int p0, .int p1] (wMo K jM aM RM.s RM.held RM.aside RM.before RM.isHeld RM.tape RM.taped RM.token RM.frm RM.to RM.value RM.isWrong RM.unpaired RM.bestSound RM.bestWay RM.rows RM.rowN RM.sortOf RM.sizeOf RM.numbers RM.holdsWhat RM.holdsWhich RM.holdsMany RM.bodies RM.ran RM.actKind RM.actN RM.actA RM.isParted) sz) (ht_Qi D K (wMo K jM aM o.2.1 RM.held o.2.2.1 RM.before RM.isHeld RM.tape RM.taped RM.token RM.frm RM.to RM.value RM.isWrong o.2.2.2 RM.bestSound RM.bestWay RM.rows RM.rowN RM.sortOf RM.sizeOf RM.numbers RM.holdsWhat RM.holdsWhich RM.holdsMany RM.bodies RM.ran RM.actKind RM.actN RM.actA RM.isParted) o.1 (va_A (wMo K jM aM RM.s RM.held RM.aside RM.before RM.isHeld RM.tape RM.taped RM.token RM.frm RM.to RM.value RM.isWrong RM.unpaired RM.bestSound RM.bestWay RM.rows RM.rowN RM.sortOf RM.sizeOf RM.numbers RM.holdsWhat RM.holdsWhich RM.holdsMany RM.bodies RM.ran RM.actKind RM.actN RM.actA RM.isParted) sz)) 0 0 (va_A (wMo K jM aM RM.s RM.held RM.aside RM.before RM.isHeld RM.tape RM.taped RM.token RM.frm RM.to RM.value RM.isWrong RM.unpaired RM.bestSound RM.bestWay RM.rows RM.rowN RM.sortOf RM.sizeOf RM.numbers RM.holdsWhat RM.holdsWhich RM.holdsMany RM.bodies RM.ran RM.actKind RM.actN RM.actA RM.isParted) sz) := by
  refine ht_enter (Qf := ht_Qi D K (wMo K jM aM o.2.1 RM.held o.2.2.1 RM.before RM.isHeld RM.tape RM.taped RM.token RM.frm RM.to RM.value RM.isWrong o.2.2.2 RM.bestSound RM.bestWay RM.rows RM.rowN RM.sortOf RM.sizeOf RM.numbers RM.holdsWhat RM.holdsWhich RM.holdsMany RM.bodies RM.ran RM.actKind RM.actN RM.actA RM.isParted) o.1) (cc := cX9_partnerFor) (maxL := 7) (rt := (some .int)) (by decide) rfl (Nat.le_of_ble_eq_true rfl) ?_ sz
  intro p e s m below meth c A Q H locs ls hQ hx hb hr hlk hmn hml hown hts hA hK hP hD hS hl
  have hown : s.vm.findClass RX9 = some m.cls := hown
  have hF : CallFix p m c cX9_partnerFor 7 s ([.ref jM, .int p0, .int p1] : List Value).toArray wsX9_partnerFor RX9 := ⟨hx, hb, hml, hown, hts⟩
  have hl : lv_has ls 7 [(0, .ref jM), (1, .int p0), (2, .int p1)] := hl
  have iw9 : ∀ w ∈ u_ws RX9 TX9 29, w ∈ wsX9_partnerFor := by decide +kernel
  have kw1 := hts (.fieldLink RX9 25 "HeldTonguesModel" "unpaired" "[I") (by decide +kernel)
  have kw2 := hts (.fieldLink RX9 7 "HeldTonguesModel" "s" "[I") (by decide +kernel)
  have b111 : ∀ (x4 : Int32) (vM_s : AI) (vM_aside : AI) (vM_unpaired : AI) (H : Heap) (locs : List Loc) (ls : Array Slot), fX9_partnerFor_b111 RM x4 vM_s vM_aside vM_unpaired = some o → va_P D vwCl (wMo K jM aM vM_s RM.held vM_aside RM.before RM.isHeld RM.tape RM.taped RM.token RM.frm RM.to RM.value RM.isWrong vM_unpaired RM.bestSound RM.bestWay RM.rows RM.rowN RM.sortOf RM.sizeOf RM.numbers RM.holdsWhat RM.holdsWhich RM.holdsMany RM.bodies RM.ran RM.actKind RM.actN RM.actA RM.isParted) H → va_D A (wMo K jM aM vM_s RM.held vM_aside RM.before RM.isHeld RM.tape RM.taped RM.token RM.frm RM.to RM.value RM.isWrong vM_unpaired RM.bestSound RM.bestWay RM.rows RM.rowN RM.sortOf RM.sizeOf RM.numbers RM.holdsWhat RM.holdsWhich RM.holdsMany RM.bodies RM.ran RM.actKind RM.actN RM.actA RM.isParted) → va_S A s.heap H locs → lv_has ls 7 [(4, .int x4)] → W p l e (headSpec wsX9_partnerFor rmX9_partnerFor).room s m ([.ref jM, .int p0, .int p1] : List Value).toArray below meth c H locs 0 0 Q (F0 m 111 ls []) := by
    intro x4 vM_s vM_aside vM_unpaired H locs ls hf hP hD hS hl
    delta fX9_partnerFor_b111 at hf
    refine lv_iload hx hb dX9_partnerFor_111 (lv_at hl 0 rfl) ?_
    have ho := Option.some.inj hf
    subst ho; subst hQ
    exact ht_iret hx hb hr hlk rfl hK hP hD hS dX9_partnerFor_113
  have b105 : ∀ (k41 : Int32 → Int32 → Int32 → Int32 → Int32 → AI → AI → AI → Option (Int32 × AI × AI × AI)) (hk41 : ∀ (x1 : Int32) (x2 : Int32) (x3 : Int32) (x4 : Int32) (x5 : Int32) (vM_s : AI) (vM_aside : AI) (vM_unpaired : AI) (H : Heap) (locs : List Loc) (ls : Array Slot), k41 x1 x2 x3 x4 x5 vM_s vM_aside vM_unpaired = some o → va_P D vwCl (wMo K jM aM vM_s RM.held vM_aside RM.before RM.isHeld RM.tape RM.taped RM.token RM.frm RM.to RM.value RM.isWrong vM_unpaired RM.bestSound RM.bestWay RM.rows RM.rowN RM.sortOf RM.sizeOf RM.numbers RM.holdsWhat RM.holdsWhich RM.holdsMany RM.bodies RM.ran RM.actKind RM.actN RM.actA RM.isParted) H → va_D A (wMo K jM aM vM_s RM.held vM_aside RM.before RM.isHeld RM.tape RM.taped RM.token RM.frm RM.to RM.value RM.isWrong vM_unpaired RM.bestSound RM.bestWay RM.rows RM.rowN RM.sortOf RM.sizeOf RM.numbers RM.holdsWhat RM.holdsWhich RM.holdsMany RM.bodies RM.ran RM.actKind RM.actN RM.actA RM.isParted) → va_S A s.heap H locs → lv_has ls 7 [(0, .ref jM), (1, .int x1), (2, .int x2), (3, .int x3), (4, .int x4), (5, .int x5)] → W p l e (headSpec wsX9_partnerFor rmX9_partnerFor).room s m ([.ref jM, .int p0, .int p1] : List Value).toArray below meth c H locs 0 0 Q (F0 m 41 ls [])) (x1 : Int32) (x2 : Int32) (x3 : Int32) (x4 : Int32) (x5 : Int32) (vM_s : AI) (vM_aside : AI) (vM_unpaired : AI) (H : Heap) (locs : List Loc) (ls : Array Slot), fX9_partnerFor_b105 RM k41 x1 x2 x3 x4 x5 vM_s vM_aside vM_unpaired = some o → va_P D vwCl (wMo K jM aM vM_s RM.held vM_aside RM.before RM.isHeld RM.tape RM.taped RM.token RM.frm RM.to RM.value RM.isWrong vM_unpaired RM.bestSound RM.bestWay RM.rows RM.rowN RM.sortOf RM.sizeOf RM.numbers RM.holdsWhat RM.holdsWhich RM.holdsMany RM.bodies RM.ran RM.actKind RM.actN RM.actA RM.isParted) H → va_D A (wMo K jM aM vM_s RM.held vM_aside RM.before RM.isHeld RM.tape RM.taped RM.token RM.frm RM.to RM.value RM.isWrong vM_unpaired RM.bestSound RM.bestWay RM.rows RM.rowN RM.sortOf RM.sizeOf RM.numbers RM.holdsWhat RM.holdsWhich RM.holdsMany RM.bodies RM.ran RM.actKind RM.actN RM.actA RM.isParted) → va_S A s.heap H locs → lv_has ls 7 [(0, .ref jM), (1, .int x1), (2, .int x2), (3, .int x3), (4, .int x4), (5, .int x5)] → W p l e (headSpec wsX9_partnerFor rmX9_partnerFor).room s m ([.ref jM, .int p0, .int p1] : List Value).toArray below meth c H locs 0 0 Q (F0 m 105 ls []) := by
    intro k41 hk41 x1 x2 x3 x4 x5 vM_s vM_aside vM_unpaired H locs ls hf hP hD hS hl
    delta fX9_partnerFor_b105 at hf
    obtain ⟨x5_1, ex5_1, hf⟩ := ht_nm_ob hf
    refine lv_iinc (v := x5_1) (lv' := [(5, .int x5_1), (0, .ref jM), (1, .int x1), (2, .int x2), (3, .int x3), (4, .int x4)]) hx hb dX9_partnerFor_105 hl (k := 5) rfl (by rw [ex5_1]; rfl) (by decide) rfl (fun ls hl => ?_)
    refine lv_goto (tgt := 41) hx hb dX9_partnerFor_108 (by decide) ?_
    exact hk41 x1 x2 x3 x4 x5_1 vM_s vM_aside vM_unpaired _ _ _ hf hP hD hS (lv_sub hl [1, 2, 3, 4, 5, 0] rfl)
  have b85 : ∀ (k41 : Int32 → Int32 → Int32 → Int32 → Int32 → AI → AI → AI → Option (Int32 × AI × AI × AI)) (hk41 : ∀ (x1 : Int32) (x2 : Int32) (x3 : Int32) (x4 : Int32) (x5 : Int32) (vM_s : AI) (vM_aside : AI) (vM_unpaired : AI) (H : Heap) (locs : List Loc) (ls : Array Slot), k41 x1 x2 x3 x4 x5 vM_s vM_aside vM_unpaired = some o → va_P D vwCl (wMo K jM aM vM_s RM.held vM_aside RM.before RM.isHeld RM.tape RM.taped RM.token RM.frm RM.to RM.value RM.isWrong vM_unpaired RM.bestSound RM.bestWay RM.rows RM.rowN RM.sortOf RM.sizeOf RM.numbers RM.holdsWhat RM.holdsWhich RM.holdsMany RM.bodies RM.ran RM.actKind RM.actN RM.actA RM.isParted) H → va_D A (wMo K jM aM vM_s RM.held vM_aside RM.before RM.isHeld RM.tape RM.taped RM.token RM.frm RM.to RM.value RM.isWrong vM_unpaired RM.bestSound RM.bestWay RM.rows RM.rowN RM.sortOf RM.sizeOf RM.numbers RM.holdsWhat RM.holdsWhich RM.holdsMany RM.bodies RM.ran RM.actKind RM.actN RM.actA RM.isParted) → va_S A s.heap H locs → lv_has ls 7 [(0, .ref jM), (1, .int x1), (2, .int x2), (3, .int x3), (4, .int x4), (5, .int x5)] → W p l e (headSpec wsX9_partnerFor rmX9_partnerFor).room s m ([.ref jM, .int p0, .int p1] : List Value).toArray below meth c H locs 0 0 Q (F0 m 41 ls [])) (x1 : Int32) (x2 : Int32) (x3 : Int32) (x5 : Int32) (x6 : Int32) (t0 : Int32) (vM_s : AI) (vM_aside : AI) (vM_unpaired : AI) (H : Heap) (locs : List Loc) (ls : Array Slot), fX9_partnerFor_b85 RM k41 x1 x2 x3 x5 x6 t0 vM_s vM_aside vM_unpaired = some o → va_P D vwCl (wMo K jM aM vM_s RM.held vM_aside RM.before RM.isHeld RM.tape RM.taped RM.token RM.frm RM.to RM.value RM.isWrong vM_unpaired RM.bestSound RM.bestWay RM.rows RM.rowN RM.sortOf RM.sizeOf RM.numbers RM.holdsWhat RM.holdsWhich RM.holdsMany RM.bodies RM.ran RM.actKind RM.actN RM.actA RM.isParted) H → va_D A (wMo K jM aM vM_s RM.held vM_aside RM.before RM.isHeld RM.tape RM.taped RM.token RM.frm RM.to RM.value RM.isWrong vM_unpaired RM.bestSound RM.bestWay RM.rows RM.rowN RM.sortOf RM.sizeOf RM.numbers RM.holdsWhat RM.holdsWhich RM.holdsMany RM.bodies RM.ran RM.actKind RM.actN RM.actA RM.isParted) → va_S A s.heap H locs → lv_has ls 7 [(0, .ref jM), (1, .int x1), (2, .int x2), (3, .int x3), (5, .int x5), (6, .int x6)] → W p l e (headSpec wsX9_partnerFor rmX9_partnerFor).room s m ([.ref jM, .int p0, .int p1] : List Value).toArray below meth c H locs 0 0 Q (F0 m 85 ls [.int t0]) := by
    intro k41 hk41 x1 x2 x3 x5 x6 t0 vM_s vM_aside vM_unpaired H locs ls hf hP hD hS hl
    delta fX9_partnerFor_b85 at hf
    refine lv_istore (lv' := [(4, .int t0), (0, .ref jM), (1, .int x1), (2, .int x2), (3, .int x3), (5, .int x5), (6, .int x6)]) hx hb dX9_partnerFor_85 hl (by decide) rfl (fun ls hl => ?_)
    refine lv_iload_n hx hb dX9_partnerFor_87 rfl (lv_at hl 4 rfl) ?_
    refine lv_iload hx hb dX9_partnerFor_88 (lv_at hl 6 rfl) ?_
    obtain ⟨o_2, ho_2, hf⟩ := ht_bn_ob hf
    refine ht_callSi (r := o_2) (rest := []) (As := [.int x3, .int x6]) (wc := []) (wr := (wMo K jM aM vM_s RM.held vM_aside RM.before RM.isHeld RM.tape RM.taped RM.token RM.frm RM.to RM.value RM.isWrong vM_unpaired RM.bestSound RM.bestWay RM.rows RM.rowN RM.sortOf RM.sizeOf RM.numbers RM.holdsWhat RM.holdsWhich RM.holdsMany RM.bodies RM.ran RM.actKind RM.actN RM.actA RM.isParted)) (w1 := []) (w2 := (wMo K jM aM vM_s RM.held vM_aside RM.before RM.isHeld RM.tape RM.taped RM.token RM.frm RM.to RM.value RM.isWrong vM_unpaired RM.bestSound RM.bestWay RM.rows RM.rowN RM.sortOf RM.sizeOf RM.numbers RM.holdsWhat RM.holdsWhich RM.holdsMany RM.bodies RM.ran RM.actKind RM.actN RM.actA RM.isParted)) hF (ctX9_greatest l D K x3 x6 o_2 ho_2 H.size) (va_cwS 2 hts gX9_partnerFor_X9_greatest rfl rfl rfl hdX9_greatest ⟨Nat.le_of_ble_eq_true rfl, Nat.le_of_ble_eq_true rfl⟩) hK hP hD hS hA [] [0, 1, 2, 3, 4, 5, 6, 7, 8, 9, 10, 11, 12, 13, 14, 15] rfl rfl (by decide) (by decide) (by decide) [0, 1, 2, 3, 4, 5, 6, 7, 8, 9, 10, 11, 12, 13, 14, 15] rfl (by decide) rfl hl.1 rfl (Nat.le_of_ble_eq_true rfl) dX9_partnerFor_90 ⟨Nat.zero_le _, Nat.zero_le _⟩ (fun H locs hP hD hS => ?_)
    refine lv_istore_n (lv' := [(3, .int o_2), (4, .int t0), (0, .ref jM), (1, .int x1), (2, .int x2), (5, .int x5), (6, .int x6)]) hx hb dX9_partnerFor_93 rfl hl (by decide) rfl (fun ls hl => ?_)
    refine lv_aload_n hx hb dX9_partnerFor_94 rfl (lv_at hl 2 rfl) ?_
    refine va_get (D := D) (ci := 9) (v := .ref (aM 5)) (C := RX9) (T := TX9) (N := 29) hx hb hts iw9 hown hK hP 0 rfl rfl 12 (by decide) kw1 (fun _ h9 => h9) rfl dX9_partnerFor_95 ?_
    refine lv_aload_n hx hb dX9_partnerFor_98 rfl (lv_at hl 2 rfl) ?_
    refine va_get (D := D) (ci := 9) (v := .ref (aM 0)) (C := RX9) (T := TX9) (N := 29) hx hb hts iw9 hown hK hP 0 rfl rfl 0 (by decide) kw2 (fun _ h9 => h9) rfl dX9_partnerFor_99 ?_
    obtain ⟨o_3, ho_3, hf⟩ := ht_bn_ob hf
    refine ht_callSv (rest := []) (As := [.ref (aM 5), .ref (aM 0)]) (wc := (wAr K 57 (aM 5) vM_unpaired ++ (wAr K 57 (aM 0) vM_s))) (wr := ([(jM, .inr (9, [.ref (aM 0), .ref (aM 1), .ref (aM 2), .ref (aM 3), .int RM.isHeld, .ref (aM 4), .int RM.taped, .int RM.token, .int RM.frm, .int RM.to, .int RM.value, .int RM.isWrong, .ref (aM 5), .int RM.bestSound, .ref (aM 6), .ref (aM 7), .int RM.rowN, .ref (aM 8), .ref (aM 9), .ref (aM 10), .ref (aM 11), .ref (aM 12), .ref (aM 13), .ref (aM 14), .int RM.ran, .int RM.actKind, .int RM.actN, .int RM.actA, .int RM.isParted]))] ++ ([(aM 1, .inl (K 1, 57, .inl RM.held))] ++ ([(aM 2, .inl (K 1, 57, .inl vM_aside))] ++ ([(aM 3, .inl (K 1, 57, .inl RM.before))] ++ ([(aM 4, .inl (K 1, 200, .inl RM.tape))] ++ ([(aM 6, .inl (K 1, 8, .inl RM.bestWay))] ++ ([(aM 7, .inl (K 1, 30, .inl RM.rows))] ++ ([(aM 8, .inl (K 1, 4, .inl RM.sortOf))] ++ ([(aM 9, .inl (K 1, 4, .inl RM.sizeOf))] ++ ([(aM 10, .inl (K 1, 160, .inl RM.numbers))] ++ ([(aM 11, .inl (K 1, 4, .inl RM.holdsWhat))] ++ ([(aM 12, .inl (K 1, 4, .inl RM.holdsWhich))] ++ ([(aM 13, .inl (K 1, 4, .inl RM.holdsMany))] ++ ([(aM 14, .inl (K 1, 30, .inl RM.bodies))]))))))))))))))) (w1 := (wAr K 57 (aM 5) vM_unpaired ++ (wAr K 57 (aM 0) o_3))) (w2 := (wMo K jM aM o_3 RM.held vM_aside RM.before RM.isHeld RM.tape RM.taped RM.token RM.frm RM.to RM.value RM.isWrong vM_unpaired RM.bestSound RM.bestWay RM.rows RM.rowN RM.sortOf RM.sizeOf RM.numbers RM.holdsWhat RM.holdsWhich RM.holdsMany RM.bodies RM.ran RM.actKind RM.actN RM.actA RM.isParted)) hF (ctX9_copyRow l D K (aM 5) (aM 0) vM_unpaired vM_s o_3 ho_3 H.size) (va_cwS 2 hts gX9_partnerFor_X9_copyRow rfl rfl rfl hdX9_copyRow ⟨Nat.le_of_ble_eq_true rfl, Nat.le_of_ble_eq_true rfl⟩) hK hP hD hS hA [6, 1] [0, 2, 3, 4, 5, 7, 8, 9, 10, 11, 12, 13, 14, 15] rfl rfl (by decide) (by decide) (by decide) [0, 15, 1, 2, 3, 4, 14, 5, 6, 7, 8, 9, 10, 11, 12, 13] rfl (by decide) rfl hl.1 rfl (Nat.le_of_ble_eq_true rfl) dX9_partnerFor_102 ⟨Nat.zero_le _, Nat.zero_le _⟩ (fun H locs hP hD hS => ?_)
    exact b105 _ hk41 x1 x2 o_2 t0 x5 o_3 vM_aside vM_unpaired _ _ _ hf hP hD hS (lv_sub hl [2, 3, 4, 0, 1, 5] rfl)
  have b41 : ∀ (n : Nat) (x1 : Int32) (x2 : Int32) (x3 : Int32) (x4 : Int32) (x5 : Int32) (vM_s : AI) (vM_aside : AI) (vM_unpaired : AI) (H : Heap) (locs : List Loc) (ls : Array Slot), ht_lp8 (fX9_partnerFor_b41 RM) n x1 x2 x3 x4 x5 vM_s vM_aside vM_unpaired = some o → va_P D vwCl (wMo K jM aM vM_s RM.held vM_aside RM.before RM.isHeld RM.tape RM.taped RM.token RM.frm RM.to RM.value RM.isWrong vM_unpaired RM.bestSound RM.bestWay RM.rows RM.rowN RM.sortOf RM.sizeOf RM.numbers RM.holdsWhat RM.holdsWhich RM.holdsMany RM.bodies RM.ran RM.actKind RM.actN RM.actA RM.isParted) H → va_D A (wMo K jM aM vM_s RM.held vM_aside RM.before RM.isHeld RM.tape RM.taped RM.token RM.frm RM.to RM.value RM.isWrong vM_unpaired RM.bestSound RM.bestWay RM.rows RM.rowN RM.sortOf RM.sizeOf RM.numbers RM.holdsWhat RM.holdsWhich RM.holdsMany RM.bodies RM.ran RM.actKind RM.actN RM.actA RM.isParted) → va_S A s.heap H locs → lv_has ls 7 [(0, .ref jM), (1, .int x1), (2, .int x2), (3, .int x3), (4, .int x4), (5, .int x5)] → W p l e (headSpec wsX9_partnerFor rmX9_partnerFor).room s m ([.ref jM, .int p0, .int p1] : List Value).toArray below meth c H locs 0 0 Q (F0 m 41 ls []) := by
    intro n
    induction n with
    | zero =>
      intro x1 x2 x3 x4 x5 vM_s vM_aside vM_unpaired H locs ls hf hP hD hS hl
      cases (show (none : Option (Int32 × AI × AI × AI)) = some o from hf)
    | succ n hk41 =>
      intro x1 x2 x3 x4 x5 vM_s vM_aside vM_unpaired H locs ls hf hP hD hS hl
      replace hf : fX9_partnerFor_b41 RM (ht_lp8 (fX9_partnerFor_b41 RM) n) x1 x2 x3 x4 x5 vM_s vM_aside vM_unpaired = some o := hf
      delta fX9_partnerFor_b41 at hf
      refine lv_iload hx hb dX9_partnerFor_41 (lv_at hl 5 rfl) ?_
      refine lv_aload_n hx hb dX9_partnerFor_43 rfl (lv_at hl 0 rfl) ?_
      refine va_get (D := D) (ci := 9) (v := .ref (aM 0)) (C := RX9) (T := TX9) (N := 29) hx hb hts iw9 hown hK hP 0 rfl rfl 0 (by decide) kw2 (fun _ h9 => h9) rfl dX9_partnerFor_44 ?_
      refine lv_iconst (v := 0) hx hb dX9_partnerFor_47 (by decide) ?_
      obtain ⟨g_4, hf⟩ := ht_gd_ob hf
      refine va_iald hx hb hK hP 1 1 rfl rfl (ht_ix_in g_4) dX9_partnerFor_48 ?_
      refine lv_icmp_ge (tgt := 111) hx hb dX9_partnerFor_49 (by decide) (fun c_5 => ?_) (fun c_5 => ?_)
      · replace hf := ht_t c_5 hf
        exact b111  x4 vM_s vM_aside vM_unpaired _ _ _ hf hP hD hS (lv_sub hl [4] rfl)
      · replace hf := ht_f c_5 hf
        refine lv_iload hx hb dX9_partnerFor_52 (lv_at hl 5 rfl) ?_
        refine lv_iload_n hx hb dX9_partnerFor_54 rfl (lv_at hl 1 rfl) ?_
        refine lv_icmp_eq (tgt := 105) hx hb dX9_partnerFor_55 (by decide) (fun c_6 => ?_) (fun c_6 => ?_)
        · replace hf := ht_t c_6 hf
          exact b105 _ hk41 x1 x2 x3 x4 x5 vM_s vM_aside vM_unpaired _ _ _ hf hP hD hS hl
        · replace hf := ht_f c_6 hf
          refine lv_aload_n hx hb dX9_partnerFor_58 rfl (lv_at hl 0 rfl) ?_
          refine lv_iload_n hx hb dX9_partnerFor_59 rfl (lv_at hl 1 rfl) ?_
          refine lv_iload hx hb dX9_partnerFor_60 (lv_at hl 5 rfl) ?_
          obtain ⟨o_7, ho_7, hf⟩ := ht_bn_ob hf
          refine ht_callVv (rest := []) (As := [.int x1, .int x5]) (wc := (wMo K jM aM vM_s RM.held vM_aside RM.before RM.isHeld RM.tape RM.taped RM.token RM.frm RM.to RM.value RM.isWrong vM_unpaired RM.bestSound RM.bestWay RM.rows RM.rowN RM.sortOf RM.sizeOf RM.numbers RM.holdsWhat RM.holdsWhich RM.holdsMany RM.bodies RM.ran RM.actKind RM.actN RM.actA RM.isParted)) (wr := []) (w1 := (wMo K jM aM o_7 RM.held vM_aside RM.before RM.isHeld RM.tape RM.taped RM.token RM.frm RM.to RM.value RM.isWrong vM_unpaired RM.bestSound RM.bestWay RM.rows RM.rowN RM.sortOf RM.sizeOf RM.numbers RM.holdsWhat RM.holdsWhich RM.holdsMany RM.bodies RM.ran RM.actKind RM.actN RM.actA RM.isParted)) (w2 := (wMo K jM aM o_7 RM.held vM_aside RM.before RM.isHeld RM.tape RM.taped RM.token RM.frm RM.to RM.value RM.isWrong vM_unpaired RM.bestSound RM.bestWay RM.rows RM.rowN RM.sortOf RM.sizeOf RM.numbers RM.holdsWhat RM.holdsWhich RM.holdsMany RM.bodies RM.ran RM.actKind RM.actN RM.actA RM.isParted)) hF (ctX9_pairs l D K jM aM (vM_s, RM.held, vM_aside, RM.before, RM.isHeld, RM.tape, RM.taped, RM.token, RM.frm, RM.to, RM.value, RM.isWrong, vM_unpaired, RM.bestSound, RM.bestWay, RM.rows, RM.rowN, RM.sortOf, RM.sizeOf, RM.numbers, RM.holdsWhat, RM.holdsWhich, RM.holdsMany, RM.bodies, RM.ran, RM.actKind, RM.actN, RM.actA, RM.isParted) x1 x5 o_7 ho_7 H.size) (cwV 2 hts gX9_partnerFor_X9_pairs rfl rfl rfl hdX9_pairs ⟨Nat.le_of_ble_eq_true rfl, Nat.le_of_ble_eq_true rfl⟩) hK hP hD hS hA [0, 1, 2, 3, 4, 5, 6, 7, 8, 9, 10, 11, 12, 13, 14, 15] [] rfl rfl (by decide) (by decide) (by decide) [0, 1, 2, 3, 4, 5, 6, 7, 8, 9, 10, 11, 12, 13, 14, 15] rfl (by decide) (va_recv hK hP (ci := 9) (q0 := 0) rfl rfl) rfl hl.1 rfl (Nat.le_of_ble_eq_true rfl) dX9_partnerFor_62 ⟨Nat.zero_le _, Nat.zero_le _⟩ (fun H locs hP hD hS => ?_)
          refine lv_aload_n hx hb dX9_partnerFor_65 rfl (lv_at hl 0 rfl) ?_
          refine lv_iload_n hx hb dX9_partnerFor_66 rfl (lv_at hl 2 rfl) ?_
          obtain ⟨o_8, ho_8, hf⟩ := ht_bn_ob hf
          refine ht_callVi (r := o_8.1) (rest := []) (As := [.int x2]) (wc := (wMo K jM aM o_7 RM.held vM_aside RM.before RM.isHeld RM.tape RM.taped RM.token RM.frm RM.to RM.value RM.isWrong vM_unpaired RM.bestSound RM.bestWay RM.rows RM.rowN RM.sortOf RM.sizeOf RM.numbers RM.holdsWhat RM.holdsWhich RM.holdsMany RM.bodies RM.ran RM.actKind RM.actN RM.actA RM.isParted)) (wr := []) (w1 := (wMo K jM aM o_8.2.1 RM.held o_8.2.2 RM.before RM.isHeld RM.tape RM.taped RM.token RM.frm RM.to RM.value RM.isWrong vM_unpaired RM.bestSound RM.bestWay RM.rows RM.rowN RM.sortOf RM.sizeOf RM.numbers RM.holdsWhat RM.holdsWhich RM.holdsMany RM.bodies RM.ran RM.actKind RM.actN RM.actA RM.isParted)) (w2 := (wMo K jM aM o_8.2.1 RM.held o_8.2.2 RM.before RM.isHeld RM.tape RM.taped RM.token RM.frm RM.to RM.value RM.isWrong vM_unpaired RM.bestSound RM.bestWay RM.rows RM.rowN RM.sortOf RM.sizeOf RM.numbers RM.holdsWhat RM.holdsWhich RM.holdsMany RM.bodies RM.ran RM.actKind RM.actN RM.actA RM.isParted)) hF (ctX9_soundBy l D K jM aM (o_7, RM.held, vM_aside, RM.before, RM.isHeld, RM.tape, RM.taped, RM.token, RM.frm, RM.to, RM.value, RM.isWrong, vM_unpaired, RM.bestSound, RM.bestWay, RM.rows, RM.rowN, RM.sortOf, RM.sizeOf, RM.numbers, RM.holdsWhat, RM.holdsWhich, RM.holdsMany, RM.bodies, RM.ran, RM.actKind, RM.actN, RM.actA, RM.isParted) x2 o_8 ho_8 H.size) (cwV 1 hts gX9_partnerFor_X9_soundBy rfl rfl rfl hdX9_soundBy ⟨Nat.le_of_ble_eq_true rfl, Nat.le_of_ble_eq_true rfl⟩) hK hP hD hS hA [0, 1, 2, 3, 4, 5, 6, 7, 8, 9, 10, 11, 12, 13, 14, 15] [] rfl rfl (by decide) (by decide) (by decide) [0, 1, 2, 3, 4, 5, 6, 7, 8, 9, 10, 11, 12, 13, 14, 15] rfl (by decide) (va_recv hK hP (ci := 9) (q0 := 0) rfl rfl) rfl hl.1 rfl (Nat.le_of_ble_eq_true rfl) dX9_partnerFor_67 ⟨Nat.zero_le _, Nat.zero_le _⟩ (fun H locs hP hD hS => ?_)
          obtain ⟨x6_9, ex6_9, hf⟩ := ht_nm_ob hf
          rw [← ex6_9]
          refine lv_istore (lv' := [(6, .int x6_9), (0, .ref jM), (1, .int x1), (2, .int x2), (3, .int x3), (4, .int x4), (5, .int x5)]) hx hb dX9_partnerFor_70 hl (by decide) rfl (fun ls hl => ?_)
          refine lv_iload hx hb dX9_partnerFor_72 (lv_at hl 0 rfl) ?_
          refine lv_iload_n hx hb dX9_partnerFor_74 rfl (lv_at hl 4 rfl) ?_
          refine lv_icmp_le (tgt := 83) hx hb dX9_partnerFor_75 (by decide) (fun c_10 => ?_) (fun c_10 => ?_)
          · replace hf := ht_t c_10 hf
            refine lv_iload hx hb dX9_partnerFor_83 (lv_at hl 5 rfl) ?_
            exact b85 _ hk41 x1 x2 x3 x5 x6_9 x4 o_8.2.1 o_8.2.2 vM_unpaired _ _ _ hf hP hD hS (lv_sub hl [1, 2, 3, 4, 6, 0] rfl)
          · replace hf := ht_f c_10 hf
            refine lv_iload hx hb dX9_partnerFor_78 (lv_at hl 6 rfl) ?_
            refine lv_goto (tgt := 85) hx hb dX9_partnerFor_80 (by decide) ?_
            exact b85 _ hk41 x1 x2 x3 x5 x6_9 x5 o_8.2.1 o_8.2.2 vM_unpaired _ _ _ hf hP hD hS (lv_sub hl [1, 2, 3, 4, 6, 0] rfl)
  delta fX9_partnerFor at hf
  refine lv_aload_n hx hb dX9_partnerFor_0 rfl (lv_at hl 0 rfl) ?_
  refine lv_iload_n hx hb dX9_partnerFor_1 rfl (lv_at hl 1 rfl) ?_
  obtain ⟨o_11, ho_11, hf⟩ := ht_bn_ob hf
  refine ht_callVi (r := o_11) (rest := []) (As := [.int p0]) (wc := (wMo K jM aM RM.s RM.held RM.aside RM.before RM.isHeld RM.tape RM.taped RM.token RM.frm RM.to RM.value RM.isWrong RM.unpaired RM.bestSound RM.bestWay RM.rows RM.rowN RM.sortOf RM.sizeOf RM.numbers RM.holdsWhat RM.holdsWhich RM.holdsMany RM.bodies RM.ran RM.actKind RM.actN RM.actA RM.isParted)) (wr := []) (w1 := (wMo K jM aM RM.s RM.held RM.aside RM.before RM.isHeld RM.tape RM.taped RM.token RM.frm RM.to RM.value RM.isWrong RM.unpaired RM.bestSound RM.bestWay RM.rows RM.rowN RM.sortOf RM.sizeOf RM.numbers RM.holdsWhat RM.holdsWhich RM.holdsMany RM.bodies RM.ran RM.actKind RM.actN RM.actA RM.isParted)) (w2 := (wMo K jM aM RM.s RM.held RM.aside RM.before RM.isHeld RM.tape RM.taped RM.token RM.frm RM.to RM.value RM.isWrong RM.unpaired RM.bestSound RM.bestWay RM.rows RM.rowN RM.sortOf RM.sizeOf RM.numbers RM.holdsWhat RM.holdsWhich RM.holdsMany RM.bodies RM.ran RM.actKind RM.actN RM.actA RM.isParted)) hF (ctX9_isOne l D K jM aM RM p0 o_11 ho_11 H.size) (cwV 1 hts gX9_partnerFor_X9_isOne rfl rfl rfl hdX9_isOne ⟨Nat.le_of_ble_eq_true rfl, Nat.le_of_ble_eq_true rfl⟩) hK hP hD hS hA [0, 1, 2, 3, 4, 5, 6, 7, 8, 9, 10, 11, 12, 13, 14, 15] [] rfl rfl (by decide) (by decide) (by decide) [0, 1, 2, 3, 4, 5, 6, 7, 8, 9, 10, 11, 12, 13, 14, 15] rfl (by decide) (va_recv hK hP (ci := 9) (q0 := 0) rfl rfl) rfl hl.1 rfl (Nat.le_of_ble_eq_true rfl) dX9_partnerFor_2 ⟨Nat.zero_le _, Nat.zero_le _⟩ (fun H locs hP hD hS => ?_)
  refine lv_if_eq (tgt := 15) hx hb dX9_partnerFor_5 (by decide) (fun c_12 => ?_) (fun c_12 => ?_)
  · replace hf := ht_t c_12 hf
    refine lv_iconst (v := -1) hx hb dX9_partnerFor_15 (by decide) ?_
    have ho := Option.some.inj hf
    subst ho; subst hQ
    exact ht_iret hx hb hr hlk rfl hK hP hD hS dX9_partnerFor_16
  · replace hf := ht_f c_12 hf
    refine lv_iload_n hx hb dX9_partnerFor_8 rfl (lv_at hl 2 rfl) ?_
    obtain ⟨o_13, ho_13, hf⟩ := ht_bn_ob hf
    refine ht_callSi (r := o_13) (rest := []) (As := [.int p1]) (wc := []) (wr := (wMo K jM aM RM.s RM.held RM.aside RM.before RM.isHeld RM.tape RM.taped RM.token RM.frm RM.to RM.value RM.isWrong RM.unpaired RM.bestSound RM.bestWay RM.rows RM.rowN RM.sortOf RM.sizeOf RM.numbers RM.holdsWhat RM.holdsWhich RM.holdsMany RM.bodies RM.ran RM.actKind RM.actN RM.actA RM.isParted)) (w1 := []) (w2 := (wMo K jM aM RM.s RM.held RM.aside RM.before RM.isHeld RM.tape RM.taped RM.token RM.frm RM.to RM.value RM.isWrong RM.unpaired RM.bestSound RM.bestWay RM.rows RM.rowN RM.sortOf RM.sizeOf RM.numbers RM.holdsWhat RM.holdsWhich RM.holdsMany RM.bodies RM.ran RM.actKind RM.actN RM.actA RM.isParted)) hF (ctX9_isShort l D K p1 o_13 ho_13 H.size) (va_cwS 1 hts gX9_partnerFor_X9_isShort rfl rfl rfl hdX9_isShort ⟨Nat.le_of_ble_eq_true rfl, Nat.le_of_ble_eq_true rfl⟩) hK hP hD hS hA [] [0, 1, 2, 3, 4, 5, 6, 7, 8, 9, 10, 11, 12, 13, 14, 15] rfl rfl (by decide) (by decide) (by decide) [0, 1, 2, 3, 4, 5, 6, 7, 8, 9, 10, 11, 12, 13, 14, 15] rfl (by decide) rfl hl.1 rfl (Nat.le_of_ble_eq_true rfl) dX9_partnerFor_9 ⟨Nat.zero_le _, Nat.zero_le _⟩ (fun H locs hP hD hS => ?_)
    refine lv_if_ne (tgt := 17) hx hb dX9_partnerFor_12 (by decide) (fun c_14 => ?_) (fun c_14 => ?_)
    · replace hf := ht_f c_14 hf
      refine lv_aload_n hx hb dX9_partnerFor_17 rfl (lv_at hl 0 rfl) ?_
      refine va_get (D := D) (ci := 9) (v := .ref (aM 0)) (C := RX9) (T := TX9) (N := 29) hx hb hts iw9 hown hK hP 0 rfl rfl 0 (by decide) kw2 (fun _ h9 => h9) rfl dX9_partnerFor_18 ?_
      refine lv_aload_n hx hb dX9_partnerFor_21 rfl (lv_at hl 0 rfl) ?_
      refine va_get (D := D) (ci := 9) (v := .ref (aM 5)) (C := RX9) (T := TX9) (N := 29) hx hb hts iw9 hown hK hP 0 rfl rfl 12 (by decide) kw1 (fun _ h9 => h9) rfl dX9_partnerFor_22 ?_
      obtain ⟨o_15, ho_15, hf⟩ := ht_bn_ob hf
      refine ht_callSv (rest := []) (As := [.ref (aM 0), .ref (aM 5)]) (wc := (wAr K 57 (aM 0) RM.s ++ (wAr K 57 (aM 5) RM.unpaired))) (wr := ([(jM, .inr (9, [.ref (aM 0), .ref (aM 1), .ref (aM 2), .ref (aM 3), .int RM.isHeld, .ref (aM 4), .int RM.taped, .int RM.token, .int RM.frm, .int RM.to, .int RM.value, .int RM.isWrong, .ref (aM 5), .int RM.bestSound, .ref (aM 6), .ref (aM 7), .int RM.rowN, .ref (aM 8), .ref (aM 9), .ref (aM 10), .ref (aM 11), .ref (aM 12), .ref (aM 13), .ref (aM 14), .int RM.ran, .int RM.actKind, .int RM.actN, .int RM.actA, .int RM.isParted]))] ++ ([(aM 1, .inl (K 1, 57, .inl RM.held))] ++ ([(aM 2, .inl (K 1, 57, .inl RM.aside))] ++ ([(aM 3, .inl (K 1, 57, .inl RM.before))] ++ ([(aM 4, .inl (K 1, 200, .inl RM.tape))] ++ ([(aM 6, .inl (K 1, 8, .inl RM.bestWay))] ++ ([(aM 7, .inl (K 1, 30, .inl RM.rows))] ++ ([(aM 8, .inl (K 1, 4, .inl RM.sortOf))] ++ ([(aM 9, .inl (K 1, 4, .inl RM.sizeOf))] ++ ([(aM 10, .inl (K 1, 160, .inl RM.numbers))] ++ ([(aM 11, .inl (K 1, 4, .inl RM.holdsWhat))] ++ ([(aM 12, .inl (K 1, 4, .inl RM.holdsWhich))] ++ ([(aM 13, .inl (K 1, 4, .inl RM.holdsMany))] ++ ([(aM 14, .inl (K 1, 30, .inl RM.bodies))]))))))))))))))) (w1 := (wAr K 57 (aM 0) RM.s ++ (wAr K 57 (aM 5) o_15))) (w2 := (wMo K jM aM RM.s RM.held RM.aside RM.before RM.isHeld RM.tape RM.taped RM.token RM.frm RM.to RM.value RM.isWrong o_15 RM.bestSound RM.bestWay RM.rows RM.rowN RM.sortOf RM.sizeOf RM.numbers RM.holdsWhat RM.holdsWhich RM.holdsMany RM.bodies RM.ran RM.actKind RM.actN RM.actA RM.isParted)) hF (ctX9_copyRow l D K (aM 0) (aM 5) RM.s RM.unpaired o_15 ho_15 H.size) (va_cwS 2 hts gX9_partnerFor_X9_copyRow rfl rfl rfl hdX9_copyRow ⟨Nat.le_of_ble_eq_true rfl, Nat.le_of_ble_eq_true rfl⟩) hK hP hD hS hA [1, 6] [0, 2, 3, 4, 5, 7, 8, 9, 10, 11, 12, 13, 14, 15] rfl rfl (by decide) (by decide) (by decide) [0, 14, 1, 2, 3, 4, 15, 5, 6, 7, 8, 9, 10, 11, 12, 13] rfl (by decide) rfl hl.1 rfl (Nat.le_of_ble_eq_true rfl) dX9_partnerFor_25 ⟨Nat.zero_le _, Nat.zero_le _⟩ (fun H locs hP hD hS => ?_)
      refine lv_aload_n hx hb dX9_partnerFor_28 rfl (lv_at hl 0 rfl) ?_
      refine lv_iload_n hx hb dX9_partnerFor_29 rfl (lv_at hl 2 rfl) ?_
      obtain ⟨o_16, ho_16, hf⟩ := ht_bn_ob hf
      refine ht_callVi (r := o_16.1) (rest := []) (As := [.int p1]) (wc := (wMo K jM aM RM.s RM.held RM.aside RM.before RM.isHeld RM.tape RM.taped RM.token RM.frm RM.to RM.value RM.isWrong o_15 RM.bestSound RM.bestWay RM.rows RM.rowN RM.sortOf RM.sizeOf RM.numbers RM.holdsWhat RM.holdsWhich RM.holdsMany RM.bodies RM.ran RM.actKind RM.actN RM.actA RM.isParted)) (wr := []) (w1 := (wMo K jM aM o_16.2.1 RM.held o_16.2.2 RM.before RM.isHeld RM.tape RM.taped RM.token RM.frm RM.to RM.value RM.isWrong o_15 RM.bestSound RM.bestWay RM.rows RM.rowN RM.sortOf RM.sizeOf RM.numbers RM.holdsWhat RM.holdsWhich RM.holdsMany RM.bodies RM.ran RM.actKind RM.actN RM.actA RM.isParted)) (w2 := (wMo K jM aM o_16.2.1 RM.held o_16.2.2 RM.before RM.isHeld RM.tape RM.taped RM.token RM.frm RM.to RM.value RM.isWrong o_15 RM.bestSound RM.bestWay RM.rows RM.rowN RM.sortOf RM.sizeOf RM.numbers RM.holdsWhat RM.holdsWhich RM.holdsMany RM.bodies RM.ran RM.actKind RM.actN RM.actA RM.isParted)) hF (ctX9_soundBy l D K jM aM (RM.s, RM.held, RM.aside, RM.before, RM.isHeld, RM.tape, RM.taped, RM.token, RM.frm, RM.to, RM.value, RM.isWrong, o_15, RM.bestSound, RM.bestWay, RM.rows, RM.rowN, RM.sortOf, RM.sizeOf, RM.numbers, RM.holdsWhat, RM.holdsWhich, RM.holdsMany, RM.bodies, RM.ran, RM.actKind, RM.actN, RM.actA, RM.isParted) p1 o_16 ho_16 H.size) (cwV 1 hts gX9_partnerFor_X9_soundBy rfl rfl rfl hdX9_soundBy ⟨Nat.le_of_ble_eq_true rfl, Nat.le_of_ble_eq_true rfl⟩) hK hP hD hS hA [0, 1, 2, 3, 4, 5, 6, 7, 8, 9, 10, 11, 12, 13, 14, 15] [] rfl rfl (by decide) (by decide) (by decide) [0, 1, 2, 3, 4, 5, 6, 7, 8, 9, 10, 11, 12, 13, 14, 15] rfl (by decide) (va_recv hK hP (ci := 9) (q0 := 0) rfl rfl) rfl hl.1 rfl (Nat.le_of_ble_eq_true rfl) dX9_partnerFor_30 ⟨Nat.zero_le _, Nat.zero_le _⟩ (fun H locs hP hD hS => ?_)
      obtain ⟨x3_17, ex3_17, hf⟩ := ht_nm_ob hf
      rw [← ex3_17]
      refine lv_istore_n (lv' := [(3, .int x3_17), (0, .ref jM), (1, .int p0), (2, .int p1)]) hx hb dX9_partnerFor_33 rfl hl (by decide) rfl (fun ls hl => ?_)
      refine lv_bipush (v := -3) hx hb dX9_partnerFor_34 (by decide) ?_
      refine lv_istore (lv' := [(4, .int (-3 : Int32)), (3, .int x3_17), (0, .ref jM), (1, .int p0), (2, .int p1)]) hx hb dX9_partnerFor_36 hl (by decide) rfl (fun ls hl => ?_)
      refine lv_iconst (v := 0) hx hb dX9_partnerFor_38 (by decide) ?_
      refine lv_istore (lv' := [(5, .int (0 : Int32)), (4, .int (-3 : Int32)), (3, .int x3_17), (0, .ref jM), (1, .int p0), (2, .int p1)]) hx hb dX9_partnerFor_39 hl (by decide) rfl (fun ls hl => ?_)
      exact b41  FU p0 p1 x3_17 (-3 : Int32) (0 : Int32) o_16.2.1 o_16.2.2 o_15 _ _ _ hf hP hD hS (lv_sub hl [3, 4, 5, 2, 1, 0] rfl)
    · replace hf := ht_t c_14 hf
      refine lv_iconst (v := -1) hx hb dX9_partnerFor_15 (by decide) ?_
      have ho := Option.some.inj hf
      subst ho; subst hQ
      exact ht_iret hx hb hr hlk rfl hK hP hD hS dX9_partnerFor_16
abbrev rmX9_kindFor : Room := { frames := 5, cells := 0, slots := 0, locals := 116 }
theorem hdX9_kindFor : yX9_kindFor.cls = RX9 ∧ yX9_kindFor.cls ≠ "java/lang/invoke/MethodHandle" ∧ yX9_kindFor.cls ≠ "java/lang/invoke/VarHandle" ∧ (parseMethodDescriptor yX9_kindFor.desc).map (fun d => d.parameters.length) = some 2 := by decide +kernel
def fX9_kindFor_b94 (RM : ModV) (x3 : Int32) (x4 : Int32) (x5 : Int32) (vM_s : AI) (vM_aside : AI) : Option (Int32 × AI × AI) := ht_gd (ht_ix x3 57) (ht_nm (upd vM_s x3.toNatClampNeg x4) (fun vM_s_2 => some (x5, vM_s_2, vM_aside)))
def fX9_kindFor_b77 (RM : ModV) (k42 : Int32 → Int32 → Int32 → Int32 → Int32 → Int32 → AI → AI → Option (Int32 × AI × AI)) (x2 : Int32) (x3 : Int32) (x4 : Int32) (x6 : Int32) (x7 : Int32) (x8 : Int32) (t0 : Int32) (vM_s : AI) (vM_aside : AI) : Option (Int32 × AI × AI) := ht_bn (fX9_greatest x6 x8) (fun o_3 => ht_nm (x7 + (1 : Int32)) (fun x7_4 => k42 x2 x3 x4 t0 o_3 x7_4 vM_s vM_aside))
def fX9_kindFor_b42 (RM : ModV) (k42 : Int32 → Int32 → Int32 → Int32 → Int32 → Int32 → AI → AI → Option (Int32 × AI × AI)) (x2 : Int32) (x3 : Int32) (x4 : Int32) (x5 : Int32) (x6 : Int32) (x7 : Int32) (vM_s : AI) (vM_aside : AI) : Option (Int32 × AI × AI) := if (5 : Int32) < x7 then (fX9_kindFor_b94 RM x3 x4 x5 vM_s vM_aside) else (ht_gd (ht_ix x3 57) (ht_nm (upd vM_s x3.toNatClampNeg x7) (fun vM_s_7 => ht_bn (fX9_soundBy (vM_s_7, RM.held, vM_aside, RM.before, RM.isHeld, RM.tape, RM.taped, RM.token, RM.frm, RM.to, RM.value, RM.isWrong, RM.unpaired, RM.bestSound, RM.bestWay, RM.rows, RM.rowN, RM.sortOf, RM.sizeOf, RM.numbers, RM.holdsWhat, RM.holdsWhich, RM.holdsMany, RM.bodies, RM.ran, RM.actKind, RM.actN, RM.actA, RM.isParted) x2) (fun o_8 => ht_nm o_8.1 (fun x8_9 => if x8_9 ≤ x6 then (fX9_kindFor_b77 RM k42 x2 x3 x4 x6 x7 x8_9 x5 o_8.2.1 o_8.2.2) else (fX9_kindFor_b77 RM k42 x2 x3 x4 x6 x7 x8_9 x7 o_8.2.1 o_8.2.2))))))
def fX9_kindFor (RM : ModV) (p0 : Int32) (p1 : Int32) : Option (Int32 × AI × AI) := ht_bn (fX9_isOne RM p0) (fun o_11 => if o_11 = 0 then (some ((-1 : Int32), RM.s, RM.aside)) else (ht_bn (fX9_isShort p1) (fun o_13 => if o_13 = 0 then (some ((-1 : Int32), RM.s, RM.aside)) else (ht_nm ((9 : Int32) + ((6 : Int32) * p0)) (fun x3_15 => ht_gd (ht_ix x3_15 57) (ht_nm (RM.s x3_15.toNatClampNeg) (fun x4_17 => ht_lp8 (fX9_kindFor_b42 RM) FU p1 x3_15 x4_17 (0 : Int32) (-1 : Int32) (0 : Int32) RM.s RM.aside)))))))
set_option maxHeartbeats 1000000 in
set_option maxRecDepth 100000 in
theorem ctX9_kindFor (l : Launch) (D : va_G) (K : Nat → ClassId) (jM : Nat) (aM : Nat → Nat) (RM : ModV) (p0 : Int32) (p1 : Int32) (o : (Int32 × AI × AI)) (hf : fX9_kindFor RM p0 p1 = some o) (sz : Nat) : Met l yX9_kindFor wsX9_kindFor rmX9_kindFor (ht_Pre D K [.ref jM, .int p0, .int p1] (wMo K jM aM RM.s RM.held RM.aside RM.before RM.isHeld RM.tape RM.taped RM.token RM.frm RM.to RM.value RM.isWrong RM.unpaired RM.bestSound RM.bestWay RM.rows RM.rowN RM.sortOf RM.sizeOf RM.numbers RM.holdsWhat RM.holdsWhich RM.holdsMany RM.bodies RM.ran RM.actKind RM.actN RM.actA RM.isParted) sz) (ht_Qi D K (wMo K jM aM o.2.1 RM.held o.2.2 RM.before RM.isHeld RM.tape RM.taped RM.token RM.frm RM.to RM.value RM.isWrong RM.unpaired RM.bestSound RM.bestWay RM.rows RM.rowN RM.sortOf RM.sizeOf RM.numbers RM.holdsWhat RM.holdsWhich RM.holdsMany RM.bodies RM.ran RM.actKind RM.actN RM.actA RM.isParted) o.1 (va_A (wMo K jM aM RM.s RM.held RM.aside RM.before RM.isHeld RM.tape RM.taped RM.token RM.frm RM.to RM.value RM.isWrong RM.unpaired RM.bestSound RM.bestWay RM.rows RM.rowN RM.sortOf RM.sizeOf RM.numbers RM.holdsWhat RM.holdsWhich RM.holdsMany RM.bodies RM.ran RM.actKind RM.actN RM.actA RM.isParted) sz)) 0 0 (va_A (wMo K jM aM RM.s RM.held RM.aside RM.before RM.isHeld RM.tape RM.taped RM.token RM.frm RM.to RM.value RM.isWrong RM.unpaired RM.bestSound RM.bestWay RM.rows RM.rowN RM.sortOf RM.sizeOf RM.numbers RM.holdsWhat RM.holdsWhich RM.holdsMany RM.bodies RM.ran RM.actKind RM.actN RM.actA RM.isParted) sz) := by
  refine ht_enter (Qf := ht_Qi D K (wMo K jM aM o.2.1 RM.held o.2.2 RM.before RM.isHeld RM.tape RM.taped RM.token RM.frm RM.to RM.value RM.isWrong RM.unpaired RM.bestSound RM.bestWay RM.rows RM.rowN RM.sortOf RM.sizeOf RM.numbers RM.holdsWhat RM.holdsWhich RM.holdsMany RM.bodies RM.ran RM.actKind RM.actN RM.actA RM.isParted) o.1) (cc := cX9_kindFor) (maxL := 9) (rt := (some .int)) (by decide) rfl (Nat.le_of_ble_eq_true rfl) ?_ sz
  intro p e s m below meth c A Q H locs ls hQ hx hb hr hlk hmn hml hown hts hA hK hP hD hS hl
  have hown : s.vm.findClass RX9 = some m.cls := hown
  have hF : CallFix p m c cX9_kindFor 9 s ([.ref jM, .int p0, .int p1] : List Value).toArray wsX9_kindFor RX9 := ⟨hx, hb, hml, hown, hts⟩
  have hl : lv_has ls 9 [(0, .ref jM), (1, .int p0), (2, .int p1)] := hl
  have iw9 : ∀ w ∈ u_ws RX9 TX9 29, w ∈ wsX9_kindFor := by decide +kernel
  have kw1 := hts (.fieldLink RX9 7 "HeldTonguesModel" "s" "[I") (by decide +kernel)
  have b94 : ∀ (x3 : Int32) (x4 : Int32) (x5 : Int32) (vM_s : AI) (vM_aside : AI) (H : Heap) (locs : List Loc) (ls : Array Slot), fX9_kindFor_b94 RM x3 x4 x5 vM_s vM_aside = some o → va_P D vwCl (wMo K jM aM vM_s RM.held vM_aside RM.before RM.isHeld RM.tape RM.taped RM.token RM.frm RM.to RM.value RM.isWrong RM.unpaired RM.bestSound RM.bestWay RM.rows RM.rowN RM.sortOf RM.sizeOf RM.numbers RM.holdsWhat RM.holdsWhich RM.holdsMany RM.bodies RM.ran RM.actKind RM.actN RM.actA RM.isParted) H → va_D A (wMo K jM aM vM_s RM.held vM_aside RM.before RM.isHeld RM.tape RM.taped RM.token RM.frm RM.to RM.value RM.isWrong RM.unpaired RM.bestSound RM.bestWay RM.rows RM.rowN RM.sortOf RM.sizeOf RM.numbers RM.holdsWhat RM.holdsWhich RM.holdsMany RM.bodies RM.ran RM.actKind RM.actN RM.actA RM.isParted) → va_S A s.heap H locs → lv_has ls 9 [(0, .ref jM), (3, .int x3), (4, .int x4), (5, .int x5)] → W p l e (headSpec wsX9_kindFor rmX9_kindFor).room s m ([.ref jM, .int p0, .int p1] : List Value).toArray below meth c H locs 0 0 Q (F0 m 94 ls []) := by
    intro x3 x4 x5 vM_s vM_aside H locs ls hf hP hD hS hl
    delta fX9_kindFor_b94 at hf
    refine lv_aload_n hx hb dX9_kindFor_94 rfl (lv_at hl 0 rfl) ?_
    refine va_get (D := D) (ci := 9) (v := .ref (aM 0)) (C := RX9) (T := TX9) (N := 29) hx hb hts iw9 hown hK hP 0 rfl rfl 0 (by decide) kw1 (fun _ h9 => h9) rfl dX9_kindFor_95 ?_
    refine lv_iload_n hx hb dX9_kindFor_98 rfl (lv_at hl 1 rfl) ?_
    refine lv_iload hx hb dX9_kindFor_99 (lv_at hl 2 rfl) ?_
    obtain ⟨g_1, hf⟩ := ht_gd_ob hf
    obtain ⟨vM_s_2, evM_s_2, hf⟩ := ht_nm_ob hf
    refine ht_iast (w2 := (wMo K jM aM vM_s_2 RM.held vM_aside RM.before RM.isHeld RM.tape RM.taped RM.token RM.frm RM.to RM.value RM.isWrong RM.unpaired RM.bestSound RM.bestWay RM.rows RM.rowN RM.sortOf RM.sizeOf RM.numbers RM.holdsWhat RM.holdsWhich RM.holdsMany RM.bodies RM.ran RM.actKind RM.actN RM.actA RM.isParted)) hx hb hK hP hD hS 1 1 rfl rfl g_1 dX9_kindFor_101 evM_s_2 rfl (fun H locs hP hD hS => ?_)
    refine lv_iload hx hb dX9_kindFor_102 (lv_at hl 3 rfl) ?_
    have ho := Option.some.inj hf
    subst ho; subst hQ
    exact ht_iret hx hb hr hlk rfl hK hP hD hS dX9_kindFor_104
  have b77 : ∀ (k42 : Int32 → Int32 → Int32 → Int32 → Int32 → Int32 → AI → AI → Option (Int32 × AI × AI)) (hk42 : ∀ (x2 : Int32) (x3 : Int32) (x4 : Int32) (x5 : Int32) (x6 : Int32) (x7 : Int32) (vM_s : AI) (vM_aside : AI) (H : Heap) (locs : List Loc) (ls : Array Slot), k42 x2 x3 x4 x5 x6 x7 vM_s vM_aside = some o → va_P D vwCl (wMo K jM aM vM_s RM.held vM_aside RM.before RM.isHeld RM.tape RM.taped RM.token RM.frm RM.to RM.value RM.isWrong RM.unpaired RM.bestSound RM.bestWay RM.rows RM.rowN RM.sortOf RM.sizeOf RM.numbers RM.holdsWhat RM.holdsWhich RM.holdsMany RM.bodies RM.ran RM.actKind RM.actN RM.actA RM.isParted) H → va_D A (wMo K jM aM vM_s RM.held vM_aside RM.before RM.isHeld RM.tape RM.taped RM.token RM.frm RM.to RM.value RM.isWrong RM.unpaired RM.bestSound RM.bestWay RM.rows RM.rowN RM.sortOf RM.sizeOf RM.numbers RM.holdsWhat RM.holdsWhich RM.holdsMany RM.bodies RM.ran RM.actKind RM.actN RM.actA RM.isParted) → va_S A s.heap H locs → lv_has ls 9 [(0, .ref jM), (2, .int x2), (3, .int x3), (4, .int x4), (5, .int x5), (6, .int x6), (7, .int x7)] → W p l e (headSpec wsX9_kindFor rmX9_kindFor).room s m ([.ref jM, .int p0, .int p1] : List Value).toArray below meth c H locs 0 0 Q (F0 m 42 ls [])) (x2 : Int32) (x3 : Int32) (x4 : Int32) (x6 : Int32) (x7 : Int32) (x8 : Int32) (t0 : Int32) (vM_s : AI) (vM_aside : AI) (H : Heap) (locs : List Loc) (ls : Array Slot), fX9_kindFor_b77 RM k42 x2 x3 x4 x6 x7 x8 t0 vM_s vM_aside = some o → va_P D vwCl (wMo K jM aM vM_s RM.held vM_aside RM.before RM.isHeld RM.tape RM.taped RM.token RM.frm RM.to RM.value RM.isWrong RM.unpaired RM.bestSound RM.bestWay RM.rows RM.rowN RM.sortOf RM.sizeOf RM.numbers RM.holdsWhat RM.holdsWhich RM.holdsMany RM.bodies RM.ran RM.actKind RM.actN RM.actA RM.isParted) H → va_D A (wMo K jM aM vM_s RM.held vM_aside RM.before RM.isHeld RM.tape RM.taped RM.token RM.frm RM.to RM.value RM.isWrong RM.unpaired RM.bestSound RM.bestWay RM.rows RM.rowN RM.sortOf RM.sizeOf RM.numbers RM.holdsWhat RM.holdsWhich RM.holdsMany RM.bodies RM.ran RM.actKind RM.actN RM.actA RM.isParted) → va_S A s.heap H locs → lv_has ls 9 [(0, .ref jM), (2, .int x2), (3, .int x3), (4, .int x4), (6, .int x6), (7, .int x7), (8, .int x8)] → W p l e (headSpec wsX9_kindFor rmX9_kindFor).room s m ([.ref jM, .int p0, .int p1] : List Value).toArray below meth c H locs 0 0 Q (F0 m 77 ls [.int t0]) := by
    intro k42 hk42 x2 x3 x4 x6 x7 x8 t0 vM_s vM_aside H locs ls hf hP hD hS hl
    delta fX9_kindFor_b77 at hf
    refine lv_istore (lv' := [(5, .int t0), (0, .ref jM), (2, .int x2), (3, .int x3), (4, .int x4), (6, .int x6), (7, .int x7), (8, .int x8)]) hx hb dX9_kindFor_77 hl (by decide) rfl (fun ls hl => ?_)
    refine lv_iload hx hb dX9_kindFor_79 (lv_at hl 5 rfl) ?_
    refine lv_iload hx hb dX9_kindFor_81 (lv_at hl 7 rfl) ?_
    obtain ⟨o_3, ho_3, hf⟩ := ht_bn_ob hf
    refine ht_callSi (r := o_3) (rest := []) (As := [.int x6, .int x8]) (wc := []) (wr := (wMo K jM aM vM_s RM.held vM_aside RM.before RM.isHeld RM.tape RM.taped RM.token RM.frm RM.to RM.value RM.isWrong RM.unpaired RM.bestSound RM.bestWay RM.rows RM.rowN RM.sortOf RM.sizeOf RM.numbers RM.holdsWhat RM.holdsWhich RM.holdsMany RM.bodies RM.ran RM.actKind RM.actN RM.actA RM.isParted)) (w1 := []) (w2 := (wMo K jM aM vM_s RM.held vM_aside RM.before RM.isHeld RM.tape RM.taped RM.token RM.frm RM.to RM.value RM.isWrong RM.unpaired RM.bestSound RM.bestWay RM.rows RM.rowN RM.sortOf RM.sizeOf RM.numbers RM.holdsWhat RM.holdsWhich RM.holdsMany RM.bodies RM.ran RM.actKind RM.actN RM.actA RM.isParted)) hF (ctX9_greatest l D K x6 x8 o_3 ho_3 H.size) (va_cwS 2 hts gX9_kindFor_X9_greatest rfl rfl rfl hdX9_greatest ⟨Nat.le_of_ble_eq_true rfl, Nat.le_of_ble_eq_true rfl⟩) hK hP hD hS hA [] [0, 1, 2, 3, 4, 5, 6, 7, 8, 9, 10, 11, 12, 13, 14, 15] rfl rfl (by decide) (by decide) (by decide) [0, 1, 2, 3, 4, 5, 6, 7, 8, 9, 10, 11, 12, 13, 14, 15] rfl (by decide) rfl hl.1 rfl (Nat.le_of_ble_eq_true rfl) dX9_kindFor_83 ⟨Nat.zero_le _, Nat.zero_le _⟩ (fun H locs hP hD hS => ?_)
    refine lv_istore (lv' := [(6, .int o_3), (5, .int t0), (0, .ref jM), (2, .int x2), (3, .int x3), (4, .int x4), (7, .int x7), (8, .int x8)]) hx hb dX9_kindFor_86 hl (by decide) rfl (fun ls hl => ?_)
    obtain ⟨x7_4, ex7_4, hf⟩ := ht_nm_ob hf
    refine lv_iinc (v := x7_4) (lv' := [(7, .int x7_4), (6, .int o_3), (5, .int t0), (0, .ref jM), (2, .int x2), (3, .int x3), (4, .int x4), (8, .int x8)]) hx hb dX9_kindFor_88 hl (k := 6) rfl (by rw [ex7_4]; rfl) (by decide) rfl (fun ls hl => ?_)
    refine lv_goto (tgt := 42) hx hb dX9_kindFor_91 (by decide) ?_
    exact hk42 x2 x3 x4 t0 o_3 x7_4 vM_s vM_aside _ _ _ hf hP hD hS (lv_sub hl [3, 4, 5, 6, 2, 1, 0] rfl)
  have b42 : ∀ (n : Nat) (x2 : Int32) (x3 : Int32) (x4 : Int32) (x5 : Int32) (x6 : Int32) (x7 : Int32) (vM_s : AI) (vM_aside : AI) (H : Heap) (locs : List Loc) (ls : Array Slot), ht_lp8 (fX9_kindFor_b42 RM) n x2 x3 x4 x5 x6 x7 vM_s vM_aside = some o → va_P D vwCl (wMo K jM aM vM_s RM.held vM_aside RM.before RM.isHeld RM.tape RM.taped RM.token RM.frm RM.to RM.value RM.isWrong RM.unpaired RM.bestSound RM.bestWay RM.rows RM.rowN RM.sortOf RM.sizeOf RM.numbers RM.holdsWhat RM.holdsWhich RM.holdsMany RM.bodies RM.ran RM.actKind RM.actN RM.actA RM.isParted) H → va_D A (wMo K jM aM vM_s RM.held vM_aside RM.before RM.isHeld RM.tape RM.taped RM.token RM.frm RM.to RM.value RM.isWrong RM.unpaired RM.bestSound RM.bestWay RM.rows RM.rowN RM.sortOf RM.sizeOf RM.numbers RM.holdsWhat RM.holdsWhich RM.holdsMany RM.bodies RM.ran RM.actKind RM.actN RM.actA RM.isParted) → va_S A s.heap H locs → lv_has ls 9 [(0, .ref jM), (2, .int x2), (3, .int x3), (4, .int x4), (5, .int x5), (6, .int x6), (7, .int x7)] → W p l e (headSpec wsX9_kindFor rmX9_kindFor).room s m ([.ref jM, .int p0, .int p1] : List Value).toArray below meth c H locs 0 0 Q (F0 m 42 ls []) := by
    intro n
    induction n with
    | zero =>
      intro x2 x3 x4 x5 x6 x7 vM_s vM_aside H locs ls hf hP hD hS hl
      cases (show (none : Option (Int32 × AI × AI)) = some o from hf)
    | succ n hk42 =>
      intro x2 x3 x4 x5 x6 x7 vM_s vM_aside H locs ls hf hP hD hS hl
      replace hf : fX9_kindFor_b42 RM (ht_lp8 (fX9_kindFor_b42 RM) n) x2 x3 x4 x5 x6 x7 vM_s vM_aside = some o := hf
      delta fX9_kindFor_b42 at hf
      refine lv_iload hx hb dX9_kindFor_42 (lv_at hl 6 rfl) ?_
      refine lv_iconst (v := 5) hx hb dX9_kindFor_44 (by decide) ?_
      refine lv_icmp_gt (tgt := 94) hx hb dX9_kindFor_45 (by decide) (fun c_5 => ?_) (fun c_5 => ?_)
      · replace hf := ht_t c_5 hf
        exact b94  x3 x4 x5 vM_s vM_aside _ _ _ hf hP hD hS (lv_sub hl [0, 2, 3, 4] rfl)
      · replace hf := ht_f c_5 hf
        refine lv_aload_n hx hb dX9_kindFor_48 rfl (lv_at hl 0 rfl) ?_
        refine va_get (D := D) (ci := 9) (v := .ref (aM 0)) (C := RX9) (T := TX9) (N := 29) hx hb hts iw9 hown hK hP 0 rfl rfl 0 (by decide) kw1 (fun _ h9 => h9) rfl dX9_kindFor_49 ?_
        refine lv_iload_n hx hb dX9_kindFor_52 rfl (lv_at hl 2 rfl) ?_
        refine lv_iload hx hb dX9_kindFor_53 (lv_at hl 6 rfl) ?_
        obtain ⟨g_6, hf⟩ := ht_gd_ob hf
        obtain ⟨vM_s_7, evM_s_7, hf⟩ := ht_nm_ob hf
        refine ht_iast (w2 := (wMo K jM aM vM_s_7 RM.held vM_aside RM.before RM.isHeld RM.tape RM.taped RM.token RM.frm RM.to RM.value RM.isWrong RM.unpaired RM.bestSound RM.bestWay RM.rows RM.rowN RM.sortOf RM.sizeOf RM.numbers RM.holdsWhat RM.holdsWhich RM.holdsMany RM.bodies RM.ran RM.actKind RM.actN RM.actA RM.isParted)) hx hb hK hP hD hS 1 1 rfl rfl g_6 dX9_kindFor_55 evM_s_7 rfl (fun H locs hP hD hS => ?_)
        refine lv_aload_n hx hb dX9_kindFor_56 rfl (lv_at hl 0 rfl) ?_
        refine lv_iload_n hx hb dX9_kindFor_57 rfl (lv_at hl 1 rfl) ?_
        obtain ⟨o_8, ho_8, hf⟩ := ht_bn_ob hf
        refine ht_callVi (r := o_8.1) (rest := []) (As := [.int x2]) (wc := (wMo K jM aM vM_s_7 RM.held vM_aside RM.before RM.isHeld RM.tape RM.taped RM.token RM.frm RM.to RM.value RM.isWrong RM.unpaired RM.bestSound RM.bestWay RM.rows RM.rowN RM.sortOf RM.sizeOf RM.numbers RM.holdsWhat RM.holdsWhich RM.holdsMany RM.bodies RM.ran RM.actKind RM.actN RM.actA RM.isParted)) (wr := []) (w1 := (wMo K jM aM o_8.2.1 RM.held o_8.2.2 RM.before RM.isHeld RM.tape RM.taped RM.token RM.frm RM.to RM.value RM.isWrong RM.unpaired RM.bestSound RM.bestWay RM.rows RM.rowN RM.sortOf RM.sizeOf RM.numbers RM.holdsWhat RM.holdsWhich RM.holdsMany RM.bodies RM.ran RM.actKind RM.actN RM.actA RM.isParted)) (w2 := (wMo K jM aM o_8.2.1 RM.held o_8.2.2 RM.before RM.isHeld RM.tape RM.taped RM.token RM.frm RM.to RM.value RM.isWrong RM.unpaired RM.bestSound RM.bestWay RM.rows RM.rowN RM.sortOf RM.sizeOf RM.numbers RM.holdsWhat RM.holdsWhich RM.holdsMany RM.bodies RM.ran RM.actKind RM.actN RM.actA RM.isParted)) hF (ctX9_soundBy l D K jM aM (vM_s_7, RM.held, vM_aside, RM.before, RM.isHeld, RM.tape, RM.taped, RM.token, RM.frm, RM.to, RM.value, RM.isWrong, RM.unpaired, RM.bestSound, RM.bestWay, RM.rows, RM.rowN, RM.sortOf, RM.sizeOf, RM.numbers, RM.holdsWhat, RM.holdsWhich, RM.holdsMany, RM.bodies, RM.ran, RM.actKind, RM.actN, RM.actA, RM.isParted) x2 o_8 ho_8 H.size) (cwV 1 hts gX9_kindFor_X9_soundBy rfl rfl rfl hdX9_soundBy ⟨Nat.le_of_ble_eq_true rfl, Nat.le_of_ble_eq_true rfl⟩) hK hP hD hS hA [0, 1, 2, 3, 4, 5, 6, 7, 8, 9, 10, 11, 12, 13, 14, 15] [] rfl rfl (by decide) (by decide) (by decide) [0, 1, 2, 3, 4, 5, 6, 7, 8, 9, 10, 11, 12, 13, 14, 15] rfl (by decide) (va_recv hK hP (ci := 9) (q0 := 0) rfl rfl) rfl hl.1 rfl (Nat.le_of_ble_eq_true rfl) dX9_kindFor_58 ⟨Nat.zero_le _, Nat.zero_le _⟩ (fun H locs hP hD hS => ?_)
        obtain ⟨x8_9, ex8_9, hf⟩ := ht_nm_ob hf
        rw [← ex8_9]
        refine lv_istore (lv' := [(8, .int x8_9), (0, .ref jM), (2, .int x2), (3, .int x3), (4, .int x4), (5, .int x5), (6, .int x6), (7, .int x7)]) hx hb dX9_kindFor_61 hl (by decide) rfl (fun ls hl => ?_)
        refine lv_iload hx hb dX9_kindFor_63 (lv_at hl 0 rfl) ?_
        refine lv_iload hx hb dX9_kindFor_65 (lv_at hl 6 rfl) ?_
        refine lv_icmp_le (tgt := 75) hx hb dX9_kindFor_67 (by decide) (fun c_10 => ?_) (fun c_10 => ?_)
        · replace hf := ht_t c_10 hf
          refine lv_iload hx hb dX9_kindFor_75 (lv_at hl 5 rfl) ?_
          exact b77 _ hk42 x2 x3 x4 x6 x7 x8_9 x5 o_8.2.1 o_8.2.2 _ _ _ hf hP hD hS (lv_sub hl [1, 2, 3, 4, 6, 7, 0] rfl)
        · replace hf := ht_f c_10 hf
          refine lv_iload hx hb dX9_kindFor_70 (lv_at hl 7 rfl) ?_
          refine lv_goto (tgt := 77) hx hb dX9_kindFor_72 (by decide) ?_
          exact b77 _ hk42 x2 x3 x4 x6 x7 x8_9 x7 o_8.2.1 o_8.2.2 _ _ _ hf hP hD hS (lv_sub hl [1, 2, 3, 4, 6, 7, 0] rfl)
  delta fX9_kindFor at hf
  refine lv_aload_n hx hb dX9_kindFor_0 rfl (lv_at hl 0 rfl) ?_
  refine lv_iload_n hx hb dX9_kindFor_1 rfl (lv_at hl 1 rfl) ?_
  obtain ⟨o_11, ho_11, hf⟩ := ht_bn_ob hf
  refine ht_callVi (r := o_11) (rest := []) (As := [.int p0]) (wc := (wMo K jM aM RM.s RM.held RM.aside RM.before RM.isHeld RM.tape RM.taped RM.token RM.frm RM.to RM.value RM.isWrong RM.unpaired RM.bestSound RM.bestWay RM.rows RM.rowN RM.sortOf RM.sizeOf RM.numbers RM.holdsWhat RM.holdsWhich RM.holdsMany RM.bodies RM.ran RM.actKind RM.actN RM.actA RM.isParted)) (wr := []) (w1 := (wMo K jM aM RM.s RM.held RM.aside RM.before RM.isHeld RM.tape RM.taped RM.token RM.frm RM.to RM.value RM.isWrong RM.unpaired RM.bestSound RM.bestWay RM.rows RM.rowN RM.sortOf RM.sizeOf RM.numbers RM.holdsWhat RM.holdsWhich RM.holdsMany RM.bodies RM.ran RM.actKind RM.actN RM.actA RM.isParted)) (w2 := (wMo K jM aM RM.s RM.held RM.aside RM.before RM.isHeld RM.tape RM.taped RM.token RM.frm RM.to RM.value RM.isWrong RM.unpaired RM.bestSound RM.bestWay RM.rows RM.rowN RM.sortOf RM.sizeOf RM.numbers RM.holdsWhat RM.holdsWhich RM.holdsMany RM.bodies RM.ran RM.actKind RM.actN RM.actA RM.isParted)) hF (ctX9_isOne l D K jM aM RM p0 o_11 ho_11 H.size) (cwV 1 hts gX9_kindFor_X9_isOne rfl rfl rfl hdX9_isOne ⟨Nat.le_of_ble_eq_true rfl, Nat.le_of_ble_eq_true rfl⟩) hK hP hD hS hA [0, 1, 2, 3, 4, 5, 6, 7, 8, 9, 10, 11, 12, 13, 14, 15] [] rfl rfl (by decide) (by decide) (by decide) [0, 1, 2, 3, 4, 5, 6, 7, 8, 9, 10, 11, 12, 13, 14, 15] rfl (by decide) (va_recv hK hP (ci := 9) (q0 := 0) rfl rfl) rfl hl.1 rfl (Nat.le_of_ble_eq_true rfl) dX9_kindFor_2 ⟨Nat.zero_le _, Nat.zero_le _⟩ (fun H locs hP hD hS => ?_)
  refine lv_if_eq (tgt := 15) hx hb dX9_kindFor_5 (by decide) (fun c_12 => ?_) (fun c_12 => ?_)
  · replace hf := ht_t c_12 hf
    refine lv_iconst (v := -1) hx hb dX9_kindFor_15 (by decide) ?_
    have ho := Option.some.inj hf
    subst ho; subst hQ
    exact ht_iret hx hb hr hlk rfl hK hP hD hS dX9_kindFor_16
  · replace hf := ht_f c_12 hf
    refine lv_iload_n hx hb dX9_kindFor_8 rfl (lv_at hl 2 rfl) ?_
    obtain ⟨o_13, ho_13, hf⟩ := ht_bn_ob hf
    refine ht_callSi (r := o_13) (rest := []) (As := [.int p1]) (wc := []) (wr := (wMo K jM aM RM.s RM.held RM.aside RM.before RM.isHeld RM.tape RM.taped RM.token RM.frm RM.to RM.value RM.isWrong RM.unpaired RM.bestSound RM.bestWay RM.rows RM.rowN RM.sortOf RM.sizeOf RM.numbers RM.holdsWhat RM.holdsWhich RM.holdsMany RM.bodies RM.ran RM.actKind RM.actN RM.actA RM.isParted)) (w1 := []) (w2 := (wMo K jM aM RM.s RM.held RM.aside RM.before RM.isHeld RM.tape RM.taped RM.token RM.frm RM.to RM.value RM.isWrong RM.unpaired RM.bestSound RM.bestWay RM.rows RM.rowN RM.sortOf RM.sizeOf RM.numbers RM.holdsWhat RM.holdsWhich RM.holdsMany RM.bodies RM.ran RM.actKind RM.actN RM.actA RM.isParted)) hF (ctX9_isShort l D K p1 o_13 ho_13 H.size) (va_cwS 1 hts gX9_kindFor_X9_isShort rfl rfl rfl hdX9_isShort ⟨Nat.le_of_ble_eq_true rfl, Nat.le_of_ble_eq_true rfl⟩) hK hP hD hS hA [] [0, 1, 2, 3, 4, 5, 6, 7, 8, 9, 10, 11, 12, 13, 14, 15] rfl rfl (by decide) (by decide) (by decide) [0, 1, 2, 3, 4, 5, 6, 7, 8, 9, 10, 11, 12, 13, 14, 15] rfl (by decide) rfl hl.1 rfl (Nat.le_of_ble_eq_true rfl) dX9_kindFor_9 ⟨Nat.zero_le _, Nat.zero_le _⟩ (fun H locs hP hD hS => ?_)
    refine lv_if_ne (tgt := 17) hx hb dX9_kindFor_12 (by decide) (fun c_14 => ?_) (fun c_14 => ?_)
    · replace hf := ht_f c_14 hf
      refine lv_bipush (v := 9) hx hb dX9_kindFor_17 (by decide) ?_
      refine lv_bipush (v := 6) hx hb dX9_kindFor_19 (by decide) ?_
      refine lv_iload_n hx hb dX9_kindFor_21 rfl (lv_at hl 1 rfl) ?_
      refine lv_imul hx hb dX9_kindFor_22 ?_
      refine lv_iadd hx hb dX9_kindFor_23 ?_
      obtain ⟨x3_15, ex3_15, hf⟩ := ht_nm_ob hf
      rw [← ex3_15]
      refine lv_istore_n (lv' := [(3, .int x3_15), (0, .ref jM), (1, .int p0), (2, .int p1)]) hx hb dX9_kindFor_24 rfl hl (by decide) rfl (fun ls hl => ?_)
      refine lv_aload_n hx hb dX9_kindFor_25 rfl (lv_at hl 1 rfl) ?_
      refine va_get (D := D) (ci := 9) (v := .ref (aM 0)) (C := RX9) (T := TX9) (N := 29) hx hb hts iw9 hown hK hP 0 rfl rfl 0 (by decide) kw1 (fun _ h9 => h9) rfl dX9_kindFor_26 ?_
      refine lv_iload_n hx hb dX9_kindFor_29 rfl (lv_at hl 0 rfl) ?_
      obtain ⟨g_16, hf⟩ := ht_gd_ob hf
      refine va_iald hx hb hK hP 1 1 rfl rfl (ht_ix_in g_16) dX9_kindFor_30 ?_
      obtain ⟨x4_17, ex4_17, hf⟩ := ht_nm_ob hf
      rw [← ex4_17]
      refine lv_istore (lv' := [(4, .int x4_17), (3, .int x3_15), (0, .ref jM), (1, .int p0), (2, .int p1)]) hx hb dX9_kindFor_31 hl (by decide) rfl (fun ls hl => ?_)
      refine lv_iconst (v := 0) hx hb dX9_kindFor_33 (by decide) ?_
      refine lv_istore (lv' := [(5, .int (0 : Int32)), (4, .int x4_17), (3, .int x3_15), (0, .ref jM), (1, .int p0), (2, .int p1)]) hx hb dX9_kindFor_34 hl (by decide) rfl (fun ls hl => ?_)
      refine lv_iconst (v := -1) hx hb dX9_kindFor_36 (by decide) ?_
      refine lv_istore (lv' := [(6, .int (-1 : Int32)), (5, .int (0 : Int32)), (4, .int x4_17), (3, .int x3_15), (0, .ref jM), (1, .int p0), (2, .int p1)]) hx hb dX9_kindFor_37 hl (by decide) rfl (fun ls hl => ?_)
      refine lv_iconst (v := 0) hx hb dX9_kindFor_39 (by decide) ?_
      refine lv_istore (lv' := [(7, .int (0 : Int32)), (6, .int (-1 : Int32)), (5, .int (0 : Int32)), (4, .int x4_17), (3, .int x3_15), (0, .ref jM), (1, .int p0), (2, .int p1)]) hx hb dX9_kindFor_40 hl (by decide) rfl (fun ls hl => ?_)
      exact b42  FU p1 x3_15 x4_17 (0 : Int32) (-1 : Int32) (0 : Int32) RM.s RM.aside _ _ _ hf hP hD hS (lv_sub hl [5, 7, 4, 3, 2, 1, 0] rfl)
    · replace hf := ht_t c_14 hf
      refine lv_iconst (v := -1) hx hb dX9_kindFor_15 (by decide) ?_
      have ho := Option.some.inj hf
      subst ho; subst hQ
      exact ht_iret hx hb hr hlk rfl hK hP hD hS dX9_kindFor_16
abbrev rmX9_voiceFor : Room := { frames := 5, cells := 0, slots := 0, locals := 116 }
theorem hdX9_voiceFor : yX9_voiceFor.cls = RX9 ∧ yX9_voiceFor.cls ≠ "java/lang/invoke/MethodHandle" ∧ yX9_voiceFor.cls ≠ "java/lang/invoke/VarHandle" ∧ (parseMethodDescriptor yX9_voiceFor.desc).map (fun d => d.parameters.length) = some 3 := by decide +kernel
def fX9_voiceFor_b101 (RM : ModV) (x4 : Int32) (x5 : Int32) (x6 : Int32) (vM_s : AI) (vM_aside : AI) : Option (Int32 × AI × AI) := ht_gd (ht_ix x4 57) (ht_nm (upd vM_s x4.toNatClampNeg x5) (fun vM_s_2 => some (x6, vM_s_2, vM_aside)))
def fX9_voiceFor_b93 (RM : ModV) (k56 : Int32 → Int32 → Int32 → Int32 → Int32 → Int32 → AI → AI → Option (Int32 × AI × AI)) (x2 : Int32) (x3 : Int32) (x4 : Int32) (x5 : Int32) (x7 : Int32) (t0 : Int32) (vM_s : AI) (vM_aside : AI) : Option (Int32 × AI × AI) := ht_nm (x7 + (1 : Int32)) (fun x7_3 => k56 x2 x3 x4 x5 t0 x7_3 vM_s vM_aside)
def fX9_voiceFor_b56 (RM : ModV) (k56 : Int32 → Int32 → Int32 → Int32 → Int32 → Int32 → AI → AI → Option (Int32 × AI × AI)) (x2 : Int32) (x3 : Int32) (x4 : Int32) (x5 : Int32) (x6 : Int32) (x7 : Int32) (vM_s : AI) (vM_aside : AI) : Option (Int32 × AI × AI) := if (9 : Int32) < x7 then (fX9_voiceFor_b101 RM x4 x5 x6 vM_s vM_aside) else (if 0 ≤ x6 then (fX9_voiceFor_b101 RM x4 x5 x6 vM_s vM_aside) else (ht_gd (ht_ix x4 57) (ht_nm (upd vM_s x4.toNatClampNeg x7) (fun vM_s_7 => ht_bn (fX9_soundBy (vM_s_7, RM.held, vM_aside, RM.before, RM.isHeld, RM.tape, RM.taped, RM.token, RM.frm, RM.to, RM.value, RM.isWrong, RM.unpaired, RM.bestSound, RM.bestWay, RM.rows, RM.rowN, RM.sortOf, RM.sizeOf, RM.numbers, RM.holdsWhat, RM.holdsWhich, RM.holdsMany, RM.bodies, RM.ran, RM.actKind, RM.actN, RM.actA, RM.isParted) x2) (fun o_8 => if o_8.1 < x3 then (fX9_voiceFor_b93 RM k56 x2 x3 x4 x5 x7 (-3 : Int32) o_8.2.1 o_8.2.2) else (fX9_voiceFor_b93 RM k56 x2 x3 x4 x5 x7 x7 o_8.2.1 o_8.2.2))))))
def fX9_voiceFor (RM : ModV) (p0 : Int32) (p1 : Int32) (p2 : Int32) : Option (Int32 × AI × AI) := ht_bn (fX9_isOne RM p0) (fun o_10 => if o_10 = 0 then (some ((-1 : Int32), RM.s, RM.aside)) else (ht_bn (fX9_isShort p1) (fun o_12 => if o_12 = 0 then (some ((-1 : Int32), RM.s, RM.aside)) else (ht_bn (fX9_isIn p2.toInt64 (0 : Int64) (9999 : Int64)) (fun o_14 => if o_14 = 0 then (some ((-1 : Int32), RM.s, RM.aside)) else (ht_nm (((9 : Int32) + ((6 : Int32) * p0)) + (3 : Int32)) (fun x4_16 => ht_gd (ht_ix x4_16 57) (ht_nm (RM.s x4_16.toNatClampNeg) (fun x5_18 => ht_lp8 (fX9_voiceFor_b56 RM) FU p1 p2 x4_16 x5_18 (-3 : Int32) (0 : Int32) RM.s RM.aside)))))))))
set_option maxHeartbeats 1000000 in
set_option maxRecDepth 100000 in
theorem ctX9_voiceFor (l : Launch) (D : va_G) (K : Nat → ClassId) (jM : Nat) (aM : Nat → Nat) (RM : ModV) (p0 : Int32) (p1 : Int32) (p2 : Int32) (o : (Int32 × AI × AI)) (hf : fX9_voiceFor RM p0 p1 p2 = some o) (sz : Nat) : Met l yX9_voiceFor wsX9_voiceFor rmX9_voiceFor (ht_Pre D K [.ref jM, .int p0, .int p1, .int p2] (wMo K jM aM RM.s RM.held RM.aside RM.before RM.isHeld RM.tape RM.taped RM.token RM.frm RM.to RM.value RM.isWrong RM.unpaired RM.bestSound RM.bestWay RM.rows RM.rowN RM.sortOf RM.sizeOf RM.numbers RM.holdsWhat RM.holdsWhich RM.holdsMany RM.bodies RM.ran RM.actKind RM.actN RM.actA RM.isParted) sz) (ht_Qi D K (wMo K jM aM o.2.1 RM.held o.2.2 RM.before RM.isHeld RM.tape RM.taped RM.token RM.frm RM.to RM.value RM.isWrong RM.unpaired RM.bestSound RM.bestWay RM.rows RM.rowN RM.sortOf RM.sizeOf RM.numbers RM.holdsWhat RM.holdsWhich RM.holdsMany RM.bodies RM.ran RM.actKind RM.actN RM.actA RM.isParted) o.1 (va_A (wMo K jM aM RM.s RM.held RM.aside RM.before RM.isHeld RM.tape RM.taped RM.token RM.frm RM.to RM.value RM.isWrong RM.unpaired RM.bestSound RM.bestWay RM.rows RM.rowN RM.sortOf RM.sizeOf RM.numbers RM.holdsWhat RM.holdsWhich RM.holdsMany RM.bodies RM.ran RM.actKind RM.actN RM.actA RM.isParted) sz)) 0 0 (va_A (wMo K jM aM RM.s RM.held RM.aside RM.before RM.isHeld RM.tape RM.taped RM.token RM.frm RM.to RM.value RM.isWrong RM.unpaired RM.bestSound RM.bestWay RM.rows RM.rowN RM.sortOf RM.sizeOf RM.numbers RM.holdsWhat RM.holdsWhich RM.holdsMany RM.bodies RM.ran RM.actKind RM.actN RM.actA RM.isParted) sz) := by
  refine ht_enter (Qf := ht_Qi D K (wMo K jM aM o.2.1 RM.held o.2.2 RM.before RM.isHeld RM.tape RM.taped RM.token RM.frm RM.to RM.value RM.isWrong RM.unpaired RM.bestSound RM.bestWay RM.rows RM.rowN RM.sortOf RM.sizeOf RM.numbers RM.holdsWhat RM.holdsWhich RM.holdsMany RM.bodies RM.ran RM.actKind RM.actN RM.actA RM.isParted) o.1) (cc := cX9_voiceFor) (maxL := 8) (rt := (some .int)) (by decide) rfl (Nat.le_of_ble_eq_true rfl) ?_ sz
  intro p e s m below meth c A Q H locs ls hQ hx hb hr hlk hmn hml hown hts hA hK hP hD hS hl
  have hown : s.vm.findClass RX9 = some m.cls := hown
  have hF : CallFix p m c cX9_voiceFor 8 s ([.ref jM, .int p0, .int p1, .int p2] : List Value).toArray wsX9_voiceFor RX9 := ⟨hx, hb, hml, hown, hts⟩
  have hl : lv_has ls 8 [(0, .ref jM), (1, .int p0), (2, .int p1), (3, .int p2)] := hl
  have iw9 : ∀ w ∈ u_ws RX9 TX9 29, w ∈ wsX9_voiceFor := by decide +kernel
  have kw1 := hts (.fieldLink RX9 7 "HeldTonguesModel" "s" "[I") (by decide +kernel)
  have kw2 := hts (.constantLong RX9 236 (9999)) (by decide +kernel)
  have b101 : ∀ (x4 : Int32) (x5 : Int32) (x6 : Int32) (vM_s : AI) (vM_aside : AI) (H : Heap) (locs : List Loc) (ls : Array Slot), fX9_voiceFor_b101 RM x4 x5 x6 vM_s vM_aside = some o → va_P D vwCl (wMo K jM aM vM_s RM.held vM_aside RM.before RM.isHeld RM.tape RM.taped RM.token RM.frm RM.to RM.value RM.isWrong RM.unpaired RM.bestSound RM.bestWay RM.rows RM.rowN RM.sortOf RM.sizeOf RM.numbers RM.holdsWhat RM.holdsWhich RM.holdsMany RM.bodies RM.ran RM.actKind RM.actN RM.actA RM.isParted) H → va_D A (wMo K jM aM vM_s RM.held vM_aside RM.before RM.isHeld RM.tape RM.taped RM.token RM.frm RM.to RM.value RM.isWrong RM.unpaired RM.bestSound RM.bestWay RM.rows RM.rowN RM.sortOf RM.sizeOf RM.numbers RM.holdsWhat RM.holdsWhich RM.holdsMany RM.bodies RM.ran RM.actKind RM.actN RM.actA RM.isParted) → va_S A s.heap H locs → lv_has ls 8 [(0, .ref jM), (4, .int x4), (5, .int x5), (6, .int x6)] → W p l e (headSpec wsX9_voiceFor rmX9_voiceFor).room s m ([.ref jM, .int p0, .int p1, .int p2] : List Value).toArray below meth c H locs 0 0 Q (F0 m 101 ls []) := by
    intro x4 x5 x6 vM_s vM_aside H locs ls hf hP hD hS hl
    delta fX9_voiceFor_b101 at hf
    refine lv_aload_n hx hb dX9_voiceFor_101 rfl (lv_at hl 0 rfl) ?_
    refine va_get (D := D) (ci := 9) (v := .ref (aM 0)) (C := RX9) (T := TX9) (N := 29) hx hb hts iw9 hown hK hP 0 rfl rfl 0 (by decide) kw1 (fun _ h9 => h9) rfl dX9_voiceFor_102 ?_
    refine lv_iload hx hb dX9_voiceFor_105 (lv_at hl 1 rfl) ?_
    refine lv_iload hx hb dX9_voiceFor_107 (lv_at hl 2 rfl) ?_
    obtain ⟨g_1, hf⟩ := ht_gd_ob hf
    obtain ⟨vM_s_2, evM_s_2, hf⟩ := ht_nm_ob hf
    refine ht_iast (w2 := (wMo K jM aM vM_s_2 RM.held vM_aside RM.before RM.isHeld RM.tape RM.taped RM.token RM.frm RM.to RM.value RM.isWrong RM.unpaired RM.bestSound RM.bestWay RM.rows RM.rowN RM.sortOf RM.sizeOf RM.numbers RM.holdsWhat RM.holdsWhich RM.holdsMany RM.bodies RM.ran RM.actKind RM.actN RM.actA RM.isParted)) hx hb hK hP hD hS 1 1 rfl rfl g_1 dX9_voiceFor_109 evM_s_2 rfl (fun H locs hP hD hS => ?_)
    refine lv_iload hx hb dX9_voiceFor_110 (lv_at hl 3 rfl) ?_
    have ho := Option.some.inj hf
    subst ho; subst hQ
    exact ht_iret hx hb hr hlk rfl hK hP hD hS dX9_voiceFor_112
  have b93 : ∀ (k56 : Int32 → Int32 → Int32 → Int32 → Int32 → Int32 → AI → AI → Option (Int32 × AI × AI)) (hk56 : ∀ (x2 : Int32) (x3 : Int32) (x4 : Int32) (x5 : Int32) (x6 : Int32) (x7 : Int32) (vM_s : AI) (vM_aside : AI) (H : Heap) (locs : List Loc) (ls : Array Slot), k56 x2 x3 x4 x5 x6 x7 vM_s vM_aside = some o → va_P D vwCl (wMo K jM aM vM_s RM.held vM_aside RM.before RM.isHeld RM.tape RM.taped RM.token RM.frm RM.to RM.value RM.isWrong RM.unpaired RM.bestSound RM.bestWay RM.rows RM.rowN RM.sortOf RM.sizeOf RM.numbers RM.holdsWhat RM.holdsWhich RM.holdsMany RM.bodies RM.ran RM.actKind RM.actN RM.actA RM.isParted) H → va_D A (wMo K jM aM vM_s RM.held vM_aside RM.before RM.isHeld RM.tape RM.taped RM.token RM.frm RM.to RM.value RM.isWrong RM.unpaired RM.bestSound RM.bestWay RM.rows RM.rowN RM.sortOf RM.sizeOf RM.numbers RM.holdsWhat RM.holdsWhich RM.holdsMany RM.bodies RM.ran RM.actKind RM.actN RM.actA RM.isParted) → va_S A s.heap H locs → lv_has ls 8 [(0, .ref jM), (2, .int x2), (3, .int x3), (4, .int x4), (5, .int x5), (6, .int x6), (7, .int x7)] → W p l e (headSpec wsX9_voiceFor rmX9_voiceFor).room s m ([.ref jM, .int p0, .int p1, .int p2] : List Value).toArray below meth c H locs 0 0 Q (F0 m 56 ls [])) (x2 : Int32) (x3 : Int32) (x4 : Int32) (x5 : Int32) (x7 : Int32) (t0 : Int32) (vM_s : AI) (vM_aside : AI) (H : Heap) (locs : List Loc) (ls : Array Slot), fX9_voiceFor_b93 RM k56 x2 x3 x4 x5 x7 t0 vM_s vM_aside = some o → va_P D vwCl (wMo K jM aM vM_s RM.held vM_aside RM.before RM.isHeld RM.tape RM.taped RM.token RM.frm RM.to RM.value RM.isWrong RM.unpaired RM.bestSound RM.bestWay RM.rows RM.rowN RM.sortOf RM.sizeOf RM.numbers RM.holdsWhat RM.holdsWhich RM.holdsMany RM.bodies RM.ran RM.actKind RM.actN RM.actA RM.isParted) H → va_D A (wMo K jM aM vM_s RM.held vM_aside RM.before RM.isHeld RM.tape RM.taped RM.token RM.frm RM.to RM.value RM.isWrong RM.unpaired RM.bestSound RM.bestWay RM.rows RM.rowN RM.sortOf RM.sizeOf RM.numbers RM.holdsWhat RM.holdsWhich RM.holdsMany RM.bodies RM.ran RM.actKind RM.actN RM.actA RM.isParted) → va_S A s.heap H locs → lv_has ls 8 [(0, .ref jM), (2, .int x2), (3, .int x3), (4, .int x4), (5, .int x5), (7, .int x7)] → W p l e (headSpec wsX9_voiceFor rmX9_voiceFor).room s m ([.ref jM, .int p0, .int p1, .int p2] : List Value).toArray below meth c H locs 0 0 Q (F0 m 93 ls [.int t0]) := by
    intro k56 hk56 x2 x3 x4 x5 x7 t0 vM_s vM_aside H locs ls hf hP hD hS hl
    delta fX9_voiceFor_b93 at hf
    refine lv_istore (lv' := [(6, .int t0), (0, .ref jM), (2, .int x2), (3, .int x3), (4, .int x4), (5, .int x5), (7, .int x7)]) hx hb dX9_voiceFor_93 hl (by decide) rfl (fun ls hl => ?_)
    obtain ⟨x7_3, ex7_3, hf⟩ := ht_nm_ob hf
    refine lv_iinc (v := x7_3) (lv' := [(7, .int x7_3), (6, .int t0), (0, .ref jM), (2, .int x2), (3, .int x3), (4, .int x4), (5, .int x5)]) hx hb dX9_voiceFor_95 hl (k := 6) rfl (by rw [ex7_3]; rfl) (by decide) rfl (fun ls hl => ?_)
    refine lv_goto (tgt := 56) hx hb dX9_voiceFor_98 (by decide) ?_
    exact hk56 x2 x3 x4 x5 t0 x7_3 vM_s vM_aside _ _ _ hf hP hD hS (lv_sub hl [2, 3, 4, 5, 6, 1, 0] rfl)
  have b56 : ∀ (n : Nat) (x2 : Int32) (x3 : Int32) (x4 : Int32) (x5 : Int32) (x6 : Int32) (x7 : Int32) (vM_s : AI) (vM_aside : AI) (H : Heap) (locs : List Loc) (ls : Array Slot), ht_lp8 (fX9_voiceFor_b56 RM) n x2 x3 x4 x5 x6 x7 vM_s vM_aside = some o → va_P D vwCl (wMo K jM aM vM_s RM.held vM_aside RM.before RM.isHeld RM.tape RM.taped RM.token RM.frm RM.to RM.value RM.isWrong RM.unpaired RM.bestSound RM.bestWay RM.rows RM.rowN RM.sortOf RM.sizeOf RM.numbers RM.holdsWhat RM.holdsWhich RM.holdsMany RM.bodies RM.ran RM.actKind RM.actN RM.actA RM.isParted) H → va_D A (wMo K jM aM vM_s RM.held vM_aside RM.before RM.isHeld RM.tape RM.taped RM.token RM.frm RM.to RM.value RM.isWrong RM.unpaired RM.bestSound RM.bestWay RM.rows RM.rowN RM.sortOf RM.sizeOf RM.numbers RM.holdsWhat RM.holdsWhich RM.holdsMany RM.bodies RM.ran RM.actKind RM.actN RM.actA RM.isParted) → va_S A s.heap H locs → lv_has ls 8 [(0, .ref jM), (2, .int x2), (3, .int x3), (4, .int x4), (5, .int x5), (6, .int x6), (7, .int x7)] → W p l e (headSpec wsX9_voiceFor rmX9_voiceFor).room s m ([.ref jM, .int p0, .int p1, .int p2] : List Value).toArray below meth c H locs 0 0 Q (F0 m 56 ls []) := by
    intro n
    induction n with
    | zero =>
      intro x2 x3 x4 x5 x6 x7 vM_s vM_aside H locs ls hf hP hD hS hl
      cases (show (none : Option (Int32 × AI × AI)) = some o from hf)
    | succ n hk56 =>
      intro x2 x3 x4 x5 x6 x7 vM_s vM_aside H locs ls hf hP hD hS hl
      replace hf : fX9_voiceFor_b56 RM (ht_lp8 (fX9_voiceFor_b56 RM) n) x2 x3 x4 x5 x6 x7 vM_s vM_aside = some o := hf
      delta fX9_voiceFor_b56 at hf
      refine lv_iload hx hb dX9_voiceFor_56 (lv_at hl 6 rfl) ?_
      refine lv_bipush (v := 9) hx hb dX9_voiceFor_58 (by decide) ?_
      refine lv_icmp_gt (tgt := 101) hx hb dX9_voiceFor_60 (by decide) (fun c_4 => ?_) (fun c_4 => ?_)
      · replace hf := ht_t c_4 hf
        exact b101  x4 x5 x6 vM_s vM_aside _ _ _ hf hP hD hS (lv_sub hl [0, 3, 4, 5] rfl)
      · replace hf := ht_f c_4 hf
        refine lv_iload hx hb dX9_voiceFor_63 (lv_at hl 5 rfl) ?_
        refine lv_if_ge (tgt := 101) hx hb dX9_voiceFor_65 (by decide) (fun c_5 => ?_) (fun c_5 => ?_)
        · replace hf := ht_t c_5 hf
          exact b101  x4 x5 x6 vM_s vM_aside _ _ _ hf hP hD hS (lv_sub hl [0, 3, 4, 5] rfl)
        · replace hf := ht_f c_5 hf
          refine lv_aload_n hx hb dX9_voiceFor_68 rfl (lv_at hl 0 rfl) ?_
          refine va_get (D := D) (ci := 9) (v := .ref (aM 0)) (C := RX9) (T := TX9) (N := 29) hx hb hts iw9 hown hK hP 0 rfl rfl 0 (by decide) kw1 (fun _ h9 => h9) rfl dX9_voiceFor_69 ?_
          refine lv_iload hx hb dX9_voiceFor_72 (lv_at hl 3 rfl) ?_
          refine lv_iload hx hb dX9_voiceFor_74 (lv_at hl 6 rfl) ?_
          obtain ⟨g_6, hf⟩ := ht_gd_ob hf
          obtain ⟨vM_s_7, evM_s_7, hf⟩ := ht_nm_ob hf
          refine ht_iast (w2 := (wMo K jM aM vM_s_7 RM.held vM_aside RM.before RM.isHeld RM.tape RM.taped RM.token RM.frm RM.to RM.value RM.isWrong RM.unpaired RM.bestSound RM.bestWay RM.rows RM.rowN RM.sortOf RM.sizeOf RM.numbers RM.holdsWhat RM.holdsWhich RM.holdsMany RM.bodies RM.ran RM.actKind RM.actN RM.actA RM.isParted)) hx hb hK hP hD hS 1 1 rfl rfl g_6 dX9_voiceFor_76 evM_s_7 rfl (fun H locs hP hD hS => ?_)
          refine lv_aload_n hx hb dX9_voiceFor_77 rfl (lv_at hl 0 rfl) ?_
          refine lv_iload_n hx hb dX9_voiceFor_78 rfl (lv_at hl 1 rfl) ?_
          obtain ⟨o_8, ho_8, hf⟩ := ht_bn_ob hf
          refine ht_callVi (r := o_8.1) (rest := []) (As := [.int x2]) (wc := (wMo K jM aM vM_s_7 RM.held vM_aside RM.before RM.isHeld RM.tape RM.taped RM.token RM.frm RM.to RM.value RM.isWrong RM.unpaired RM.bestSound RM.bestWay RM.rows RM.rowN RM.sortOf RM.sizeOf RM.numbers RM.holdsWhat RM.holdsWhich RM.holdsMany RM.bodies RM.ran RM.actKind RM.actN RM.actA RM.isParted)) (wr := []) (w1 := (wMo K jM aM o_8.2.1 RM.held o_8.2.2 RM.before RM.isHeld RM.tape RM.taped RM.token RM.frm RM.to RM.value RM.isWrong RM.unpaired RM.bestSound RM.bestWay RM.rows RM.rowN RM.sortOf RM.sizeOf RM.numbers RM.holdsWhat RM.holdsWhich RM.holdsMany RM.bodies RM.ran RM.actKind RM.actN RM.actA RM.isParted)) (w2 := (wMo K jM aM o_8.2.1 RM.held o_8.2.2 RM.before RM.isHeld RM.tape RM.taped RM.token RM.frm RM.to RM.value RM.isWrong RM.unpaired RM.bestSound RM.bestWay RM.rows RM.rowN RM.sortOf RM.sizeOf RM.numbers RM.holdsWhat RM.holdsWhich RM.holdsMany RM.bodies RM.ran RM.actKind RM.actN RM.actA RM.isParted)) hF (ctX9_soundBy l D K jM aM (vM_s_7, RM.held, vM_aside, RM.before, RM.isHeld, RM.tape, RM.taped, RM.token, RM.frm, RM.to, RM.value, RM.isWrong, RM.unpaired, RM.bestSound, RM.bestWay, RM.rows, RM.rowN, RM.sortOf, RM.sizeOf, RM.numbers, RM.holdsWhat, RM.holdsWhich, RM.holdsMany, RM.bodies, RM.ran, RM.actKind, RM.actN, RM.actA, RM.isParted) x2 o_8 ho_8 H.size) (cwV 1 hts gX9_voiceFor_X9_soundBy rfl rfl rfl hdX9_soundBy ⟨Nat.le_of_ble_eq_true rfl, Nat.le_of_ble_eq_true rfl⟩) hK hP hD hS hA [0, 1, 2, 3, 4, 5, 6, 7, 8, 9, 10, 11, 12, 13, 14, 15] [] rfl rfl (by decide) (by decide) (by decide) [0, 1, 2, 3, 4, 5, 6, 7, 8, 9, 10, 11, 12, 13, 14, 15] rfl (by decide) (va_recv hK hP (ci := 9) (q0 := 0) rfl rfl) rfl hl.1 rfl (Nat.le_of_ble_eq_true rfl) dX9_voiceFor_79 ⟨Nat.zero_le _, Nat.zero_le _⟩ (fun H locs hP hD hS => ?_)
          refine lv_iload_n hx hb dX9_voiceFor_82 rfl (lv_at hl 2 rfl) ?_
          refine lv_icmp_lt (tgt := 91) hx hb dX9_voiceFor_83 (by decide) (fun c_9 => ?_) (fun c_9 => ?_)
          · replace hf := ht_t c_9 hf
            refine lv_bipush (v := -3) hx hb dX9_voiceFor_91 (by decide) ?_
            exact b93 _ hk56 x2 x3 x4 x5 x7 (-3 : Int32) o_8.2.1 o_8.2.2 _ _ _ hf hP hD hS (lv_sub hl [0, 1, 2, 3, 4, 6] rfl)
          · replace hf := ht_f c_9 hf
            refine lv_iload hx hb dX9_voiceFor_86 (lv_at hl 6 rfl) ?_
            refine lv_goto (tgt := 93) hx hb dX9_voiceFor_88 (by decide) ?_
            exact b93 _ hk56 x2 x3 x4 x5 x7 x7 o_8.2.1 o_8.2.2 _ _ _ hf hP hD hS (lv_sub hl [0, 1, 2, 3, 4, 6] rfl)
  delta fX9_voiceFor at hf
  refine lv_aload_n hx hb dX9_voiceFor_0 rfl (lv_at hl 0 rfl) ?_
  refine lv_iload_n hx hb dX9_voiceFor_1 rfl (lv_at hl 1 rfl) ?_
  obtain ⟨o_10, ho_10, hf⟩ := ht_bn_ob hf
  refine ht_callVi (r := o_10) (rest := []) (As := [.int p0]) (wc := (wMo K jM aM RM.s RM.held RM.aside RM.before RM.isHeld RM.tape RM.taped RM.token RM.frm RM.to RM.value RM.isWrong RM.unpaired RM.bestSound RM.bestWay RM.rows RM.rowN RM.sortOf RM.sizeOf RM.numbers RM.holdsWhat RM.holdsWhich RM.holdsMany RM.bodies RM.ran RM.actKind RM.actN RM.actA RM.isParted)) (wr := []) (w1 := (wMo K jM aM RM.s RM.held RM.aside RM.before RM.isHeld RM.tape RM.taped RM.token RM.frm RM.to RM.value RM.isWrong RM.unpaired RM.bestSound RM.bestWay RM.rows RM.rowN RM.sortOf RM.sizeOf RM.numbers RM.holdsWhat RM.holdsWhich RM.holdsMany RM.bodies RM.ran RM.actKind RM.actN RM.actA RM.isParted)) (w2 := (wMo K jM aM RM.s RM.held RM.aside RM.before RM.isHeld RM.tape RM.taped RM.token RM.frm RM.to RM.value RM.isWrong RM.unpaired RM.bestSound RM.bestWay RM.rows RM.rowN RM.sortOf RM.sizeOf RM.numbers RM.holdsWhat RM.holdsWhich RM.holdsMany RM.bodies RM.ran RM.actKind RM.actN RM.actA RM.isParted)) hF (ctX9_isOne l D K jM aM RM p0 o_10 ho_10 H.size) (cwV 1 hts gX9_voiceFor_X9_isOne rfl rfl rfl hdX9_isOne ⟨Nat.le_of_ble_eq_true rfl, Nat.le_of_ble_eq_true rfl⟩) hK hP hD hS hA [0, 1, 2, 3, 4, 5, 6, 7, 8, 9, 10, 11, 12, 13, 14, 15] [] rfl rfl (by decide) (by decide) (by decide) [0, 1, 2, 3, 4, 5, 6, 7, 8, 9, 10, 11, 12, 13, 14, 15] rfl (by decide) (va_recv hK hP (ci := 9) (q0 := 0) rfl rfl) rfl hl.1 rfl (Nat.le_of_ble_eq_true rfl) dX9_voiceFor_2 ⟨Nat.zero_le _, Nat.zero_le _⟩ (fun H locs hP hD hS => ?_)
  refine lv_if_eq (tgt := 27) hx hb dX9_voiceFor_5 (by decide) (fun c_11 => ?_) (fun c_11 => ?_)
  · replace hf := ht_t c_11 hf
    refine lv_iconst (v := -1) hx hb dX9_voiceFor_27 (by decide) ?_
    have ho := Option.some.inj hf
    subst ho; subst hQ
    exact ht_iret hx hb hr hlk rfl hK hP hD hS dX9_voiceFor_28
  · replace hf := ht_f c_11 hf
    refine lv_iload_n hx hb dX9_voiceFor_8 rfl (lv_at hl 2 rfl) ?_
    obtain ⟨o_12, ho_12, hf⟩ := ht_bn_ob hf
    refine ht_callSi (r := o_12) (rest := []) (As := [.int p1]) (wc := []) (wr := (wMo K jM aM RM.s RM.held RM.aside RM.before RM.isHeld RM.tape RM.taped RM.token RM.frm RM.to RM.value RM.isWrong RM.unpaired RM.bestSound RM.bestWay RM.rows RM.rowN RM.sortOf RM.sizeOf RM.numbers RM.holdsWhat RM.holdsWhich RM.holdsMany RM.bodies RM.ran RM.actKind RM.actN RM.actA RM.isParted)) (w1 := []) (w2 := (wMo K jM aM RM.s RM.held RM.aside RM.before RM.isHeld RM.tape RM.taped RM.token RM.frm RM.to RM.value RM.isWrong RM.unpaired RM.bestSound RM.bestWay RM.rows RM.rowN RM.sortOf RM.sizeOf RM.numbers RM.holdsWhat RM.holdsWhich RM.holdsMany RM.bodies RM.ran RM.actKind RM.actN RM.actA RM.isParted)) hF (ctX9_isShort l D K p1 o_12 ho_12 H.size) (va_cwS 1 hts gX9_voiceFor_X9_isShort rfl rfl rfl hdX9_isShort ⟨Nat.le_of_ble_eq_true rfl, Nat.le_of_ble_eq_true rfl⟩) hK hP hD hS hA [] [0, 1, 2, 3, 4, 5, 6, 7, 8, 9, 10, 11, 12, 13, 14, 15] rfl rfl (by decide) (by decide) (by decide) [0, 1, 2, 3, 4, 5, 6, 7, 8, 9, 10, 11, 12, 13, 14, 15] rfl (by decide) rfl hl.1 rfl (Nat.le_of_ble_eq_true rfl) dX9_voiceFor_9 ⟨Nat.zero_le _, Nat.zero_le _⟩ (fun H locs hP hD hS => ?_)
    refine lv_if_eq (tgt := 27) hx hb dX9_voiceFor_12 (by decide) (fun c_13 => ?_) (fun c_13 => ?_)
    · replace hf := ht_t c_13 hf
      refine lv_iconst (v := -1) hx hb dX9_voiceFor_27 (by decide) ?_
      have ho := Option.some.inj hf
      subst ho; subst hQ
      exact ht_iret hx hb hr hlk rfl hK hP hD hS dX9_voiceFor_28
    · replace hf := ht_f c_13 hf
      refine lv_iload_n hx hb dX9_voiceFor_15 rfl (lv_at hl 3 rfl) ?_
      refine lv_i2l hx hb dX9_voiceFor_16 rfl ?_
      refine lv_lconst (v := 0) hx hb dX9_voiceFor_17 (by decide) ?_
      refine lv_ldc2 hx hb hown kw2 dX9_voiceFor_18 ?_
      obtain ⟨o_14, ho_14, hf⟩ := ht_bn_ob hf
      refine ht_callSi (r := o_14) (rest := []) (As := [.long p2.toInt64, .long (0 : Int64), .long (9999 : Int64)]) (wc := []) (wr := (wMo K jM aM RM.s RM.held RM.aside RM.before RM.isHeld RM.tape RM.taped RM.token RM.frm RM.to RM.value RM.isWrong RM.unpaired RM.bestSound RM.bestWay RM.rows RM.rowN RM.sortOf RM.sizeOf RM.numbers RM.holdsWhat RM.holdsWhich RM.holdsMany RM.bodies RM.ran RM.actKind RM.actN RM.actA RM.isParted)) (w1 := []) (w2 := (wMo K jM aM RM.s RM.held RM.aside RM.before RM.isHeld RM.tape RM.taped RM.token RM.frm RM.to RM.value RM.isWrong RM.unpaired RM.bestSound RM.bestWay RM.rows RM.rowN RM.sortOf RM.sizeOf RM.numbers RM.holdsWhat RM.holdsWhich RM.holdsMany RM.bodies RM.ran RM.actKind RM.actN RM.actA RM.isParted)) hF (ctX9_isIn l D K p2.toInt64 (0 : Int64) (9999 : Int64) o_14 ho_14 H.size) (va_cwS 3 hts gX9_voiceFor_X9_isIn rfl rfl rfl hdX9_isIn ⟨Nat.le_of_ble_eq_true rfl, Nat.le_of_ble_eq_true rfl⟩) hK hP hD hS hA [] [0, 1, 2, 3, 4, 5, 6, 7, 8, 9, 10, 11, 12, 13, 14, 15] rfl rfl (by decide) (by decide) (by decide) [0, 1, 2, 3, 4, 5, 6, 7, 8, 9, 10, 11, 12, 13, 14, 15] rfl (by decide) rfl hl.1 rfl (Nat.le_of_ble_eq_true rfl) dX9_voiceFor_21 ⟨Nat.zero_le _, Nat.zero_le _⟩ (fun H locs hP hD hS => ?_)
      refine lv_if_ne (tgt := 29) hx hb dX9_voiceFor_24 (by decide) (fun c_15 => ?_) (fun c_15 => ?_)
      · replace hf := ht_f c_15 hf
        refine lv_bipush (v := 9) hx hb dX9_voiceFor_29 (by decide) ?_
        refine lv_bipush (v := 6) hx hb dX9_voiceFor_31 (by decide) ?_
        refine lv_iload_n hx hb dX9_voiceFor_33 rfl (lv_at hl 1 rfl) ?_
        refine lv_imul hx hb dX9_voiceFor_34 ?_
        refine lv_iadd hx hb dX9_voiceFor_35 ?_
        refine lv_iconst (v := 3) hx hb dX9_voiceFor_36 (by decide) ?_
        refine lv_iadd hx hb dX9_voiceFor_37 ?_
        obtain ⟨x4_16, ex4_16, hf⟩ := ht_nm_ob hf
        rw [← ex4_16]
        refine lv_istore (lv' := [(4, .int x4_16), (0, .ref jM), (1, .int p0), (2, .int p1), (3, .int p2)]) hx hb dX9_voiceFor_38 hl (by decide) rfl (fun ls hl => ?_)
        refine lv_aload_n hx hb dX9_voiceFor_40 rfl (lv_at hl 1 rfl) ?_
        refine va_get (D := D) (ci := 9) (v := .ref (aM 0)) (C := RX9) (T := TX9) (N := 29) hx hb hts iw9 hown hK hP 0 rfl rfl 0 (by decide) kw1 (fun _ h9 => h9) rfl dX9_voiceFor_41 ?_
        refine lv_iload hx hb dX9_voiceFor_44 (lv_at hl 0 rfl) ?_
        obtain ⟨g_17, hf⟩ := ht_gd_ob hf
        refine va_iald hx hb hK hP 1 1 rfl rfl (ht_ix_in g_17) dX9_voiceFor_46 ?_
        obtain ⟨x5_18, ex5_18, hf⟩ := ht_nm_ob hf
        rw [← ex5_18]
        refine lv_istore (lv' := [(5, .int x5_18), (4, .int x4_16), (0, .ref jM), (1, .int p0), (2, .int p1), (3, .int p2)]) hx hb dX9_voiceFor_47 hl (by decide) rfl (fun ls hl => ?_)
        refine lv_bipush (v := -3) hx hb dX9_voiceFor_49 (by decide) ?_
        refine lv_istore (lv' := [(6, .int (-3 : Int32)), (5, .int x5_18), (4, .int x4_16), (0, .ref jM), (1, .int p0), (2, .int p1), (3, .int p2)]) hx hb dX9_voiceFor_51 hl (by decide) rfl (fun ls hl => ?_)
        refine lv_iconst (v := 0) hx hb dX9_voiceFor_53 (by decide) ?_
        refine lv_istore (lv' := [(7, .int (0 : Int32)), (6, .int (-3 : Int32)), (5, .int x5_18), (4, .int x4_16), (0, .ref jM), (1, .int p0), (2, .int p1), (3, .int p2)]) hx hb dX9_voiceFor_54 hl (by decide) rfl (fun ls hl => ?_)
        exact b56  FU p1 p2 x4_16 x5_18 (-3 : Int32) (0 : Int32) RM.s RM.aside _ _ _ hf hP hD hS (lv_sub hl [4, 6, 7, 3, 2, 1, 0] rfl)
      · replace hf := ht_t c_15 hf
        refine lv_iconst (v := -1) hx hb dX9_voiceFor_27 (by decide) ?_
        have ho := Option.some.inj hf
        subst ho; subst hQ
        exact ht_iret hx hb hr hlk rfl hK hP hD hS dX9_voiceFor_28
