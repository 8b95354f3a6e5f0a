theorem x8_sheet_end {D : va_G} {K : Nat → ClassId} {H : Heap} {ws : va_W} {a : Nat} {f : AQ} {q : Nat} {u : Nat → Nat} {p1 : Int32} {k : Nat} (hk : k ≤ 40) (h : va_P D vwCl (ws ++ (wAq K 4 a f ++ (wRo K q u p1 (fun _ => 0) k))) H) : va_P D vwCl (ws ++ (wAq K 4 a f ++ (wRo K q u p1 (fun _ => 0) (nI k).toNatClampNeg))) H := by rw [nI_clamp (by omega)]; exact h
theorem x8_sheet_endD {K : Nat → ClassId} {A : Nat → Prop} {ws : va_W} {a : Nat} {f : AQ} {q : Nat} {u : Nat → Nat} {p1 : Int32} {k : Nat} (hk : k ≤ 40) (h : va_D A (ws ++ (wAq K 4 a f ++ (wRo K q u p1 (fun _ => 0) k)))) : va_D A (ws ++ (wAq K 4 a f ++ (wRo K q u p1 (fun _ => 0) (nI k).toNatClampNeg))) := by rw [nI_clamp (by omega)]; exact h
abbrev rmX8_sheet_n : Room := { frames := 2, cells := 0, slots := 0, locals := 42 }
theorem hdX8_sheet : yX8_sheet.cls = RX8 ∧ yX8_sheet.cls ≠ "java/lang/invoke/MethodHandle" ∧ yX8_sheet.cls ≠ "java/lang/invoke/VarHandle" ∧ (parseMethodDescriptor yX8_sheet.desc).map (fun d => d.parameters.length) = some 3 := by decide +kernel
def fX8_sheet_n (RX : HTV) (RG : AQ) (p0 : Int32) (p1 : Int32) (p2 : Int32) : Option (Int32 × AQ) := ht_bn (fX8_isSheet p0) (fun o_1 => if o_1 = 0 then (some ((-1 : Int32), RG)) else (ht_bn (fX8_within p1 (-1 : Int32) (3 : Int32)) (fun o_3 => if o_3 = 0 then (some ((-1 : Int32), RG)) else (if p1 = (-1 : Int32) then (ht_gd (ht_ix p0 4) (ht_nm (va_up RG p0.toNatClampNeg none) (fun vG_v_9 => some ((1 : Int32), vG_v_9)))) else (if p2 ≤ (40 : Int32) then (if 0 ≤ p2 then (none) else (some ((-14 : Int32), RG))) else (some ((-1 : Int32), RG)))))))
set_option maxHeartbeats 1000000 in
set_option maxRecDepth 100000 in
theorem ctX8_sheet_n (l : Launch) (D : va_G) (K : Nat → ClassId) (jX : Nat) (jG : Nat) (kX_now : Nat) (kX_kept : Nat) (kX_tried : Nat) (kX_trials : Nat) (kX_pairings : Nat) (kX_tape : Nat) (kX_telling : Nat) (kX_dayRows : Nat) (kX_deed : Nat) (kX_shelvedPerson : Nat) (kX_shelvedRow : Nat) (RX : HTV) (RG : AQ) (p0 : Int32) (p1 : Int32) (p2 : Int32) (o : (Int32 × AQ)) (hf : fX8_sheet_n RX RG p0 p1 p2 = some o) (sz : Nat) : Met l yX8_sheet wsX8_sheet rmX8_sheet_n (ht_Pre D K [.ref jX, .int p0, .int p1, .int p2] (wHT K jX kX_now kX_kept kX_tried kX_trials kX_pairings kX_tape kX_telling kX_dayRows kX_deed jG kX_shelvedPerson kX_shelvedRow RX.anythingKept ++ (wAq K 4 jG RG)) sz) (ht_Qi D K (wHT K jX kX_now kX_kept kX_tried kX_trials kX_pairings kX_tape kX_telling kX_dayRows kX_deed jG kX_shelvedPerson kX_shelvedRow RX.anythingKept ++ (wAq K 4 jG o.2)) o.1 (va_A (wHT K jX kX_now kX_kept kX_tried kX_trials kX_pairings kX_tape kX_telling kX_dayRows kX_deed jG kX_shelvedPerson kX_shelvedRow RX.anythingKept ++ (wAq K 4 jG RG)) sz)) 0 0 (va_A (wHT K jX kX_now kX_kept kX_tried kX_trials kX_pairings kX_tape kX_telling kX_dayRows kX_deed jG kX_shelvedPerson kX_shelvedRow RX.anythingKept ++ (wAq K 4 jG RG)) sz) := by
  refine ht_enter (Qf := ht_Qi D K (wHT K jX kX_now kX_kept kX_tried kX_trials kX_pairings kX_tape kX_telling kX_dayRows kX_deed jG kX_shelvedPerson kX_shelvedRow RX.anythingKept ++ (wAq K 4 jG o.2)) o.1) (cc := cX8_sheet) (maxL := 4) (rt := (some .int)) (by decide) rfl (Nat.le_of_ble_eq_true rfl) ?_ sz
  intro p e s m below meth c A Q H locs ls hQ hx hb hr hlk hmn hml hown hts hA hK hP hD hS hl
  have hown : s.vm.findClass RX8 = some m.cls := hown
  have hF : CallFix p m c cX8_sheet 4 s ([.ref jX, .int p0, .int p1, .int p2] : List Value).toArray wsX8_sheet RX8 := ⟨hx, hb, hml, hown, hts⟩
  have hl : lv_has ls 4 [(0, .ref jX), (1, .int p0), (2, .int p1), (3, .int p2)] := hl
  have iw8 : ∀ w ∈ u_ws RX8 TX8 13, w ∈ wsX8_sheet := by decide +kernel
  have kw1 := hts (.fieldLink RX8 72 "HeldTongues" "sheets" "[LHeldTongues$SheetRow;") (by decide +kernel)
  delta fX8_sheet_n at hf
  refine lv_iload_n hx hb dX8_sheet_0 rfl (lv_at hl 1 rfl) ?_
  obtain ⟨o_1, ho_1, hf⟩ := ht_bn_ob hf
  refine ht_callSi (r := o_1) (rest := []) (As := [.int p0]) (wc := []) (wr := (wHT K jX kX_now kX_kept kX_tried kX_trials kX_pairings kX_tape kX_telling kX_dayRows kX_deed jG kX_shelvedPerson kX_shelvedRow RX.anythingKept ++ (wAq K 4 jG RG))) (w1 := []) (w2 := (wHT K jX kX_now kX_kept kX_tried kX_trials kX_pairings kX_tape kX_telling kX_dayRows kX_deed jG kX_shelvedPerson kX_shelvedRow RX.anythingKept ++ (wAq K 4 jG RG))) hF (ctX8_isSheet l D K p0 o_1 ho_1 H.size) (va_cwS 1 hts gX8_sheet_X8_isSheet rfl rfl rfl hdX8_isSheet ⟨Nat.le_of_ble_eq_true rfl, Nat.le_of_ble_eq_true rfl⟩) hK hP hD hS hA [] [0, 1] rfl rfl (by decide) (by decide) (by decide) [0, 1] rfl (by decide) rfl hl.1 rfl (Nat.le_of_ble_eq_true rfl) dX8_sheet_1 ⟨Nat.zero_le _, Nat.zero_le _⟩ (fun H locs hP hD hS => ?_)
  refine lv_if_eq (tgt := 16) hx hb dX8_sheet_4 (by decide) (fun c_2 => ?_) (fun c_2 => ?_)
  · replace hf := ht_t c_2 hf
    refine lv_iconst (v := -1) hx hb dX8_sheet_16 (by decide) ?_
    have ho := Option.some.inj hf
    subst ho; subst hQ
    exact ht_iret hx hb hr hlk rfl hK hP hD hS dX8_sheet_17
  · replace hf := ht_f c_2 hf
    refine lv_iload_n hx hb dX8_sheet_7 rfl (lv_at hl 2 rfl) ?_
    refine lv_iconst (v := -1) hx hb dX8_sheet_8 (by decide) ?_
    refine lv_iconst (v := 3) hx hb dX8_sheet_9 (by decide) ?_
    obtain ⟨o_3, ho_3, hf⟩ := ht_bn_ob hf
    refine ht_callSi (r := o_3) (rest := []) (As := [.int p1, .int (-1 : Int32), .int (3 : Int32)]) (wc := []) (wr := (wHT K jX kX_now kX_kept kX_tried kX_trials kX_pairings kX_tape kX_telling kX_dayRows kX_deed jG kX_shelvedPerson kX_shelvedRow RX.anythingKept ++ (wAq K 4 jG RG))) (w1 := []) (w2 := (wHT K jX kX_now kX_kept kX_tried kX_trials kX_pairings kX_tape kX_telling kX_dayRows kX_deed jG kX_shelvedPerson kX_shelvedRow RX.anythingKept ++ (wAq K 4 jG RG))) hF (ctX8_within l D K p1 (-1 : Int32) (3 : Int32) o_3 ho_3 H.size) (va_cwS 3 hts gX8_sheet_X8_within rfl rfl rfl hdX8_within ⟨Nat.le_of_ble_eq_true rfl, Nat.le_of_ble_eq_true rfl⟩) hK hP hD hS hA [] [0, 1] rfl rfl (by decide) (by decide) (by decide) [0, 1] rfl (by decide) rfl hl.1 rfl (Nat.le_of_ble_eq_true rfl) dX8_sheet_10 ⟨Nat.zero_le _, Nat.zero_le _⟩ (fun H locs hP hD hS => ?_)
    refine lv_if_ne (tgt := 18) hx hb dX8_sheet_13 (by decide) (fun c_4 => ?_) (fun c_4 => ?_)
    · replace hf := ht_f c_4 hf
      refine lv_iload_n hx hb dX8_sheet_18 rfl (lv_at hl 2 rfl) ?_
      refine lv_iconst (v := -1) hx hb dX8_sheet_19 (by decide) ?_
      refine lv_icmp_ne (tgt := 32) hx hb dX8_sheet_20 (by decide) (fun c_5 => ?_) (fun c_5 => ?_)
      · replace hf := ht_f c_5 hf
        refine lv_iload_n hx hb dX8_sheet_32 rfl (lv_at hl 3 rfl) ?_
        refine lv_bipush (v := 40) hx hb dX8_sheet_33 (by decide) ?_
        refine lv_icmp_le (tgt := 40) hx hb dX8_sheet_35 (by decide) (fun c_6 => ?_) (fun c_6 => ?_)
        · replace hf := ht_t c_6 hf
          refine lv_iload_n hx hb dX8_sheet_40 rfl (lv_at hl 3 rfl) ?_
          refine lv_if_ge (tgt := 47) hx hb dX8_sheet_41 (by decide) (fun c_7 => ?_) (fun c_7 => ?_)
          · replace hf := ht_t c_7 hf
            refine lv_aload_n hx hb dX8_sheet_47 rfl (lv_at hl 0 rfl) ?_
            refine va_get (D := D) (ci := 8) (v := .ref jG) (C := RX8) (T := TX8) (N := 13) hx hb hts iw8 hown hK hP 0 rfl rfl 9 (by decide) kw1 (fun _ h9 => h9) rfl dX8_sheet_48 ?_
            refine lv_iload_n hx hb dX8_sheet_51 rfl (lv_at hl 1 rfl) ?_
            cases hf
          · replace hf := ht_f c_7 hf
            refine lv_bipush (v := -14) hx hb dX8_sheet_44 (by decide) ?_
            have ho := Option.some.inj hf
            subst ho; subst hQ
            exact ht_iret hx hb hr hlk rfl hK hP hD hS dX8_sheet_46
        · replace hf := ht_f c_6 hf
          refine lv_iconst (v := -1) hx hb dX8_sheet_38 (by decide) ?_
          have ho := Option.some.inj hf
          subst ho; subst hQ
          exact ht_iret hx hb hr hlk rfl hK hP hD hS dX8_sheet_39
      · replace hf := ht_t c_5 hf
        refine lv_aload_n hx hb dX8_sheet_23 rfl (lv_at hl 0 rfl) ?_
        refine va_get (D := D) (ci := 8) (v := .ref jG) (C := RX8) (T := TX8) (N := 13) hx hb hts iw8 hown hK hP 0 rfl rfl 9 (by decide) kw1 (fun _ h9 => h9) rfl dX8_sheet_24 ?_
        refine lv_iload_n hx hb dX8_sheet_27 rfl (lv_at hl 1 rfl) ?_
        refine lv_null hx hb dX8_sheet_28 ?_
        obtain ⟨g_8, hf⟩ := ht_gd_ob hf
        obtain ⟨vG_v_9, evG_v_9, hf⟩ := ht_nm_ob hf
        refine ht_aastN (w2 := (wHT K jX kX_now kX_kept kX_tried kX_trials kX_pairings kX_tape kX_telling kX_dayRows kX_deed jG kX_shelvedPerson kX_shelvedRow RX.anythingKept ++ (wAq K 4 jG vG_v_9))) hx hb hK hP hD hS 1 4 rfl rfl g_8 dX8_sheet_29 evG_v_9 rfl (fun H locs hP hD hS => ?_)
        refine lv_iconst (v := 1) hx hb dX8_sheet_30 (by decide) ?_
        have ho := Option.some.inj hf
        subst ho; subst hQ
        exact ht_iret hx hb hr hlk rfl hK hP hD hS dX8_sheet_31
    · replace hf := ht_t c_4 hf
      refine lv_iconst (v := -1) hx hb dX8_sheet_16 (by decide) ?_
      have ho := Option.some.inj hf
      subst ho; subst hQ
      exact ht_iret hx hb hr hlk rfl hK hP hD hS dX8_sheet_17
abbrev rmX8_sheet_a : Room := { frames := 2, cells := 2, slots := 42, locals := 62 }
def fX8_sheet_a (RX : HTV) (RG : AQ) (p0 : Int32) (p1 : Int32) (p2 : Int32) : Option Unit := ht_bn (fX8_isSheet p0) (fun o_1 => if o_1 = 0 then (none) else (ht_bn (fX8_within p1 (-1 : Int32) (3 : Int32)) (fun o_3 => if o_3 = 0 then (none) else (if p1 = (-1 : Int32) then (ht_gd (ht_ix p0 4) (ht_nm (va_up RG p0.toNatClampNeg none) (fun vG_v_11 => none))) else (if p2 ≤ (40 : Int32) then (if 0 ≤ p2 then (ht_gd (decide (¬ p2 < 0 ∧ p2 ≤ 40)) (ht_gd (ht_ix p0 4) (some ()))) else (none)) else (none))))))
set_option maxHeartbeats 1000000 in
set_option maxRecDepth 100000 in
theorem ctX8_sheet_a (l : Launch) (D : va_G) (K : Nat → ClassId) (jX : Nat) (jG : Nat) (kX_now : Nat) (kX_kept : Nat) (kX_tried : Nat) (kX_trials : Nat) (kX_pairings : Nat) (kX_tape : Nat) (kX_telling : Nat) (kX_dayRows : Nat) (kX_deed : Nat) (kX_shelvedPerson : Nat) (kX_shelvedRow : Nat) (RX : HTV) (RG : AQ) (p0 : Int32) (p1 : Int32) (p2 : Int32) (o : Unit) (hf : fX8_sheet_a RX RG p0 p1 p2 = some o) (sz : Nat) : Met l yX8_sheet wsX8_sheet rmX8_sheet_a (ht_Pre D K [.ref jX, .int p0, .int p1, .int p2] (wHT K jX kX_now kX_kept kX_tried kX_trials kX_pairings kX_tape kX_telling kX_dayRows kX_deed jG kX_shelvedPerson kX_shelvedRow RX.anythingKept ++ (wAq K 4 jG RG)) sz) (ht_Qm D K (S := Nat × (Nat → Nat)) (fun u => (wHT K jX kX_now kX_kept kX_tried kX_trials kX_pairings kX_tape kX_telling kX_dayRows kX_deed jG kX_shelvedPerson kX_shelvedRow RX.anythingKept ++ (wAq K 4 jG (va_up RG p0.toNatClampNeg (some u.1)) ++ (wRo K u.1 u.2 p1 (fun _ => 0) p2.toNatClampNeg)))) 1 (va_A (wHT K jX kX_now kX_kept kX_tried kX_trials kX_pairings kX_tape kX_telling kX_dayRows kX_deed jG kX_shelvedPerson kX_shelvedRow RX.anythingKept ++ (wAq K 4 jG RG)) sz)) 2 42 (va_A (wHT K jX kX_now kX_kept kX_tried kX_trials kX_pairings kX_tape kX_telling kX_dayRows kX_deed jG kX_shelvedPerson kX_shelvedRow RX.anythingKept ++ (wAq K 4 jG RG)) sz) := by
  refine ht_enter (Qf := ht_Qm D K (S := Nat × (Nat → Nat)) (fun u => (wHT K jX kX_now kX_kept kX_tried kX_trials kX_pairings kX_tape kX_telling kX_dayRows kX_deed jG kX_shelvedPerson kX_shelvedRow RX.anythingKept ++ (wAq K 4 jG (va_up RG p0.toNatClampNeg (some u.1)) ++ (wRo K u.1 u.2 p1 (fun _ => 0) p2.toNatClampNeg)))) 1) (cc := cX8_sheet) (maxL := 4) (rt := (some .int)) (by decide) rfl (Nat.le_of_ble_eq_true rfl) ?_ sz
  intro p e s m below meth c A Q H locs ls hQ hx hb hr hlk hmn hml hown hts hA hK hP hD hS hl
  have hown : s.vm.findClass RX8 = some m.cls := hown
  have hF : CallFix p m c cX8_sheet 4 s ([.ref jX, .int p0, .int p1, .int p2] : List Value).toArray wsX8_sheet RX8 := ⟨hx, hb, hml, hown, hts⟩
  have hl : lv_has ls 4 [(0, .ref jX), (1, .int p0), (2, .int p1), (3, .int p2)] := hl
  have iw8 : ∀ w ∈ u_ws RX8 TX8 13, w ∈ wsX8_sheet := by decide +kernel
  have kw1 := hts (.fieldLink RX8 72 "HeldTongues" "sheets" "[LHeldTongues$SheetRow;") (by decide +kernel)
  have iw3 : ∀ w ∈ u_ws RX3 TX3 2, w ∈ wsX8_sheet := by decide +kernel
  have kw3 := hts (.classLink RX8 70 RX3) (by decide +kernel)
  have kw4 := hts (.instantiable RX3 2) (by decide +kernel)
  have kw5 := hts (.initialized RX3) (by decide +kernel)
  have kw6 := hts (.methodLink RX8 288 yX3_init) (by decide +kernel)
  have kw7 := hts (.instanceMethod yX3_init) (by decide +kernel)
  delta fX8_sheet_a at hf
  refine lv_iload_n hx hb dX8_sheet_0 rfl (lv_at hl 1 rfl) ?_
  obtain ⟨o_1, ho_1, hf⟩ := ht_bn_ob hf
  refine ht_callSi (r := o_1) (rest := []) (As := [.int p0]) (wc := []) (wr := (wHT K jX kX_now kX_kept kX_tried kX_trials kX_pairings kX_tape kX_telling kX_dayRows kX_deed jG kX_shelvedPerson kX_shelvedRow RX.anythingKept ++ (wAq K 4 jG RG))) (w1 := []) (w2 := (wHT K jX kX_now kX_kept kX_tried kX_trials kX_pairings kX_tape kX_telling kX_dayRows kX_deed jG kX_shelvedPerson kX_shelvedRow RX.anythingKept ++ (wAq K 4 jG RG))) hF (ctX8_isSheet l D K p0 o_1 ho_1 H.size) (va_cwS 1 hts gX8_sheet_X8_isSheet rfl rfl rfl hdX8_isSheet ⟨Nat.le_of_ble_eq_true rfl, Nat.le_of_ble_eq_true rfl⟩) hK hP hD hS hA [] [0, 1] rfl rfl (by decide) (by decide) (by decide) [0, 1] rfl (by decide) rfl hl.1 rfl (Nat.le_of_ble_eq_true rfl) dX8_sheet_1 ⟨Nat.zero_le _, Nat.zero_le _⟩ (fun H locs hP hD hS => ?_)
  refine lv_if_eq (tgt := 16) hx hb dX8_sheet_4 (by decide) (fun c_2 => ?_) (fun c_2 => ?_)
  · replace hf := ht_t c_2 hf
    refine lv_iconst (v := -1) hx hb dX8_sheet_16 (by decide) ?_
    cases hf
  · replace hf := ht_f c_2 hf
    refine lv_iload_n hx hb dX8_sheet_7 rfl (lv_at hl 2 rfl) ?_
    refine lv_iconst (v := -1) hx hb dX8_sheet_8 (by decide) ?_
    refine lv_iconst (v := 3) hx hb dX8_sheet_9 (by decide) ?_
    obtain ⟨o_3, ho_3, hf⟩ := ht_bn_ob hf
    refine ht_callSi (r := o_3) (rest := []) (As := [.int p1, .int (-1 : Int32), .int (3 : Int32)]) (wc := []) (wr := (wHT K jX kX_now kX_kept kX_tried kX_trials kX_pairings kX_tape kX_telling kX_dayRows kX_deed jG kX_shelvedPerson kX_shelvedRow RX.anythingKept ++ (wAq K 4 jG RG))) (w1 := []) (w2 := (wHT K jX kX_now kX_kept kX_tried kX_trials kX_pairings kX_tape kX_telling kX_dayRows kX_deed jG kX_shelvedPerson kX_shelvedRow RX.anythingKept ++ (wAq K 4 jG RG))) hF (ctX8_within l D K p1 (-1 : Int32) (3 : Int32) o_3 ho_3 H.size) (va_cwS 3 hts gX8_sheet_X8_within rfl rfl rfl hdX8_within ⟨Nat.le_of_ble_eq_true rfl, Nat.le_of_ble_eq_true rfl⟩) hK hP hD hS hA [] [0, 1] rfl rfl (by decide) (by decide) (by decide) [0, 1] rfl (by decide) rfl hl.1 rfl (Nat.le_of_ble_eq_true rfl) dX8_sheet_10 ⟨Nat.zero_le _, Nat.zero_le _⟩ (fun H locs hP hD hS => ?_)
    refine lv_if_ne (tgt := 18) hx hb dX8_sheet_13 (by decide) (fun c_4 => ?_) (fun c_4 => ?_)
    · replace hf := ht_f c_4 hf
      refine lv_iload_n hx hb dX8_sheet_18 rfl (lv_at hl 2 rfl) ?_
      refine lv_iconst (v := -1) hx hb dX8_sheet_19 (by decide) ?_
      refine lv_icmp_ne (tgt := 32) hx hb dX8_sheet_20 (by decide) (fun c_5 => ?_) (fun c_5 => ?_)
      · replace hf := ht_f c_5 hf
        refine lv_iload_n hx hb dX8_sheet_32 rfl (lv_at hl 3 rfl) ?_
        refine lv_bipush (v := 40) hx hb dX8_sheet_33 (by decide) ?_
        refine lv_icmp_le (tgt := 40) hx hb dX8_sheet_35 (by decide) (fun c_6 => ?_) (fun c_6 => ?_)
        · replace hf := ht_t c_6 hf
          refine lv_iload_n hx hb dX8_sheet_40 rfl (lv_at hl 3 rfl) ?_
          refine lv_if_ge (tgt := 47) hx hb dX8_sheet_41 (by decide) (fun c_7 => ?_) (fun c_7 => ?_)
          · replace hf := ht_t c_7 hf
            refine lv_aload_n hx hb dX8_sheet_47 rfl (lv_at hl 0 rfl) ?_
            refine va_get (D := D) (ci := 8) (v := .ref jG) (C := RX8) (T := TX8) (N := 13) hx hb hts iw8 hown hK hP 0 rfl rfl 9 (by decide) kw1 (fun _ h9 => h9) rfl dX8_sheet_48 ?_
            refine lv_iload_n hx hb dX8_sheet_51 rfl (lv_at hl 1 rfl) ?_
            obtain ⟨g_8, hf⟩ := ht_gd_ob hf
            obtain ⟨k, hk, hk2⟩ : ∃ k : Nat, k ≤ 40 ∧ p2 = nI k := nI_of2 (M := 40) (by decide) (of_decide_eq_true g_8).1 (of_decide_eq_true g_8).2
            obtain ⟨g_9, hf⟩ := ht_gd_ob hf
            subst hk2
            refine ht_new (ci := 3) (fs := [.int 0, .null]) (C := RX3) (T := TX3) (N := 2) (w2 := fun q => (wHT K jX kX_now kX_kept kX_tried kX_trials kX_pairings kX_tape kX_telling kX_dayRows kX_deed jG kX_shelvedPerson kX_shelvedRow RX.anythingKept ++ (wAq K 4 jG RG ++ [(q, .inr (3, [.int 0, .null]))]))) hx hb hts iw3 tyX3 tyX3_ok hown kw3 kw4 kw5 hK hP hD hS hA rfl (fun j hj => by rcases (show j = 0 ∨ j = 1 by omega) with rfl | rfl <;> rfl) (Nat.le_of_ble_eq_true rfl) (Nat.le_of_ble_eq_true rfl) dX8_sheet_52 (fun _ => rfl) (fun q H hP hD hS => ?_)
            refine lv_dup hx hb dX8_sheet_55 rfl ?_
            refine lv_iload_n hx hb dX8_sheet_56 rfl (lv_at hl 2 rfl) ?_
            refine lv_iload_n hx hb dX8_sheet_57 rfl (lv_at hl 3 rfl) ?_
            refine ht_callIv (As := [.int p1, .int (nI k)]) (rest := [.ref q, .int p0, .ref jG]) (wc := [(q, .inr (3, [.int 0, .null]))]) (wr := (wHT K jX kX_now kX_kept kX_tried kX_trials kX_pairings kX_tape kX_telling kX_dayRows kX_deed jG kX_shelvedPerson kX_shelvedRow RX.anythingKept ++ (wAq K 4 jG RG))) (w1 := fun u => wRo K q u p1 (fun _ => 0) k) (w2 := fun u => (wHT K jX kX_now kX_kept kX_tried kX_trials kX_pairings kX_tape kX_telling kX_dayRows kX_deed jG kX_shelvedPerson kX_shelvedRow RX.anythingKept ++ (wAq K 4 jG RG ++ (wRo K q u p1 (fun _ => 0) k)))) hF (ctX3_init l D K q p1 k hk H.size) (cwI 2 hts gX8_sheet_X3_init rfl rfl rfl kw5 kw6 kw7 rfl hdX3_init ⟨Nat.le_of_ble_eq_true rfl, Nat.le_of_ble_eq_true rfl⟩) hK hP hD hS hA [2] [0, 1] rfl rfl (by decide) (by decide) (by decide) (fun _ => rfl) rfl hl.1 rfl (Nat.le_of_ble_eq_true rfl) dX8_sheet_58 ⟨Nat.le_of_ble_eq_true rfl, Nat.le_of_ble_eq_true rfl⟩ (fun u H locs hP hD hS => ?_)
            refine ht_aast (g := (va_up RG p0.toNatClampNeg (some q))) (w2 := (wHT K jX kX_now kX_kept kX_tried kX_trials kX_pairings kX_tape kX_telling kX_dayRows kX_deed jG kX_shelvedPerson kX_shelvedRow RX.anythingKept ++ (wAq K 4 jG (va_up RG p0.toNatClampNeg (some q)) ++ (wRo K q u p1 (fun _ => 0) k)))) hx hb hK hP hD hS 1 4 2 3 rfl rfl rfl rfl g_9 dX8_sheet_61 rfl rfl (fun H locs hP hD hS => ?_)
            refine lv_iconst (v := 1) hx hb dX8_sheet_62 (by decide) ?_
            refine W.widen (k := 2) (n := 42) (Nat.le_of_ble_eq_true rfl) (Nat.le_of_ble_eq_true rfl) ?_
            subst hQ
            exact W.zret hx hb hr rfl (fun t ht hW => ⟨⟨1, (q, u), rfl, rfl, by rw [ht]; exact x8_sheet_end hk hP, va_K.moved hW.alike hK, x8_sheet_endD hk hD⟩, hS.F ht⟩) hS.2.2 dX8_sheet_63 hlk
          · replace hf := ht_f c_7 hf
            refine lv_bipush (v := -14) hx hb dX8_sheet_44 (by decide) ?_
            cases hf
        · replace hf := ht_f c_6 hf
          refine lv_iconst (v := -1) hx hb dX8_sheet_38 (by decide) ?_
          cases hf
      · replace hf := ht_t c_5 hf
        refine lv_aload_n hx hb dX8_sheet_23 rfl (lv_at hl 0 rfl) ?_
        refine va_get (D := D) (ci := 8) (v := .ref jG) (C := RX8) (T := TX8) (N := 13) hx hb hts iw8 hown hK hP 0 rfl rfl 9 (by decide) kw1 (fun _ h9 => h9) rfl dX8_sheet_24 ?_
        refine lv_iload_n hx hb dX8_sheet_27 rfl (lv_at hl 1 rfl) ?_
        refine lv_null hx hb dX8_sheet_28 ?_
        obtain ⟨g_10, hf⟩ := ht_gd_ob hf
        obtain ⟨vG_v_11, evG_v_11, hf⟩ := ht_nm_ob hf
        refine ht_aastN (w2 := (wHT K jX kX_now kX_kept kX_tried kX_trials kX_pairings kX_tape kX_telling kX_dayRows kX_deed jG kX_shelvedPerson kX_shelvedRow RX.anythingKept ++ (wAq K 4 jG vG_v_11))) hx hb hK hP hD hS 1 4 rfl rfl g_10 dX8_sheet_29 evG_v_11 rfl (fun H locs hP hD hS => ?_)
        refine lv_iconst (v := 1) hx hb dX8_sheet_30 (by decide) ?_
        cases hf
    · replace hf := ht_t c_4 hf
      refine lv_iconst (v := -1) hx hb dX8_sheet_16 (by decide) ?_
      cases hf
