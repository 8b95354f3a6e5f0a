abbrev rmX6_init : Room := { frames := 1, cells := 7, slots := 52, locals := 20 }
theorem hdX6_init : yX6_init.cls ≠ "java/lang/invoke/MethodHandle" ∧ yX6_init.cls ≠ "java/lang/invoke/VarHandle" ∧ (parseMethodDescriptor yX6_init.desc).map (fun d => d.parameters.length) = some 0 := by decide +kernel
set_option maxHeartbeats 1000000 in
set_option maxRecDepth 100000 in
theorem ctX6_init (l : Launch) (D : va_G) (K : Nat → ClassId) (h0 : Nat) (sz : Nat) : Met l yX6_init wsX6_init rmX6_init (ht_Pre D K [.ref h0] ([(h0, .inr (6, [.null, .null, .null, .null, .null, .null, .null, .int 0, .int 0, .int 0, .int 0, .int 0]))]) sz) (ht_Qn D K (S := Nat → Nat) (fun u => (wTw K h0 u laws0 (fun _ => 0) (fun _ => 0) (fun _ => 0) (fun _ => 0) (fun _ => 0) (fun _ => 0) 0 0 0 0 1)) (va_A ([(h0, .inr (6, [.null, .null, .null, .null, .null, .null, .null, .int 0, .int 0, .int 0, .int 0, .int 0]))]) sz)) 7 52 (va_A ([(h0, .inr (6, [.null, .null, .null, .null, .null, .null, .null, .int 0, .int 0, .int 0, .int 0, .int 0]))]) sz) := by
  refine ht_enter (Qf := ht_Qn D K (S := Nat → Nat) (fun u => (wTw K h0 u laws0 (fun _ => 0) (fun _ => 0) (fun _ => 0) (fun _ => 0) (fun _ => 0) (fun _ => 0) 0 0 0 0 1))) (cc := cX6_init) (maxL := 1) (rt := none) (by decide) rfl (Nat.le_of_ble_eq_true rfl) ?_ sz
  intro p e s m below meth c A Q H locs ls hQ hx hb hr hlk hmn hml hown hts hA hK hP hD hS hl
  have hown : s.vm.findClass RX6 = some m.cls := hown
  have hF : CallFix p m c cX6_init 1 s ([.ref h0] : List Value).toArray wsX6_init RX6 := ⟨hx, hb, hml, hown, hts⟩
  have hl : lv_has ls 1 [(0, .ref h0)] := hl
  have kw0 := hts (.methodLink RX6 3 objectInit) (by decide +kernel)
  have kw1 := hts (.instanceMethod objectInit) (by decide +kernel)
  have kw2 := hts (.code objectInit ⟨#[0xb1]⟩ 1 none) (by decide +kernel)
  have kw3 := hts (.arrayClass .int) (by decide +kernel)
  have iw6 : ∀ w ∈ u_ws RX6 TX6 12, w ∈ wsX6_init := by decide +kernel
  have kw5 := hts (.fieldLink RX6 9 "HeldTongues$Town" "laws" "[I") (by decide +kernel)
  have kw6 := hts (.fieldLink RX6 15 "HeldTongues$Town" "kind" "[I") (by decide +kernel)
  have kw7 := hts (.fieldLink RX6 18 "HeldTongues$Town" "need" "[I") (by decide +kernel)
  have kw8 := hts (.fieldLink RX6 21 "HeldTongues$Town" "saved" "[I") (by decide +kernel)
  have kw9 := hts (.fieldLink RX6 24 "HeldTongues$Town" "voice" "[I") (by decide +kernel)
  have kw10 := hts (.fieldLink RX6 27 "HeldTongues$Town" "partner" "[I") (by decide +kernel)
  have kw11 := hts (.arrayClass .boolean) (by decide +kernel)
  have kw12 := hts (.fieldLink RX6 30 "HeldTongues$Town" "speaks" "[Z") (by decide +kernel)
  have kw13 := hts (.fieldLink RX6 37 "HeldTongues$Town" "z" "I") (by decide +kernel)
  refine lv_aload_n hx hb dX6_init_0 rfl (lv_at hl 0 rfl) ?_
  refine W.objInit hx hb hown kw0 kw1 kw2 rfl (by rw [hml]; exact hl.1) rfl dX6_init_1 (Nat.le_of_ble_eq_true rfl) (Nat.le_of_ble_eq_true rfl) ?_
  refine W.eq (g2 := F0 m 4 ls []) rfl ?_
  refine lv_aload_n hx hb dX6_init_4 rfl (lv_at hl 0 rfl) ?_
  refine lv_iconst (v := 4) hx hb dX6_init_5 (by decide) ?_
  refine ht_newa (atype := .int) (t0 := 1) (a0 := (4, .inl (fun _ => 0))) (N0 := 4) (ty := .int) (w2 := fun q_1 => ([(h0, .inr (6, [.null, .null, .null, .null, .null, .null, .null, .int 0, .int 0, .int 0, .int 0, .int 0]))] ++ ([(q_1, .inl (K 1, 4, .inl (fun _ => 0)))]))) hx hb kw3 rfl hK hP hD hS hA rfl (fun _ _ h1 h2 => Option.some.inj (h1.symm.trans h2)) (ht_arI 4) (by decide) (by decide) (Nat.le_of_ble_eq_true rfl) (Nat.le_of_ble_eq_true rfl) (Nat.le_of_ble_eq_true rfl) dX6_init_6 (fun _ => rfl) (fun q_1 H hP hD hS => ?_)
  refine ht_putF (ci := 6) (v := .ref q_1) (ty := (.array .int)) (C := RX6) (T := TX6) (N := 12) (w2 := ([(h0, .inr (6, [.ref q_1, .null, .null, .null, .null, .null, .null, .int 0, .int 0, .int 0, .int 0, .int 0]))] ++ ([(q_1, .inl (K 1, 4, .inl (fun _ => 0)))]))) hx hb hts iw6 tyX6 tyX6_ok nmX6 hown hK hP hD hS 0 rfl rfl 0 (by decide) kw5 (fun _ h9 => h9) rfl hmn rfl (by decide +kernel) rfl rfl (Nat.le_of_ble_eq_true rfl) dX6_init_8 rfl (fun H locs hP hD hS => ?_)
  refine lv_aload_n hx hb dX6_init_11 rfl (lv_at hl 0 rfl) ?_
  refine lv_bipush (v := 8) hx hb dX6_init_12 (by decide) ?_
  refine ht_newa (atype := .int) (t0 := 1) (a0 := (8, .inl (fun _ => 0))) (N0 := 8) (ty := .int) (w2 := fun q_2 => ([(h0, .inr (6, [.ref q_1, .null, .null, .null, .null, .null, .null, .int 0, .int 0, .int 0, .int 0, .int 0]))] ++ ([(q_1, .inl (K 1, 4, .inl (fun _ => 0)))] ++ ([(q_2, .inl (K 1, 8, .inl (fun _ => 0)))])))) hx hb kw3 rfl hK hP hD hS hA rfl (fun _ _ h1 h2 => Option.some.inj (h1.symm.trans h2)) (ht_arI 8) (by decide) (by decide) (Nat.le_of_ble_eq_true rfl) (Nat.le_of_ble_eq_true rfl) (Nat.le_of_ble_eq_true rfl) dX6_init_14 (fun _ => rfl) (fun q_2 H hP hD hS => ?_)
  refine ht_putF (ci := 6) (v := .ref q_2) (ty := (.array .int)) (C := RX6) (T := TX6) (N := 12) (w2 := ([(h0, .inr (6, [.ref q_1, .ref q_2, .null, .null, .null, .null, .null, .int 0, .int 0, .int 0, .int 0, .int 0]))] ++ ([(q_1, .inl (K 1, 4, .inl (fun _ => 0)))] ++ ([(q_2, .inl (K 1, 8, .inl (fun _ => 0)))])))) hx hb hts iw6 tyX6 tyX6_ok nmX6 hown hK hP hD hS 0 rfl rfl 1 (by decide) kw6 (fun _ h9 => h9) rfl hmn rfl (by decide +kernel) rfl rfl (Nat.le_of_ble_eq_true rfl) dX6_init_16 rfl (fun H locs hP hD hS => ?_)
  refine lv_aload_n hx hb dX6_init_19 rfl (lv_at hl 0 rfl) ?_
  refine lv_bipush (v := 8) hx hb dX6_init_20 (by decide) ?_
  refine ht_newa (atype := .int) (t0 := 1) (a0 := (8, .inl (fun _ => 0))) (N0 := 8) (ty := .int) (w2 := fun q_3 => ([(h0, .inr (6, [.ref q_1, .ref q_2, .null, .null, .null, .null, .null, .int 0, .int 0, .int 0, .int 0, .int 0]))] ++ ([(q_1, .inl (K 1, 4, .inl (fun _ => 0)))] ++ ([(q_2, .inl (K 1, 8, .inl (fun _ => 0)))] ++ ([(q_3, .inl (K 1, 8, .inl (fun _ => 0)))]))))) hx hb kw3 rfl hK hP hD hS hA rfl (fun _ _ h1 h2 => Option.some.inj (h1.symm.trans h2)) (ht_arI 8) (by decide) (by decide) (Nat.le_of_ble_eq_true rfl) (Nat.le_of_ble_eq_true rfl) (Nat.le_of_ble_eq_true rfl) dX6_init_22 (fun _ => rfl) (fun q_3 H hP hD hS => ?_)
  refine ht_putF (ci := 6) (v := .ref q_3) (ty := (.array .int)) (C := RX6) (T := TX6) (N := 12) (w2 := ([(h0, .inr (6, [.ref q_1, .ref q_2, .ref q_3, .null, .null, .null, .null, .int 0, .int 0, .int 0, .int 0, .int 0]))] ++ ([(q_1, .inl (K 1, 4, .inl (fun _ => 0)))] ++ ([(q_2, .inl (K 1, 8, .inl (fun _ => 0)))] ++ ([(q_3, .inl (K 1, 8, .inl (fun _ => 0)))]))))) hx hb hts iw6 tyX6 tyX6_ok nmX6 hown hK hP hD hS 0 rfl rfl 2 (by decide) kw7 (fun _ h9 => h9) rfl hmn rfl (by decide +kernel) rfl rfl (Nat.le_of_ble_eq_true rfl) dX6_init_24 rfl (fun H locs hP hD hS => ?_)
  refine lv_aload_n hx hb dX6_init_27 rfl (lv_at hl 0 rfl) ?_
  refine lv_bipush (v := 8) hx hb dX6_init_28 (by decide) ?_
  refine ht_newa (atype := .int) (t0 := 1) (a0 := (8, .inl (fun _ => 0))) (N0 := 8) (ty := .int) (w2 := fun q_4 => ([(h0, .inr (6, [.ref q_1, .ref q_2, .ref q_3, .null, .null, .null, .null, .int 0, .int 0, .int 0, .int 0, .int 0]))] ++ ([(q_1, .inl (K 1, 4, .inl (fun _ => 0)))] ++ ([(q_2, .inl (K 1, 8, .inl (fun _ => 0)))] ++ ([(q_3, .inl (K 1, 8, .inl (fun _ => 0)))] ++ ([(q_4, .inl (K 1, 8, .inl (fun _ => 0)))])))))) hx hb kw3 rfl hK hP hD hS hA rfl (fun _ _ h1 h2 => Option.some.inj (h1.symm.trans h2)) (ht_arI 8) (by decide) (by decide) (Nat.le_of_ble_eq_true rfl) (Nat.le_of_ble_eq_true rfl) (Nat.le_of_ble_eq_true rfl) dX6_init_30 (fun _ => rfl) (fun q_4 H hP hD hS => ?_)
  refine ht_putF (ci := 6) (v := .ref q_4) (ty := (.array .int)) (C := RX6) (T := TX6) (N := 12) (w2 := ([(h0, .inr (6, [.ref q_1, .ref q_2, .ref q_3, .ref q_4, .null, .null, .null, .int 0, .int 0, .int 0, .int 0, .int 0]))] ++ ([(q_1, .inl (K 1, 4, .inl (fun _ => 0)))] ++ ([(q_2, .inl (K 1, 8, .inl (fun _ => 0)))] ++ ([(q_3, .inl (K 1, 8, .inl (fun _ => 0)))] ++ ([(q_4, .inl (K 1, 8, .inl (fun _ => 0)))])))))) hx hb hts iw6 tyX6 tyX6_ok nmX6 hown hK hP hD hS 0 rfl rfl 3 (by decide) kw8 (fun _ h9 => h9) rfl hmn rfl (by decide +kernel) rfl rfl (Nat.le_of_ble_eq_true rfl) dX6_init_32 rfl (fun H locs hP hD hS => ?_)
  refine lv_aload_n hx hb dX6_init_35 rfl (lv_at hl 0 rfl) ?_
  refine lv_bipush (v := 8) hx hb dX6_init_36 (by decide) ?_
  refine ht_newa (atype := .int) (t0 := 1) (a0 := (8, .inl (fun _ => 0))) (N0 := 8) (ty := .int) (w2 := fun q_5 => ([(h0, .inr (6, [.ref q_1, .ref q_2, .ref q_3, .ref q_4, .null, .null, .null, .int 0, .int 0, .int 0, .int 0, .int 0]))] ++ ([(q_1, .inl (K 1, 4, .inl (fun _ => 0)))] ++ ([(q_2, .inl (K 1, 8, .inl (fun _ => 0)))] ++ ([(q_3, .inl (K 1, 8, .inl (fun _ => 0)))] ++ ([(q_4, .inl (K 1, 8, .inl (fun _ => 0)))] ++ ([(q_5, .inl (K 1, 8, .inl (fun _ => 0)))]))))))) hx hb kw3 rfl hK hP hD hS hA rfl (fun _ _ h1 h2 => Option.some.inj (h1.symm.trans h2)) (ht_arI 8) (by decide) (by decide) (Nat.le_of_ble_eq_true rfl) (Nat.le_of_ble_eq_true rfl) (Nat.le_of_ble_eq_true rfl) dX6_init_38 (fun _ => rfl) (fun q_5 H hP hD hS => ?_)
  refine ht_putF (ci := 6) (v := .ref q_5) (ty := (.array .int)) (C := RX6) (T := TX6) (N := 12) (w2 := ([(h0, .inr (6, [.ref q_1, .ref q_2, .ref q_3, .ref q_4, .ref q_5, .null, .null, .int 0, .int 0, .int 0, .int 0, .int 0]))] ++ ([(q_1, .inl (K 1, 4, .inl (fun _ => 0)))] ++ ([(q_2, .inl (K 1, 8, .inl (fun _ => 0)))] ++ ([(q_3, .inl (K 1, 8, .inl (fun _ => 0)))] ++ ([(q_4, .inl (K 1, 8, .inl (fun _ => 0)))] ++ ([(q_5, .inl (K 1, 8, .inl (fun _ => 0)))]))))))) hx hb hts iw6 tyX6 tyX6_ok nmX6 hown hK hP hD hS 0 rfl rfl 4 (by decide) kw9 (fun _ h9 => h9) rfl hmn rfl (by decide +kernel) rfl rfl (Nat.le_of_ble_eq_true rfl) dX6_init_40 rfl (fun H locs hP hD hS => ?_)
  refine lv_aload_n hx hb dX6_init_43 rfl (lv_at hl 0 rfl) ?_
  refine lv_bipush (v := 8) hx hb dX6_init_44 (by decide) ?_
  refine ht_newa (atype := .int) (t0 := 1) (a0 := (8, .inl (fun _ => 0))) (N0 := 8) (ty := .int) (w2 := fun q_6 => ([(h0, .inr (6, [.ref q_1, .ref q_2, .ref q_3, .ref q_4, .ref q_5, .null, .null, .int 0, .int 0, .int 0, .int 0, .int 0]))] ++ ([(q_1, .inl (K 1, 4, .inl (fun _ => 0)))] ++ ([(q_2, .inl (K 1, 8, .inl (fun _ => 0)))] ++ ([(q_3, .inl (K 1, 8, .inl (fun _ => 0)))] ++ ([(q_4, .inl (K 1, 8, .inl (fun _ => 0)))] ++ ([(q_5, .inl (K 1, 8, .inl (fun _ => 0)))] ++ ([(q_6, .inl (K 1, 8, .inl (fun _ => 0)))])))))))) hx hb kw3 rfl hK hP hD hS hA rfl (fun _ _ h1 h2 => Option.some.inj (h1.symm.trans h2)) (ht_arI 8) (by decide) (by decide) (Nat.le_of_ble_eq_true rfl) (Nat.le_of_ble_eq_true rfl) (Nat.le_of_ble_eq_true rfl) dX6_init_46 (fun _ => rfl) (fun q_6 H hP hD hS => ?_)
  refine ht_putF (ci := 6) (v := .ref q_6) (ty := (.array .int)) (C := RX6) (T := TX6) (N := 12) (w2 := ([(h0, .inr (6, [.ref q_1, .ref q_2, .ref q_3, .ref q_4, .ref q_5, .ref q_6, .null, .int 0, .int 0, .int 0, .int 0, .int 0]))] ++ ([(q_1, .inl (K 1, 4, .inl (fun _ => 0)))] ++ ([(q_2, .inl (K 1, 8, .inl (fun _ => 0)))] ++ ([(q_3, .inl (K 1, 8, .inl (fun _ => 0)))] ++ ([(q_4, .inl (K 1, 8, .inl (fun _ => 0)))] ++ ([(q_5, .inl (K 1, 8, .inl (fun _ => 0)))] ++ ([(q_6, .inl (K 1, 8, .inl (fun _ => 0)))])))))))) hx hb hts iw6 tyX6 tyX6_ok nmX6 hown hK hP hD hS 0 rfl rfl 5 (by decide) kw10 (fun _ h9 => h9) rfl hmn rfl (by decide +kernel) rfl rfl (Nat.le_of_ble_eq_true rfl) dX6_init_48 rfl (fun H locs hP hD hS => ?_)
  refine lv_aload_n hx hb dX6_init_51 rfl (lv_at hl 0 rfl) ?_
  refine lv_bipush (v := 8) hx hb dX6_init_52 (by decide) ?_
  refine ht_newa (atype := .boolean) (t0 := 3) (a0 := (8, .inl (fun _ => 0))) (N0 := 8) (ty := .boolean) (w2 := fun q_7 => ([(h0, .inr (6, [.ref q_1, .ref q_2, .ref q_3, .ref q_4, .ref q_5, .ref q_6, .null, .int 0, .int 0, .int 0, .int 0, .int 0]))] ++ ([(q_1, .inl (K 1, 4, .inl (fun _ => 0)))] ++ ([(q_2, .inl (K 1, 8, .inl (fun _ => 0)))] ++ ([(q_3, .inl (K 1, 8, .inl (fun _ => 0)))] ++ ([(q_4, .inl (K 1, 8, .inl (fun _ => 0)))] ++ ([(q_5, .inl (K 1, 8, .inl (fun _ => 0)))] ++ ([(q_6, .inl (K 1, 8, .inl (fun _ => 0)))] ++ ([(q_7, .inl (K 3, 8, .inl (fun _ => 0)))]))))))))) hx hb kw11 rfl hK hP hD hS hA rfl (fun _ _ h1 h2 => Option.some.inj (h1.symm.trans h2)) (ht_arZ 8) (by decide) (by decide) (Nat.le_of_ble_eq_true rfl) (Nat.le_of_ble_eq_true rfl) (Nat.le_of_ble_eq_true rfl) dX6_init_54 (fun _ => rfl) (fun q_7 H hP hD hS => ?_)
  refine ht_putF (ci := 6) (v := .ref q_7) (ty := (.array .boolean)) (C := RX6) (T := TX6) (N := 12) (w2 := ([(h0, .inr (6, [.ref q_1, .ref q_2, .ref q_3, .ref q_4, .ref q_5, .ref q_6, .ref q_7, .int 0, .int 0, .int 0, .int 0, .int 0]))] ++ ([(q_1, .inl (K 1, 4, .inl (fun _ => 0)))] ++ ([(q_2, .inl (K 1, 8, .inl (fun _ => 0)))] ++ ([(q_3, .inl (K 1, 8, .inl (fun _ => 0)))] ++ ([(q_4, .inl (K 1, 8, .inl (fun _ => 0)))] ++ ([(q_5, .inl (K 1, 8, .inl (fun _ => 0)))] ++ ([(q_6, .inl (K 1, 8, .inl (fun _ => 0)))] ++ ([(q_7, .inl (K 3, 8, .inl (fun _ => 0)))]))))))))) hx hb hts iw6 tyX6 tyX6_ok nmX6 hown hK hP hD hS 0 rfl rfl 6 (by decide) kw12 (fun _ h9 => h9) rfl hmn rfl (by decide +kernel) rfl rfl (Nat.le_of_ble_eq_true rfl) dX6_init_56 rfl (fun H locs hP hD hS => ?_)
  refine lv_aload_n hx hb dX6_init_59 rfl (lv_at hl 0 rfl) ?_
  refine ht_callVv (rest := []) (As := []) (wc := wTw K h0 (fun k => ([q_1, q_2, q_3, q_4, q_5, q_6, q_7] : List Nat).getD k 0) (fun _ => 0) (fun _ => 0) (fun _ => 0) (fun _ => 0) (fun _ => 0) (fun _ => 0) (fun _ => 0) 0 0 0 0 0) (wr := []) (w1 := wTw K h0 (fun k => ([q_1, q_2, q_3, q_4, q_5, q_6, q_7] : List Nat).getD k 0) laws0 (fun _ => 0) (fun _ => 0) (fun _ => 0) (fun _ => 0) (fun _ => 0) (fun _ => 0) 0 0 0 0 0) (w2 := wTw K h0 (fun k => ([q_1, q_2, q_3, q_4, q_5, q_6, q_7] : List Nat).getD k 0) laws0 (fun _ => 0) (fun _ => 0) (fun _ => 0) (fun _ => 0) (fun _ => 0) (fun _ => 0) 0 0 0 0 0) hF (ctX6_setFirstLaws l D K h0 (fun k => ([q_1, q_2, q_3, q_4, q_5, q_6, q_7] : List Nat).getD k 0) ((fun _ => 0), (fun _ => 0), (fun _ => 0), (fun _ => 0), (fun _ => 0), (fun _ => 0), (fun _ => 0), 0, 0, 0, 0, 0) laws0 (laws0_ok _ rfl) H.size) (cwV 0 hts gX6_init_X6_setFirstLaws rfl rfl rfl hdX6_setFirstLaws ⟨Nat.le_of_ble_eq_true rfl, Nat.le_of_ble_eq_true rfl⟩) hK hP hD hS hA [0, 1, 2, 3, 4, 5, 6, 7] [] rfl rfl (by decide) (by decide) (by decide) [0, 1, 2, 3, 4, 5, 6, 7] rfl (by decide) (va_recv hK hP (ci := 6) (q0 := 0) rfl rfl) rfl hl.1 rfl (Nat.le_of_ble_eq_true rfl) dX6_init_60 ⟨Nat.le_of_ble_eq_true rfl, Nat.le_of_ble_eq_true rfl⟩ (fun H locs hP hD hS => ?_)
  refine lv_aload_n hx hb dX6_init_63 rfl (lv_at hl 0 rfl) ?_
  refine lv_iconst (v := 1) hx hb dX6_init_64 (by decide) ?_
  refine ht_put (ci := 6) (v := .int 1) (ty := .int) (C := RX6) (T := TX6) (N := 12) (w2 := wTw K h0 (fun k => ([q_1, q_2, q_3, q_4, q_5, q_6, q_7] : List Nat).getD k 0) laws0 (fun _ => 0) (fun _ => 0) (fun _ => 0) (fun _ => 0) (fun _ => 0) (fun _ => 0) 0 0 0 0 1) hx hb hts iw6 tyX6 tyX6_ok nmX6 hown hK hP hD hS 0 rfl rfl 11 (by decide) kw13 (fun _ h9 => h9) rfl (by decide +kernel) rfl rfl (Nat.le_of_ble_eq_true rfl) dX6_init_65 rfl (fun H locs hP hD hS => ?_)
  refine W.widen (k := 7) (n := 52) (Nat.le_of_ble_eq_true rfl) (Nat.le_of_ble_eq_true rfl) ?_
  subst hQ
  have hP9 := hP.sub (ws' := (wTw K h0 (fun k => ([q_1, q_2, q_3, q_4, q_5, q_6, q_7] : List Nat).getD k 0) laws0 (fun _ => 0) (fun _ => 0) (fun _ => 0) (fun _ => 0) (fun _ => 0) (fun _ => 0) 0 0 0 0 1)) [0, 1, 2, 3, 4, 5, 6, 7] rfl
  have hD9 := hD.sub (ws' := (wTw K h0 (fun k => ([q_1, q_2, q_3, q_4, q_5, q_6, q_7] : List Nat).getD k 0) laws0 (fun _ => 0) (fun _ => 0) (fun _ => 0) (fun _ => 0) (fun _ => 0) (fun _ => 0) 0 0 0 0 1)) [0, 1, 2, 3, 4, 5, 6, 7] (by decide) rfl
  exact W.vret hx hb hr (fun t ht hW => ⟨⟨(fun k => ([q_1, q_2, q_3, q_4, q_5, q_6, q_7] : List Nat).getD k 0), rfl, trivial, by rw [ht]; exact hP9, va_K.moved hW.alike hK, hD9⟩, hS.F ht⟩) hS.2.2 dX6_init_68 hlk
abbrev rmX7_init : Room := { frames := 1, cells := 0, slots := 0, locals := 20 }
theorem hdX7_init : yX7_init.cls ≠ "java/lang/invoke/MethodHandle" ∧ yX7_init.cls ≠ "java/lang/invoke/VarHandle" ∧ (parseMethodDescriptor yX7_init.desc).map (fun d => d.parameters.length) = some 2 := by decide +kernel
set_option maxHeartbeats 1000000 in
set_option maxRecDepth 100000 in
theorem ctX7_init (l : Launch) (D : va_G) (K : Nat → ClassId) (h0 : Nat) (p0 : Nat) (p1 : Nat) (sz : Nat) : Met l yX7_init wsX7_init rmX7_init (ht_Pre D K [.ref h0, .ref p0, .ref p1] ([(h0, .inr (7, [.null, .null]))]) sz) (ht_Qn D K (S := Unit) (fun u => (wTr K h0 p0 p1)) (va_A ([(h0, .inr (7, [.null, .null]))]) sz)) 0 0 (va_A ([(h0, .inr (7, [.null, .null]))]) sz) := by
  refine ht_enter (Qf := ht_Qn D K (S := Unit) (fun u => (wTr K h0 p0 p1))) (cc := cX7_init) (maxL := 3) (rt := none) (by decide) rfl (Nat.le_of_ble_eq_true rfl) ?_ sz
  intro p e s m below meth c A Q H locs ls hQ hx hb hr hlk hmn hml hown hts hA hK hP hD hS hl
  have hown : s.vm.findClass RX7 = some m.cls := hown
  have hF : CallFix p m c cX7_init 3 s ([.ref h0, .ref p0, .ref p1] : List Value).toArray wsX7_init RX7 := ⟨hx, hb, hml, hown, hts⟩
  have hl : lv_has ls 3 [(0, .ref h0), (1, .ref p0), (2, .ref p1)] := hl
  have kw0 := hts (.methodLink RX7 3 objectInit) (by decide +kernel)
  have kw1 := hts (.instanceMethod objectInit) (by decide +kernel)
  have kw2 := hts (.code objectInit ⟨#[0xb1]⟩ 1 none) (by decide +kernel)
  have iw7 : ∀ w ∈ u_ws RX7 TX7 2, w ∈ wsX7_init := by decide +kernel
  have kw4 := hts (.fieldLink RX7 9 "HeldTongues$Trials" "now" "LHeldTongues$Town;") (by decide +kernel)
  have kw5 := hts (.fieldLink RX7 15 "HeldTongues$Trials" "tried" "LHeldTongues$Town;") (by decide +kernel)
  refine lv_aload_n hx hb dX7_init_0 rfl (lv_at hl 0 rfl) ?_
  refine W.objInit hx hb hown kw0 kw1 kw2 rfl (by rw [hml]; exact hl.1) rfl dX7_init_1 (Nat.le_of_ble_eq_true rfl) (Nat.le_of_ble_eq_true rfl) ?_
  refine W.eq (g2 := F0 m 4 ls []) rfl ?_
  refine lv_aload_n hx hb dX7_init_4 rfl (lv_at hl 0 rfl) ?_
  refine lv_aload_n hx hb dX7_init_5 rfl (lv_at hl 1 rfl) ?_
  refine ht_putF (ci := 7) (v := .ref p0) (ty := .object "HeldTongues$Town") (C := RX7) (T := TX7) (N := 2) (w2 := ([(h0, .inr (7, [.ref p0, .null]))])) hx hb hts iw7 tyX7 tyX7_ok nmX7 hown hK hP hD hS 0 rfl rfl 0 (by decide) kw4 (fun _ h9 => h9) rfl hmn rfl (by decide +kernel) rfl rfl (Nat.le_of_ble_eq_true rfl) dX7_init_6 rfl (fun H locs hP hD hS => ?_)
  refine lv_aload_n hx hb dX7_init_9 rfl (lv_at hl 0 rfl) ?_
  refine lv_aload_n hx hb dX7_init_10 rfl (lv_at hl 2 rfl) ?_
  refine ht_putF (ci := 7) (v := .ref p1) (ty := .object "HeldTongues$Town") (C := RX7) (T := TX7) (N := 2) (w2 := ([(h0, .inr (7, [.ref p0, .ref p1]))])) hx hb hts iw7 tyX7 tyX7_ok nmX7 hown hK hP hD hS 0 rfl rfl 1 (by decide) kw5 (fun _ h9 => h9) rfl hmn rfl (by decide +kernel) rfl rfl (Nat.le_of_ble_eq_true rfl) dX7_init_11 rfl (fun H locs hP hD hS => ?_)
  refine W.widen (k := 0) (n := 0) (Nat.le_of_ble_eq_true rfl) (Nat.le_of_ble_eq_true rfl) ?_
  subst hQ
  have hP9 := hP.sub (ws' := (wTr K h0 p0 p1)) [0] rfl
  have hD9 := hD.sub (ws' := (wTr K h0 p0 p1)) [0] (by decide) rfl
  exact W.vret hx hb hr (fun t ht hW => ⟨⟨(), rfl, trivial, by rw [ht]; exact hP9, va_K.moved hW.alike hK, hD9⟩, hS.F ht⟩) hS.2.2 dX7_init_14 hlk
abbrev rmX0_init : Room := { frames := 1, cells := 1, slots := 30, locals := 20 }
theorem hdX0_init : yX0_init.cls ≠ "java/lang/invoke/MethodHandle" ∧ yX0_init.cls ≠ "java/lang/invoke/VarHandle" ∧ (parseMethodDescriptor yX0_init.desc).map (fun d => d.parameters.length) = some 2 := by decide +kernel
set_option maxHeartbeats 1000000 in
set_option maxRecDepth 100000 in
theorem ctX0_init (l : Launch) (D : va_G) (K : Nat → ClassId) (h0 : Nat) (p0 : Nat) (p1 : Nat) (sz : Nat) : Met l yX0_init wsX0_init rmX0_init (ht_Pre D K [.ref h0, .ref p0, .ref p1] ([(h0, .inr (0, [.null, .null, .null, .int 0]))]) sz) (ht_Qn D K (S := Nat → Nat) (fun u => (wDr K h0 u p0 p1 (fun _ => 0) 0)) (va_A ([(h0, .inr (0, [.null, .null, .null, .int 0]))]) sz)) 1 30 (va_A ([(h0, .inr (0, [.null, .null, .null, .int 0]))]) sz) := by
  refine ht_enter (Qf := ht_Qn D K (S := Nat → Nat) (fun u => (wDr K h0 u p0 p1 (fun _ => 0) 0))) (cc := cX0_init) (maxL := 3) (rt := none) (by decide) rfl (Nat.le_of_ble_eq_true rfl) ?_ sz
  intro p e s m below meth c A Q H locs ls hQ hx hb hr hlk hmn hml hown hts hA hK hP hD hS hl
  have hown : s.vm.findClass RX0 = some m.cls := hown
  have hF : CallFix p m c cX0_init 3 s ([.ref h0, .ref p0, .ref p1] : List Value).toArray wsX0_init RX0 := ⟨hx, hb, hml, hown, hts⟩
  have hl : lv_has ls 3 [(0, .ref h0), (1, .ref p0), (2, .ref p1)] := hl
  have kw0 := hts (.methodLink RX0 3 objectInit) (by decide +kernel)
  have kw1 := hts (.instanceMethod objectInit) (by decide +kernel)
  have kw2 := hts (.code objectInit ⟨#[0xb1]⟩ 1 none) (by decide +kernel)
  have kw3 := hts (.arrayClass .int) (by decide +kernel)
  have iw0 : ∀ w ∈ u_ws RX0 TX0 4, w ∈ wsX0_init := by decide +kernel
  have kw5 := hts (.fieldLink RX0 11 "HeldTongues$DayRows" "numbers" "[I") (by decide +kernel)
  have kw6 := hts (.fieldLink RX0 15 "HeldTongues$DayRows" "now" "LHeldTongues$Town;") (by decide +kernel)
  have kw7 := hts (.fieldLink RX0 19 "HeldTongues$DayRows" "tried" "LHeldTongues$Town;") (by decide +kernel)
  refine lv_aload_n hx hb dX0_init_0 rfl (lv_at hl 0 rfl) ?_
  refine W.objInit hx hb hown kw0 kw1 kw2 rfl (by rw [hml]; exact hl.1) rfl dX0_init_1 (Nat.le_of_ble_eq_true rfl) (Nat.le_of_ble_eq_true rfl) ?_
  refine W.eq (g2 := F0 m 4 ls []) rfl ?_
  refine lv_aload_n hx hb dX0_init_4 rfl (lv_at hl 0 rfl) ?_
  refine lv_bipush (v := 30) hx hb dX0_init_5 (by decide) ?_
  refine ht_newa (atype := .int) (t0 := 1) (a0 := (30, .inl (fun _ => 0))) (N0 := 30) (ty := .int) (w2 := fun q_1 => ([(h0, .inr (0, [.null, .null, .null, .int 0]))] ++ ([(q_1, .inl (K 1, 30, .inl (fun _ => 0)))]))) hx hb kw3 rfl hK hP hD hS hA rfl (fun _ _ h1 h2 => Option.some.inj (h1.symm.trans h2)) (ht_arI 30) (by decide) (by decide) (Nat.le_of_ble_eq_true rfl) (Nat.le_of_ble_eq_true rfl) (Nat.le_of_ble_eq_true rfl) dX0_init_7 (fun _ => rfl) (fun q_1 H hP hD hS => ?_)
  refine ht_putF (ci := 0) (v := .ref q_1) (ty := (.array .int)) (C := RX0) (T := TX0) (N := 4) (w2 := ([(h0, .inr (0, [.null, .null, .ref q_1, .int 0]))] ++ ([(q_1, .inl (K 1, 30, .inl (fun _ => 0)))]))) hx hb hts iw0 tyX0 tyX0_ok nmX0 hown hK hP hD hS 0 rfl rfl 2 (by decide) kw5 (fun _ h9 => h9) rfl hmn rfl (by decide +kernel) rfl rfl (Nat.le_of_ble_eq_true rfl) dX0_init_9 rfl (fun H locs hP hD hS => ?_)
  refine lv_aload_n hx hb dX0_init_12 rfl (lv_at hl 0 rfl) ?_
  refine lv_aload_n hx hb dX0_init_13 rfl (lv_at hl 1 rfl) ?_
  refine ht_putF (ci := 0) (v := .ref p0) (ty := .object "HeldTongues$Town") (C := RX0) (T := TX0) (N := 4) (w2 := ([(h0, .inr (0, [.ref p0, .null, .ref q_1, .int 0]))] ++ ([(q_1, .inl (K 1, 30, .inl (fun _ => 0)))]))) hx hb hts iw0 tyX0 tyX0_ok nmX0 hown hK hP hD hS 0 rfl rfl 0 (by decide) kw6 (fun _ h9 => h9) rfl hmn rfl (by decide +kernel) rfl rfl (Nat.le_of_ble_eq_true rfl) dX0_init_14 rfl (fun H locs hP hD hS => ?_)
  refine lv_aload_n hx hb dX0_init_17 rfl (lv_at hl 0 rfl) ?_
  refine lv_aload_n hx hb dX0_init_18 rfl (lv_at hl 2 rfl) ?_
  refine ht_putF (ci := 0) (v := .ref p1) (ty := .object "HeldTongues$Town") (C := RX0) (T := TX0) (N := 4) (w2 := ([(h0, .inr (0, [.ref p0, .ref p1, .ref q_1, .int 0]))] ++ ([(q_1, .inl (K 1, 30, .inl (fun _ => 0)))]))) hx hb hts iw0 tyX0 tyX0_ok nmX0 hown hK hP hD hS 0 rfl rfl 1 (by decide) kw7 (fun _ h9 => h9) rfl hmn rfl (by decide +kernel) rfl rfl (Nat.le_of_ble_eq_true rfl) dX0_init_19 rfl (fun H locs hP hD hS => ?_)
  refine W.widen (k := 1) (n := 30) (Nat.le_of_ble_eq_true rfl) (Nat.le_of_ble_eq_true rfl) ?_
  subst hQ
  have hP9 := hP.sub (ws' := (wDr K h0 (fun k => ([q_1] : List Nat).getD k 0) p0 p1 (fun _ => 0) 0)) [0, 1] rfl
  have hD9 := hD.sub (ws' := (wDr K h0 (fun k => ([q_1] : List Nat).getD k 0) p0 p1 (fun _ => 0) 0)) [0, 1] (by decide) rfl
  exact W.vret hx hb hr (fun t ht hW => ⟨⟨(fun k => ([q_1] : List Nat).getD k 0), rfl, trivial, by rw [ht]; exact hP9, va_K.moved hW.alike hK, hD9⟩, hS.F ht⟩) hS.2.2 dX0_init_22 hlk
abbrev rmX1_init : Room := { frames := 1, cells := 1, slots := 30, locals := 20 }
theorem hdX1_init : yX1_init.cls ≠ "java/lang/invoke/MethodHandle" ∧ yX1_init.cls ≠ "java/lang/invoke/VarHandle" ∧ (parseMethodDescriptor yX1_init.desc).map (fun d => d.parameters.length) = some 0 := by decide +kernel
set_option maxHeartbeats 1000000 in
set_option maxRecDepth 100000 in
theorem ctX1_init (l : Launch) (D : va_G) (K : Nat → ClassId) (h0 : Nat) (sz : Nat) : Met l yX1_init wsX1_init rmX1_init (ht_Pre D K [.ref h0] ([(h0, .inr (1, [.null, .int 0, .int 0, .int 0, .int 0, .int 0]))]) sz) (ht_Qn D K (S := Nat → Nat) (fun u => (wDe K h0 u (fun _ => 0) 0 0 0 0 0)) (va_A ([(h0, .inr (1, [.null, .int 0, .int 0, .int 0, .int 0, .int 0]))]) sz)) 1 30 (va_A ([(h0, .inr (1, [.null, .int 0, .int 0, .int 0, .int 0, .int 0]))]) sz) := by
  refine ht_enter (Qf := ht_Qn D K (S := Nat → Nat) (fun u => (wDe K h0 u (fun _ => 0) 0 0 0 0 0))) (cc := cX1_init) (maxL := 1) (rt := none) (by decide) rfl (Nat.le_of_ble_eq_true rfl) ?_ sz
  intro p e s m below meth c A Q H locs ls hQ hx hb hr hlk hmn hml hown hts hA hK hP hD hS hl
  have hown : s.vm.findClass RX1 = some m.cls := hown
  have hF : CallFix p m c cX1_init 1 s ([.ref h0] : List Value).toArray wsX1_init RX1 := ⟨hx, hb, hml, hown, hts⟩
  have hl : lv_has ls 1 [(0, .ref h0)] := hl
  have kw0 := hts (.methodLink RX1 3 objectInit) (by decide +kernel)
  have kw1 := hts (.instanceMethod objectInit) (by decide +kernel)
  have kw2 := hts (.code objectInit ⟨#[0xb1]⟩ 1 none) (by decide +kernel)
  have kw3 := hts (.arrayClass .int) (by decide +kernel)
  have iw1 : ∀ w ∈ u_ws RX1 TX1 6, w ∈ wsX1_init := by decide +kernel
  have kw5 := hts (.fieldLink RX1 9 "HeldTongues$Deed" "bodies" "[I") (by decide +kernel)
  have kw6 := hts (.fieldLink RX1 15 "HeldTongues$Deed" "begun" "I") (by decide +kernel)
  refine lv_aload_n hx hb dX1_init_0 rfl (lv_at hl 0 rfl) ?_
  refine W.objInit hx hb hown kw0 kw1 kw2 rfl (by rw [hml]; exact hl.1) rfl dX1_init_1 (Nat.le_of_ble_eq_true rfl) (Nat.le_of_ble_eq_true rfl) ?_
  refine W.eq (g2 := F0 m 4 ls []) rfl ?_
  refine lv_aload_n hx hb dX1_init_4 rfl (lv_at hl 0 rfl) ?_
  refine lv_bipush (v := 30) hx hb dX1_init_5 (by decide) ?_
  refine ht_newa (atype := .int) (t0 := 1) (a0 := (30, .inl (fun _ => 0))) (N0 := 30) (ty := .int) (w2 := fun q_1 => ([(h0, .inr (1, [.null, .int 0, .int 0, .int 0, .int 0, .int 0]))] ++ ([(q_1, .inl (K 1, 30, .inl (fun _ => 0)))]))) hx hb kw3 rfl hK hP hD hS hA rfl (fun _ _ h1 h2 => Option.some.inj (h1.symm.trans h2)) (ht_arI 30) (by decide) (by decide) (Nat.le_of_ble_eq_true rfl) (Nat.le_of_ble_eq_true rfl) (Nat.le_of_ble_eq_true rfl) dX1_init_7 (fun _ => rfl) (fun q_1 H hP hD hS => ?_)
  refine ht_putF (ci := 1) (v := .ref q_1) (ty := (.array .int)) (C := RX1) (T := TX1) (N := 6) (w2 := ([(h0, .inr (1, [.ref q_1, .int 0, .int 0, .int 0, .int 0, .int 0]))] ++ ([(q_1, .inl (K 1, 30, .inl (fun _ => 0)))]))) hx hb hts iw1 tyX1 tyX1_ok nmX1 hown hK hP hD hS 0 rfl rfl 0 (by decide) kw5 (fun _ h9 => h9) rfl hmn rfl (by decide +kernel) rfl rfl (Nat.le_of_ble_eq_true rfl) dX1_init_9 rfl (fun H locs hP hD hS => ?_)
  refine lv_aload_n hx hb dX1_init_12 rfl (lv_at hl 0 rfl) ?_
  refine lv_iconst (v := 0) hx hb dX1_init_13 (by decide) ?_
  refine ht_put (ci := 1) (v := .int (0 : Int32)) (ty := .int) (C := RX1) (T := TX1) (N := 6) (w2 := ([(h0, .inr (1, [.ref q_1, .int (0 : Int32), .int 0, .int 0, .int 0, .int 0]))] ++ ([(q_1, .inl (K 1, 30, .inl (fun _ => 0)))]))) hx hb hts iw1 tyX1 tyX1_ok nmX1 hown hK hP hD hS 0 rfl rfl 1 (by decide) kw6 (fun _ h9 => h9) rfl (by decide +kernel) rfl rfl (Nat.le_of_ble_eq_true rfl) dX1_init_14 rfl (fun H locs hP hD hS => ?_)
  refine W.widen (k := 1) (n := 30) (Nat.le_of_ble_eq_true rfl) (Nat.le_of_ble_eq_true rfl) ?_
  subst hQ
  have hP9 := hP.sub (ws' := (wDe K h0 (fun k => ([q_1] : List Nat).getD k 0) (fun _ => 0) 0 0 0 0 0)) [0, 1] rfl
  have hD9 := hD.sub (ws' := (wDe K h0 (fun k => ([q_1] : List Nat).getD k 0) (fun _ => 0) 0 0 0 0 0)) [0, 1] (by decide) rfl
  exact W.vret hx hb hr (fun t ht hW => ⟨⟨(fun k => ([q_1] : List Nat).getD k 0), rfl, trivial, by rw [ht]; exact hP9, va_K.moved hW.alike hK, hD9⟩, hS.F ht⟩) hS.2.2 dX1_init_17 hlk
abbrev rmX4_init : Room := { frames := 1, cells := 1, slots := 200, locals := 20 }
theorem hdX4_init : yX4_init.cls ≠ "java/lang/invoke/MethodHandle" ∧ yX4_init.cls ≠ "java/lang/invoke/VarHandle" ∧ (parseMethodDescriptor yX4_init.desc).map (fun d => d.parameters.length) = some 0 := by decide +kernel
set_option maxHeartbeats 1000000 in
set_option maxRecDepth 100000 in
theorem ctX4_init (l : Launch) (D : va_G) (K : Nat → ClassId) (h0 : Nat) (sz : Nat) : Met l yX4_init wsX4_init rmX4_init (ht_Pre D K [.ref h0] ([(h0, .inr (4, [.null, .int 0]))]) sz) (ht_Qn D K (S := Nat → Nat) (fun u => (wTa K h0 u (fun _ => 0) 0)) (va_A ([(h0, .inr (4, [.null, .int 0]))]) sz)) 1 200 (va_A ([(h0, .inr (4, [.null, .int 0]))]) sz) := by
  refine ht_enter (Qf := ht_Qn D K (S := Nat → Nat) (fun u => (wTa K h0 u (fun _ => 0) 0))) (cc := cX4_init) (maxL := 1) (rt := none) (by decide) rfl (Nat.le_of_ble_eq_true rfl) ?_ sz
  intro p e s m below meth c A Q H locs ls hQ hx hb hr hlk hmn hml hown hts hA hK hP hD hS hl
  have hown : s.vm.findClass RX4 = some m.cls := hown
  have hF : CallFix p m c cX4_init 1 s ([.ref h0] : List Value).toArray wsX4_init RX4 := ⟨hx, hb, hml, hown, hts⟩
  have hl : lv_has ls 1 [(0, .ref h0)] := hl
  have kw0 := hts (.methodLink RX4 3 objectInit) (by decide +kernel)
  have kw1 := hts (.instanceMethod objectInit) (by decide +kernel)
  have kw2 := hts (.code objectInit ⟨#[0xb1]⟩ 1 none) (by decide +kernel)
  have kw3 := hts (.arrayClass .byte) (by decide +kernel)
  have iw4 : ∀ w ∈ u_ws RX4 TX4 2, w ∈ wsX4_init := by decide +kernel
  have kw5 := hts (.fieldLink RX4 9 "HeldTongues$Tape" "bytes" "[B") (by decide +kernel)
  have kw6 := hts (.fieldLink RX4 15 "HeldTongues$Tape" "length" "I") (by decide +kernel)
  refine lv_aload_n hx hb dX4_init_0 rfl (lv_at hl 0 rfl) ?_
  refine W.objInit hx hb hown kw0 kw1 kw2 rfl (by rw [hml]; exact hl.1) rfl dX4_init_1 (Nat.le_of_ble_eq_true rfl) (Nat.le_of_ble_eq_true rfl) ?_
  refine W.eq (g2 := F0 m 4 ls []) rfl ?_
  refine lv_aload_n hx hb dX4_init_4 rfl (lv_at hl 0 rfl) ?_
  refine lv_sipush (v := 200) hx hb dX4_init_5 (by decide) ?_
  refine ht_newa (atype := .byte) (t0 := 0) (a0 := (200, .inl (fun _ => 0))) (N0 := 200) (ty := .byte) (w2 := fun q_1 => ([(h0, .inr (4, [.null, .int 0]))] ++ ([(q_1, .inl (K 0, 200, .inl (fun _ => 0)))]))) hx hb kw3 rfl hK hP hD hS hA rfl (fun _ _ h1 h2 => Option.some.inj (h1.symm.trans h2)) (ht_arB 200) (by decide) (by decide) (Nat.le_of_ble_eq_true rfl) (Nat.le_of_ble_eq_true rfl) (Nat.le_of_ble_eq_true rfl) dX4_init_8 (fun _ => rfl) (fun q_1 H hP hD hS => ?_)
  refine ht_putF (ci := 4) (v := .ref q_1) (ty := (.array .byte)) (C := RX4) (T := TX4) (N := 2) (w2 := ([(h0, .inr (4, [.ref q_1, .int 0]))] ++ ([(q_1, .inl (K 0, 200, .inl (fun _ => 0)))]))) hx hb hts iw4 tyX4 tyX4_ok nmX4 hown hK hP hD hS 0 rfl rfl 0 (by decide) kw5 (fun _ h9 => h9) rfl hmn rfl (by decide +kernel) rfl rfl (Nat.le_of_ble_eq_true rfl) dX4_init_10 rfl (fun H locs hP hD hS => ?_)
  refine lv_aload_n hx hb dX4_init_13 rfl (lv_at hl 0 rfl) ?_
  refine lv_iconst (v := 0) hx hb dX4_init_14 (by decide) ?_
  refine ht_put (ci := 4) (v := .int (0 : Int32)) (ty := .int) (C := RX4) (T := TX4) (N := 2) (w2 := ([(h0, .inr (4, [.ref q_1, .int (0 : Int32)]))] ++ ([(q_1, .inl (K 0, 200, .inl (fun _ => 0)))]))) hx hb hts iw4 tyX4 tyX4_ok nmX4 hown hK hP hD hS 0 rfl rfl 1 (by decide) kw6 (fun _ h9 => h9) rfl (by decide +kernel) rfl rfl (Nat.le_of_ble_eq_true rfl) dX4_init_15 rfl (fun H locs hP hD hS => ?_)
  refine W.widen (k := 1) (n := 200) (Nat.le_of_ble_eq_true rfl) (Nat.le_of_ble_eq_true rfl) ?_
  subst hQ
  have hP9 := hP.sub (ws' := (wTa K h0 (fun k => ([q_1] : List Nat).getD k 0) (fun _ => 0) 0)) [0, 1] rfl
  have hD9 := hD.sub (ws' := (wTa K h0 (fun k => ([q_1] : List Nat).getD k 0) (fun _ => 0) 0)) [0, 1] (by decide) rfl
  exact W.vret hx hb hr (fun t ht hW => ⟨⟨(fun k => ([q_1] : List Nat).getD k 0), rfl, trivial, by rw [ht]; exact hP9, va_K.moved hW.alike hK, hD9⟩, hS.F ht⟩) hS.2.2 dX4_init_18 hlk
abbrev rmX5_init : Room := { frames := 1, cells := 0, slots := 0, locals := 20 }
theorem hdX5_init : yX5_init.cls ≠ "java/lang/invoke/MethodHandle" ∧ yX5_init.cls ≠ "java/lang/invoke/VarHandle" ∧ (parseMethodDescriptor yX5_init.desc).map (fun d => d.parameters.length) = some 2 := by decide +kernel
set_option maxHeartbeats 1000000 in
set_option maxRecDepth 100000 in
theorem ctX5_init (l : Launch) (D : va_G) (K : Nat → ClassId) (h0 : Nat) (p0 : Nat) (p1 : Nat) (sz : Nat) : Met l yX5_init wsX5_init rmX5_init (ht_Pre D K [.ref h0, .ref p0, .ref p1] ([(h0, .inr (5, [.null, .null, .int 0, .int 0, .int 0, .int 0]))]) sz) (ht_Qn D K (S := Unit) (fun u => (wTe K h0 p0 p1 0 0 0 0)) (va_A ([(h0, .inr (5, [.null, .null, .int 0, .int 0, .int 0, .int 0]))]) sz)) 0 0 (va_A ([(h0, .inr (5, [.null, .null, .int 0, .int 0, .int 0, .int 0]))]) sz) := by
  refine ht_enter (Qf := ht_Qn D K (S := Unit) (fun u => (wTe K h0 p0 p1 0 0 0 0))) (cc := cX5_init) (maxL := 3) (rt := none) (by decide) rfl (Nat.le_of_ble_eq_true rfl) ?_ sz
  intro p e s m below meth c A Q H locs ls hQ hx hb hr hlk hmn hml hown hts hA hK hP hD hS hl
  have hown : s.vm.findClass RX5 = some m.cls := hown
  have hF : CallFix p m c cX5_init 3 s ([.ref h0, .ref p0, .ref p1] : List Value).toArray wsX5_init RX5 := ⟨hx, hb, hml, hown, hts⟩
  have hl : lv_has ls 3 [(0, .ref h0), (1, .ref p0), (2, .ref p1)] := hl
  have kw0 := hts (.methodLink RX5 3 objectInit) (by decide +kernel)
  have kw1 := hts (.instanceMethod objectInit) (by decide +kernel)
  have kw2 := hts (.code objectInit ⟨#[0xb1]⟩ 1 none) (by decide +kernel)
  have iw5 : ∀ w ∈ u_ws RX5 TX5 6, w ∈ wsX5_init := by decide +kernel
  have kw4 := hts (.fieldLink RX5 9 "HeldTongues$Telling" "tape" "LHeldTongues$Tape;") (by decide +kernel)
  have kw5 := hts (.fieldLink RX5 15 "HeldTongues$Telling" "told" "LHeldTongues$Town;") (by decide +kernel)
  refine lv_aload_n hx hb dX5_init_0 rfl (lv_at hl 0 rfl) ?_
  refine W.objInit hx hb hown kw0 kw1 kw2 rfl (by rw [hml]; exact hl.1) rfl dX5_init_1 (Nat.le_of_ble_eq_true rfl) (Nat.le_of_ble_eq_true rfl) ?_
  refine W.eq (g2 := F0 m 4 ls []) rfl ?_
  refine lv_aload_n hx hb dX5_init_4 rfl (lv_at hl 0 rfl) ?_
  refine lv_aload_n hx hb dX5_init_5 rfl (lv_at hl 1 rfl) ?_
  refine ht_putF (ci := 5) (v := .ref p0) (ty := .object "HeldTongues$Tape") (C := RX5) (T := TX5) (N := 6) (w2 := ([(h0, .inr (5, [.ref p0, .null, .int 0, .int 0, .int 0, .int 0]))])) hx hb hts iw5 tyX5 tyX5_ok nmX5 hown hK hP hD hS 0 rfl rfl 0 (by decide) kw4 (fun _ h9 => h9) rfl hmn rfl (by decide +kernel) rfl rfl (Nat.le_of_ble_eq_true rfl) dX5_init_6 rfl (fun H locs hP hD hS => ?_)
  refine lv_aload_n hx hb dX5_init_9 rfl (lv_at hl 0 rfl) ?_
  refine lv_aload_n hx hb dX5_init_10 rfl (lv_at hl 2 rfl) ?_
  refine ht_putF (ci := 5) (v := .ref p1) (ty := .object "HeldTongues$Town") (C := RX5) (T := TX5) (N := 6) (w2 := ([(h0, .inr (5, [.ref p0, .ref p1, .int 0, .int 0, .int 0, .int 0]))])) hx hb hts iw5 tyX5 tyX5_ok nmX5 hown hK hP hD hS 0 rfl rfl 1 (by decide) kw5 (fun _ h9 => h9) rfl hmn rfl (by decide +kernel) rfl rfl (Nat.le_of_ble_eq_true rfl) dX5_init_11 rfl (fun H locs hP hD hS => ?_)
  refine W.widen (k := 0) (n := 0) (Nat.le_of_ble_eq_true rfl) (Nat.le_of_ble_eq_true rfl) ?_
  subst hQ
  have hP9 := hP.sub (ws' := (wTe K h0 p0 p1 0 0 0 0)) [0] rfl
  have hD9 := hD.sub (ws' := (wTe K h0 p0 p1 0 0 0 0)) [0] (by decide) rfl
  exact W.vret hx hb hr (fun t ht hW => ⟨⟨(), rfl, trivial, by rw [ht]; exact hP9, va_K.moved hW.alike hK, hD9⟩, hS.F ht⟩) hS.2.2 dX5_init_14 hlk
abbrev rmX2_init : Room := { frames := 2, cells := 10, slots := 384, locals := 40 }
theorem hdX2_init : yX2_init.cls ≠ "java/lang/invoke/MethodHandle" ∧ yX2_init.cls ≠ "java/lang/invoke/VarHandle" ∧ (parseMethodDescriptor yX2_init.desc).map (fun d => d.parameters.length) = some 1 := by decide +kernel
set_option maxHeartbeats 1000000 in
set_option maxRecDepth 100000 in
theorem ctX2_init (l : Launch) (D : va_G) (K : Nat → ClassId) (h0 : Nat) (p0 : Nat) (sz : Nat) : Met l yX2_init wsX2_init rmX2_init (ht_Pre D K [.ref h0, .ref p0] ([(h0, .inr (2, [.null, .null, .null, .null]))]) sz) (ht_Qn D K (S := Nat × (Nat → Nat) × (Nat → Nat)) (fun u => (wPa K h0 u.2.2 p0 u.1 (fun _ => 0) (fun _ => 0) ++ (wTw K u.1 u.2.1 laws0 (fun _ => 0) (fun _ => 0) (fun _ => 0) (fun _ => 0) (fun _ => 0) (fun _ => 0) 0 0 0 0 1))) (va_A ([(h0, .inr (2, [.null, .null, .null, .null]))]) sz)) 10 384 (va_A ([(h0, .inr (2, [.null, .null, .null, .null]))]) sz) := by
  refine ht_enter (Qf := ht_Qn D K (S := Nat × (Nat → Nat) × (Nat → Nat)) (fun u => (wPa K h0 u.2.2 p0 u.1 (fun _ => 0) (fun _ => 0) ++ (wTw K u.1 u.2.1 laws0 (fun _ => 0) (fun _ => 0) (fun _ => 0) (fun _ => 0) (fun _ => 0) (fun _ => 0) 0 0 0 0 1)))) (cc := cX2_init) (maxL := 2) (rt := none) (by decide) rfl (Nat.le_of_ble_eq_true rfl) ?_ sz
  intro p e s m below meth c A Q H locs ls hQ hx hb hr hlk hmn hml hown hts hA hK hP hD hS hl
  have hown : s.vm.findClass RX2 = some m.cls := hown
  have hF : CallFix p m c cX2_init 2 s ([.ref h0, .ref p0] : List Value).toArray wsX2_init RX2 := ⟨hx, hb, hml, hown, hts⟩
  have hl : lv_has ls 2 [(0, .ref h0), (1, .ref p0)] := hl
  have kw0 := hts (.methodLink RX2 3 objectInit) (by decide +kernel)
  have kw1 := hts (.instanceMethod objectInit) (by decide +kernel)
  have kw2 := hts (.code objectInit ⟨#[0xb1]⟩ 1 none) (by decide +kernel)
  have iw6 : ∀ w ∈ u_ws RX6 TX6 12, w ∈ wsX2_init := by decide +kernel
  have kw4 := hts (.classLink RX2 9 RX6) (by decide +kernel)
  have kw5 := hts (.instantiable RX6 12) (by decide +kernel)
  have kw6 := hts (.initialized RX6) (by decide +kernel)
  have kw7 := hts (.methodLink RX2 11 yX6_init) (by decide +kernel)
  have kw8 := hts (.instanceMethod yX6_init) (by decide +kernel)
  have iw2 : ∀ w ∈ u_ws RX2 TX2 4, w ∈ wsX2_init := by decide +kernel
  have kw10 := hts (.fieldLink RX2 12 "HeldTongues$Pairings" "few" "LHeldTongues$Town;") (by decide +kernel)
  have kw11 := hts (.arrayClass .int) (by decide +kernel)
  have kw12 := hts (.fieldLink RX2 18 "HeldTongues$Pairings" "sounds" "[I") (by decide +kernel)
  have kw13 := hts (.fieldLink RX2 22 "HeldTongues$Pairings" "mostOfSet" "[I") (by decide +kernel)
  have kw14 := hts (.fieldLink RX2 25 "HeldTongues$Pairings" "now" "LHeldTongues$Town;") (by decide +kernel)
  refine lv_aload_n hx hb dX2_init_0 rfl (lv_at hl 0 rfl) ?_
  refine W.objInit hx hb hown kw0 kw1 kw2 rfl (by rw [hml]; exact hl.1) rfl dX2_init_1 (Nat.le_of_ble_eq_true rfl) (Nat.le_of_ble_eq_true rfl) ?_
  refine W.eq (g2 := F0 m 4 ls []) rfl ?_
  refine lv_aload_n hx hb dX2_init_4 rfl (lv_at hl 0 rfl) ?_
  refine ht_new (ci := 6) (fs := [.null, .null, .null, .null, .null, .null, .null, .int 0, .int 0, .int 0, .int 0, .int 0]) (C := RX6) (T := TX6) (N := 12) (w2 := fun q_1 => ([(h0, .inr (2, [.null, .null, .null, .null]))] ++ ([(q_1, .inr (6, [.null, .null, .null, .null, .null, .null, .null, .int 0, .int 0, .int 0, .int 0, .int 0]))]))) hx hb hts iw6 tyX6 tyX6_ok hown kw4 kw5 kw6 hK hP hD hS hA rfl (fun j hj => by rcases (show j = 0 ∨ j = 1 ∨ j = 2 ∨ j = 3 ∨ j = 4 ∨ j = 5 ∨ j = 6 ∨ j = 7 ∨ j = 8 ∨ j = 9 ∨ j = 10 ∨ j = 11 by omega) with rfl | rfl | rfl | rfl | rfl | rfl | rfl | rfl | rfl | rfl | rfl | rfl <;> rfl) (Nat.le_of_ble_eq_true rfl) (Nat.le_of_ble_eq_true rfl) dX2_init_5 (fun _ => rfl) (fun q_1 H hP hD hS => ?_)
  refine lv_dup hx hb dX2_init_8 rfl ?_
  refine ht_callIv (As := []) (rest := [.ref q_1, .ref h0]) (wc := [(q_1, .inr (6, [.null, .null, .null, .null, .null, .null, .null, .int 0, .int 0, .int 0, .int 0, .int 0]))]) (wr := ([(h0, .inr (2, [.null, .null, .null, .null]))])) (w1 := fun (u_2 : Nat → Nat) => (wTw K q_1 u_2 laws0 (fun _ => 0) (fun _ => 0) (fun _ => 0) (fun _ => 0) (fun _ => 0) (fun _ => 0) 0 0 0 0 1)) (w2 := fun (u_2 : Nat → Nat) => ([(h0, .inr (2, [.null, .null, .null, .null]))] ++ (wTw K q_1 u_2 laws0 (fun _ => 0) (fun _ => 0) (fun _ => 0) (fun _ => 0) (fun _ => 0) (fun _ => 0) 0 0 0 0 1))) hF (ctX6_init l D K q_1 H.size) (cwI 0 hts gX2_init_X6_init rfl rfl rfl kw6 kw7 kw8 rfl hdX6_init ⟨Nat.le_of_ble_eq_true rfl, Nat.le_of_ble_eq_true rfl⟩) hK hP hD hS hA [1] [0] rfl rfl (by decide) (by decide) (by decide) (fun _ => rfl) rfl hl.1 rfl (Nat.le_of_ble_eq_true rfl) dX2_init_9 ⟨Nat.le_of_ble_eq_true rfl, Nat.le_of_ble_eq_true rfl⟩ (fun u_2 H locs hP hD hS => ?_)
  refine ht_putF (ci := 2) (v := .ref q_1) (ty := .object "HeldTongues$Town") (C := RX2) (T := TX2) (N := 4) (w2 := ([(h0, .inr (2, [.null, .ref q_1, .null, .null]))] ++ (wTw K q_1 u_2 laws0 (fun _ => 0) (fun _ => 0) (fun _ => 0) (fun _ => 0) (fun _ => 0) (fun _ => 0) 0 0 0 0 1))) hx hb hts iw2 tyX2 tyX2_ok nmX2 hown hK hP hD hS 0 rfl rfl 1 (by decide) kw10 (fun _ h9 => h9) rfl hmn rfl (by decide +kernel) rfl rfl (Nat.le_of_ble_eq_true rfl) dX2_init_12 rfl (fun H locs hP hD hS => ?_)
  refine lv_aload_n hx hb dX2_init_15 rfl (lv_at hl 0 rfl) ?_
  refine lv_bipush (v := 64) hx hb dX2_init_16 (by decide) ?_
  refine ht_newa (atype := .int) (t0 := 1) (a0 := (64, .inl (fun _ => 0))) (N0 := 64) (ty := .int) (w2 := fun q_3 => ([(h0, .inr (2, [.null, .ref q_1, .null, .null]))] ++ (wTw K q_1 u_2 laws0 (fun _ => 0) (fun _ => 0) (fun _ => 0) (fun _ => 0) (fun _ => 0) (fun _ => 0) 0 0 0 0 1 ++ ([(q_3, .inl (K 1, 64, .inl (fun _ => 0)))])))) hx hb kw11 rfl hK hP hD hS hA rfl (fun _ _ h1 h2 => Option.some.inj (h1.symm.trans h2)) (ht_arI 64) (by decide) (by decide) (Nat.le_of_ble_eq_true rfl) (Nat.le_of_ble_eq_true rfl) (Nat.le_of_ble_eq_true rfl) dX2_init_18 (fun _ => rfl) (fun q_3 H hP hD hS => ?_)
  refine ht_putF (ci := 2) (v := .ref q_3) (ty := (.array .int)) (C := RX2) (T := TX2) (N := 4) (w2 := ([(h0, .inr (2, [.null, .ref q_1, .ref q_3, .null]))] ++ (wTw K q_1 u_2 laws0 (fun _ => 0) (fun _ => 0) (fun _ => 0) (fun _ => 0) (fun _ => 0) (fun _ => 0) 0 0 0 0 1 ++ ([(q_3, .inl (K 1, 64, .inl (fun _ => 0)))])))) hx hb hts iw2 tyX2 tyX2_ok nmX2 hown hK hP hD hS 0 rfl rfl 2 (by decide) kw12 (fun _ h9 => h9) rfl hmn rfl (by decide +kernel) rfl rfl (Nat.le_of_ble_eq_true rfl) dX2_init_20 rfl (fun H locs hP hD hS => ?_)
  refine lv_aload_n hx hb dX2_init_23 rfl (lv_at hl 0 rfl) ?_
  refine lv_sipush (v := 256) hx hb dX2_init_24 (by decide) ?_
  refine ht_newa (atype := .int) (t0 := 1) (a0 := (256, .inl (fun _ => 0))) (N0 := 256) (ty := .int) (w2 := fun q_4 => ([(h0, .inr (2, [.null, .ref q_1, .ref q_3, .null]))] ++ (wTw K q_1 u_2 laws0 (fun _ => 0) (fun _ => 0) (fun _ => 0) (fun _ => 0) (fun _ => 0) (fun _ => 0) 0 0 0 0 1 ++ ([(q_3, .inl (K 1, 64, .inl (fun _ => 0)))] ++ ([(q_4, .inl (K 1, 256, .inl (fun _ => 0)))]))))) hx hb kw11 rfl hK hP hD hS hA rfl (fun _ _ h1 h2 => Option.some.inj (h1.symm.trans h2)) (ht_arI 256) (by decide) (by decide) (Nat.le_of_ble_eq_true rfl) (Nat.le_of_ble_eq_true rfl) (Nat.le_of_ble_eq_true rfl) dX2_init_27 (fun _ => rfl) (fun q_4 H hP hD hS => ?_)
  refine ht_putF (ci := 2) (v := .ref q_4) (ty := (.array .int)) (C := RX2) (T := TX2) (N := 4) (w2 := ([(h0, .inr (2, [.null, .ref q_1, .ref q_3, .ref q_4]))] ++ (wTw K q_1 u_2 laws0 (fun _ => 0) (fun _ => 0) (fun _ => 0) (fun _ => 0) (fun _ => 0) (fun _ => 0) 0 0 0 0 1 ++ ([(q_3, .inl (K 1, 64, .inl (fun _ => 0)))] ++ ([(q_4, .inl (K 1, 256, .inl (fun _ => 0)))]))))) hx hb hts iw2 tyX2 tyX2_ok nmX2 hown hK hP hD hS 0 rfl rfl 3 (by decide) kw13 (fun _ h9 => h9) rfl hmn rfl (by decide +kernel) rfl rfl (Nat.le_of_ble_eq_true rfl) dX2_init_29 rfl (fun H locs hP hD hS => ?_)
  refine lv_aload_n hx hb dX2_init_32 rfl (lv_at hl 0 rfl) ?_
  refine lv_aload_n hx hb dX2_init_33 rfl (lv_at hl 1 rfl) ?_
  refine ht_putF (ci := 2) (v := .ref p0) (ty := .object "HeldTongues$Town") (C := RX2) (T := TX2) (N := 4) (w2 := ([(h0, .inr (2, [.ref p0, .ref q_1, .ref q_3, .ref q_4]))] ++ (wTw K q_1 u_2 laws0 (fun _ => 0) (fun _ => 0) (fun _ => 0) (fun _ => 0) (fun _ => 0) (fun _ => 0) 0 0 0 0 1 ++ ([(q_3, .inl (K 1, 64, .inl (fun _ => 0)))] ++ ([(q_4, .inl (K 1, 256, .inl (fun _ => 0)))]))))) hx hb hts iw2 tyX2 tyX2_ok nmX2 hown hK hP hD hS 0 rfl rfl 0 (by decide) kw14 (fun _ h9 => h9) rfl hmn rfl (by decide +kernel) rfl rfl (Nat.le_of_ble_eq_true rfl) dX2_init_34 rfl (fun H locs hP hD hS => ?_)
  refine W.widen (k := 10) (n := 384) (Nat.le_of_ble_eq_true rfl) (Nat.le_of_ble_eq_true rfl) ?_
  subst hQ
  have hP9 := hP.sub (ws' := (wPa K h0 (fun k => ([q_3, q_4] : List Nat).getD k 0) p0 q_1 (fun _ => 0) (fun _ => 0) ++ (wTw K q_1 u_2 laws0 (fun _ => 0) (fun _ => 0) (fun _ => 0) (fun _ => 0) (fun _ => 0) (fun _ => 0) 0 0 0 0 1))) [0, 9, 10, 1, 2, 3, 4, 5, 6, 7, 8] rfl
  have hD9 := hD.sub (ws' := (wPa K h0 (fun k => ([q_3, q_4] : List Nat).getD k 0) p0 q_1 (fun _ => 0) (fun _ => 0) ++ (wTw K q_1 u_2 laws0 (fun _ => 0) (fun _ => 0) (fun _ => 0) (fun _ => 0) (fun _ => 0) (fun _ => 0) 0 0 0 0 1))) [0, 9, 10, 1, 2, 3, 4, 5, 6, 7, 8] (by decide) rfl
  exact W.vret hx hb hr (fun t ht hW => ⟨⟨(q_1, u_2, (fun k => ([q_3, q_4] : List Nat).getD k 0)), rfl, trivial, by rw [ht]; exact hP9, va_K.moved hW.alike hK, hD9⟩, hS.F ht⟩) hS.2.2 dX2_init_37 hlk
abbrev rmX3_init : Room := { frames := 1, cells := 1, slots := 40, locals := 40 }
theorem hdX3_init : yX3_init.cls ≠ "java/lang/invoke/MethodHandle" ∧ yX3_init.cls ≠ "java/lang/invoke/VarHandle" ∧ (parseMethodDescriptor yX3_init.desc).map (fun d => d.parameters.length) = some 2 := by decide +kernel
theorem x3_len {k : Nat} (hk : k ≤ 40) : (if (0 : Int32) < (if nI k < (40 : Int32) then nI k else (40 : Int32)) then (if nI k < (40 : Int32) then nI k else (40 : Int32)) else (0 : Int32)) = nI k := by
  have h : ∀ k : Nat, k < 41 → (if (0 : Int32) < (if nI k < (40 : Int32) then nI k else (40 : Int32)) then (if nI k < (40 : Int32) then nI k else (40 : Int32)) else (0 : Int32)) = nI k := by decide +kernel
  exact h k (by omega)
set_option maxHeartbeats 1000000 in
set_option maxRecDepth 100000 in
theorem ctX3_init (l : Launch) (D : va_G) (K : Nat → ClassId) (h0 : Nat) (p0 : Int32) (k : Nat) (hk : k ≤ 40) (sz : Nat) : Met l yX3_init wsX3_init rmX3_init (ht_Pre D K [.ref h0, .int p0, .int (nI k)] [(h0, .inr (3, [.int 0, .null]))] sz) (ht_Qn D K (S := Nat → Nat) (fun u => wRo K h0 u p0 (fun _ => 0) k) (va_A [(h0, .inr (3, [.int 0, .null]))] sz)) 1 40 (va_A [(h0, .inr (3, [.int 0, .null]))] sz) := by
  refine ht_enter (Qf := ht_Qn D K (S := Nat → Nat) (fun u => wRo K h0 u p0 (fun _ => 0) k)) (cc := cX3_init) (maxL := 3) (rt := none) (by decide) rfl (Nat.le_of_ble_eq_true rfl) ?_ sz
  intro p e s m below meth c A Q H locs ls hQ hx hb hr hlk hmn hml hown hts hA hK hP hD hS hl
  have hown : s.vm.findClass RX3 = some m.cls := hown
  have hl : lv_has ls 3 [(0, .ref h0), (1, .int p0), (2, .int (nI k))] := hl
  have iw3 : ∀ w ∈ u_ws RX3 TX3 2, w ∈ wsX3_init := by decide +kernel
  have kw0 := hts (.methodLink RX3 3 objectInit) (by decide +kernel)
  have kw1 := hts (.instanceMethod objectInit) (by decide +kernel)
  have kw2 := hts (.code objectInit ⟨#[0xb1]⟩ 1 none) (by decide +kernel)
  have kw3 := hts (.fieldLink RX3 9 "HeldTongues$SheetRow" "sort" "I") (by decide +kernel)
  have kw4 := hts (.fieldLink RX3 24 "HeldTongues$SheetRow" "items" "[J") (by decide +kernel)
  have kw5 := hts (.methodLink RX3 15 Lib.Math.min.name) (by decide +kernel)
  have kw6 := hts (.static Lib.Math.min.name) (by decide +kernel)
  have kw7 := hts (.initialized "java/lang/Math") (by decide +kernel)
  have kw8 := hts (.code Lib.Math.min.name Lib.Math.min.code 2 (some .int)) (by decide +kernel)
  have kw9 := hts (.methodLink RX3 21 Lib.Math.max.name) (by decide +kernel)
  have kw10 := hts (.static Lib.Math.max.name) (by decide +kernel)
  have kw11 := hts (.code Lib.Math.max.name Lib.Math.max.code 2 (some .int)) (by decide +kernel)
  have kw12 := hts (.arrayClass .long) (by decide +kernel)
  refine lv_aload_n hx hb dX3_init_0 rfl (lv_at hl 0 rfl) ?_
  refine W.objInit hx hb hown kw0 kw1 kw2 rfl (by rw [hml]; exact hl.1) rfl dX3_init_1 (Nat.le_of_ble_eq_true rfl) (Nat.le_of_ble_eq_true rfl) ?_
  refine W.eq (g2 := F0 m 4 ls []) rfl ?_
  refine lv_aload_n hx hb dX3_init_4 rfl (lv_at hl 0 rfl) ?_
  refine lv_iload_n hx hb dX3_init_5 rfl (lv_at hl 1 rfl) ?_
  refine ht_putF (ci := 3) (v := .int p0) (ty := .int) (C := RX3) (T := TX3) (N := 2) (w2 := [(h0, .inr (3, [.int p0, .null]))]) hx hb hts iw3 tyX3 tyX3_ok nmX3 hown hK hP hD hS 0 rfl rfl 0 (by decide) kw3 (fun _ h9 => h9) rfl hmn rfl (by decide +kernel) rfl rfl (Nat.le_of_ble_eq_true rfl) dX3_init_6 rfl (fun H locs hP hD hS => ?_)
  refine lv_aload_n hx hb dX3_init_9 rfl (lv_at hl 0 rfl) ?_
  refine lv_iconst (v := 0) hx hb dX3_init_10 (by decide) ?_
  refine lv_bipush (v := 40) hx hb dX3_init_11 (by decide) ?_
  refine lv_iload_n hx hb dX3_init_13 rfl (lv_at hl 2 rfl) ?_
  refine va_mmin hx hb (by rw [hml]; exact hl.1.symm) hown kw5 kw6 kw7 kw8 (Nat.le_of_ble_eq_true rfl) (Nat.le_of_ble_eq_true rfl) (Nat.zero_le _) (Nat.zero_le _) dX3_init_14 ?_
  refine va_mmax hx hb (by rw [hml]; exact hl.1.symm) hown kw9 kw10 kw7 kw11 (Nat.le_of_ble_eq_true rfl) (Nat.le_of_ble_eq_true rfl) (Nat.zero_le _) (Nat.zero_le _) dX3_init_17 ?_
  rw [x3_len hk]
  refine ht_newa (atype := .long) (t0 := 2) (a0 := (k, .inr (.inl (fun _ => 0)))) (N0 := k) (ty := .long) (w2 := fun q => [(h0, .inr (3, [.int p0, .null])), (q, .inl (K 2, k, .inr (.inl (fun _ => 0))))]) hx hb kw12 rfl hK hP hD hS hA rfl (fun _ _ h1 h2 => Option.some.inj (h1.symm.trans h2)) (ht_arL k) (nI_pos (by omega)) (nI_clamp (by omega)) (show k * 8 ≤ 536870912 by omega) (Nat.le_of_ble_eq_true rfl) (show 0 + k ≤ 40 by omega) dX3_init_20 (fun _ => rfl) (fun q H hP hD hS => ?_)
  refine ht_putF (ci := 3) (v := .ref q) (ty := .array .long) (C := RX3) (T := TX3) (N := 2) (w2 := [(h0, .inr (3, [.int p0, .ref q])), (q, .inl (K 2, k, .inr (.inl (fun _ => 0))))]) hx hb hts iw3 tyX3 tyX3_ok nmX3 hown hK hP hD hS 0 rfl rfl 1 (by decide) kw4 (fun _ h9 => h9) rfl hmn rfl (by decide +kernel) rfl rfl (Nat.le_of_ble_eq_true rfl) dX3_init_22 rfl (fun H locs hP hD hS => ?_)
  refine W.widen (k := 1) (n := 40) (Nat.le_of_ble_eq_true rfl) (show 0 + k ≤ 40 by omega) ?_
  subst hQ
  exact W.vret hx hb hr (fun t ht hW => ⟨⟨(fun _ => q), rfl, trivial, by rw [ht]; exact hP, va_K.moved hW.alike hK, hD⟩, hS.F ht⟩) hS.2.2 dX3_init_25 hlk
