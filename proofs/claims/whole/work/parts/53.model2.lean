abbrev rmX9_ways (d : Nat) : Room := { frames := 100 + d, cells := 0, slots := 0, locals := 4000 + d * 25 }
theorem hdX9_ways : yX9_ways.cls = RX9 ∧ yX9_ways.cls ≠ "java/lang/invoke/MethodHandle" ∧ yX9_ways.cls ≠ "java/lang/invoke/VarHandle" ∧ (parseMethodDescriptor yX9_ways.desc).map (fun d => d.parameters.length) = some 3 := by decide +kernel
def fX9_ways_b142 (slf : ModV → Int32 → Int32 → Int32 → Option (AI × AI × Int32 × AI)) (RM : ModV) (k88 : Int32 → Int32 → Int32 → Int32 → AI → AI → Int32 → AI → Option (AI × AI × Int32 × AI)) (x1 : Int32) (x2 : Int32) (x3 : Int32) (x4 : Int32) (vM_s : AI) (vM_aside : AI) (vM_bestSound : Int32) (vM_bestWay : AI) : Option (AI × AI × Int32 × AI) := ht_nm (x4 + (1 : Int32)) (fun x4_1 => k88 x1 x2 x3 x4_1 vM_s vM_aside vM_bestSound vM_bestWay)
def fX9_ways_b88 (slf : ModV → Int32 → Int32 → Int32 → Option (AI × AI × Int32 × AI)) (RM : ModV) (k88 : Int32 → Int32 → Int32 → Int32 → AI → AI → Int32 → AI → Option (AI × AI × Int32 × AI)) (x1 : Int32) (x2 : Int32) (x3 : Int32) (x4 : Int32) (vM_s : AI) (vM_aside : AI) (vM_bestSound : Int32) (vM_bestWay : AI) : Option (AI × AI × Int32 × AI) := ht_gd (ht_ix (0 : Int32) 57) (if (vM_s (0 : Int32).toNatClampNeg) ≤ x4 then (some (vM_s, vM_aside, vM_bestSound, vM_bestWay)) else (if ((x2 >>> (x1 &&& 31)) &&& (1 : Int32)) = 0 then (if ((x2 >>> (x4 &&& 31)) &&& (1 : Int32)) = 0 then (ht_bn (fX9_pairs (vM_s, RM.held, vM_aside, RM.before, RM.isHeld, RM.tape, RM.taped, RM.token, RM.frm, RM.to, RM.value, RM.isWrong, RM.unpaired, vM_bestSound, vM_bestWay, RM.rows, RM.rowN, RM.sortOf, RM.sizeOf, RM.numbers, RM.holdsWhat, RM.holdsWhich, RM.holdsMany, RM.bodies, RM.ran, RM.actKind, RM.actN, RM.actA, RM.isParted) x1 x4) (fun o_6 => ht_bn (slf (o_6, RM.held, vM_aside, RM.before, RM.isHeld, RM.tape, RM.taped, RM.token, RM.frm, RM.to, RM.value, RM.isWrong, RM.unpaired, vM_bestSound, vM_bestWay, RM.rows, RM.rowN, RM.sortOf, RM.sizeOf, RM.numbers, RM.holdsWhat, RM.holdsWhich, RM.holdsMany, RM.bodies, RM.ran, RM.actKind, RM.actN, RM.actA, RM.isParted) (x1 + (1 : Int32)) (x2 ||| ((1 : Int32) <<< (x4 &&& 31))) x3) (fun o_7 => ht_bn (fX9_leaves (o_7.1, RM.held, o_7.2.1, RM.before, RM.isHeld, RM.tape, RM.taped, RM.token, RM.frm, RM.to, RM.value, RM.isWrong, RM.unpaired, o_7.2.2.1, o_7.2.2.2, RM.rows, RM.rowN, RM.sortOf, RM.sizeOf, RM.numbers, RM.holdsWhat, RM.holdsWhich, RM.holdsMany, RM.bodies, RM.ran, RM.actKind, RM.actN, RM.actA, RM.isParted) x1) (fun o_8 => fX9_ways_b142 slf RM k88 x1 x2 x3 x4 o_8 o_7.2.1 o_7.2.2.1 o_7.2.2.2)))) else (fX9_ways_b142 slf RM k88 x1 x2 x3 x4 vM_s vM_aside vM_bestSound vM_bestWay)) else (some (vM_s, vM_aside, vM_bestSound, vM_bestWay))))
def fX9_ways_b60 (slf : ModV → Int32 → Int32 → Int32 → Option (AI × AI × Int32 × AI)) (RM : ModV) (x4 : Int32) (vM_s : AI) (vM_aside : AI) (vM_bestSound : Int32) (vM_bestWay : AI) : Option (AI × AI × Int32 × AI) := ht_bn (fX9_greatest vM_bestSound x4) (fun o_9 => some (vM_s, vM_aside, o_9, vM_bestWay))
def fX9_ways_b20 (slf : ModV → Int32 → Int32 → Int32 → Option (AI × AI × Int32 × AI)) (RM : ModV) (k20 : Int32 → Int32 → AI → AI → Int32 → AI → Option (AI × AI × Int32 × AI)) (x4 : Int32) (x5 : Int32) (vM_s : AI) (vM_aside : AI) (vM_bestSound : Int32) (vM_bestWay : AI) : Option (AI × AI × Int32 × AI) := ht_gd (ht_ix (0 : Int32) 57) (if (vM_s (0 : Int32).toNatClampNeg) ≤ x5 then (fX9_ways_b60 slf RM x4 vM_s vM_aside vM_bestSound vM_bestWay) else (if x4 ≤ vM_bestSound then (fX9_ways_b60 slf RM x4 vM_s vM_aside vM_bestSound vM_bestWay) else (ht_bn (fX9_its (vM_s, RM.held, vM_aside, RM.before, RM.isHeld, RM.tape, RM.taped, RM.token, RM.frm, RM.to, RM.value, RM.isWrong, RM.unpaired, vM_bestSound, vM_bestWay, RM.rows, RM.rowN, RM.sortOf, RM.sizeOf, RM.numbers, RM.holdsWhat, RM.holdsWhich, RM.holdsMany, RM.bodies, RM.ran, RM.actKind, RM.actN, RM.actA, RM.isParted) x5 (4 : Int32)) (fun o_13 => ht_gd (ht_ix x5 8) (ht_nm (upd vM_bestWay x5.toNatClampNeg o_13) (fun vM_bestWay_15 => ht_nm (x5 + (1 : Int32)) (fun x5_16 => k20 x4 x5_16 vM_s vM_aside vM_bestSound vM_bestWay_15)))))))
def fX9_ways (slf : ModV → Int32 → Int32 → Int32 → Option (AI × AI × Int32 × AI)) (RM : ModV) (p0 : Int32) (p1 : Int32) (p2 : Int32) : Option (AI × AI × Int32 × AI) := ht_gd (ht_ix (0 : Int32) 57) (if p0 = (RM.s (0 : Int32).toNatClampNeg) then (ht_bn (fX9_soundBy RM p2) (fun o_21 => ht_nm o_21.1 (fun x4_22 => ht_lp6 (fX9_ways_b20 slf RM) FU x4_22 (0 : Int32) o_21.2.1 o_21.2.2 RM.bestSound RM.bestWay))) else (ht_bn (slf RM (p0 + (1 : Int32)) p1 p2) (fun o_19 => ht_nm (p0 + (1 : Int32)) (fun x4_20 => ht_lp8 (fX9_ways_b88 slf RM) FU p0 p1 p2 x4_20 o_19.1 o_19.2.1 o_19.2.2.1 o_19.2.2.2))))
set_option maxHeartbeats 1000000 in
set_option maxRecDepth 100000 in
theorem ctX9_ways (l : Launch) (D : va_G) (K : Nat → ClassId) (jM : Nat) (aM : Nat → Nat) : ∀ (d : Nat) (RM : ModV) (p0 : Int32) (p1 : Int32) (p2 : Int32) (o : (AI × AI × Int32 × AI)) (hf : ht_lp4 fX9_ways d RM p0 p1 p2 = some o) (sz : Nat), Met l yX9_ways wsX9_ways (rmX9_ways d) (ht_Pre D K [.ref jM, .int p0, .int p1, .int p2] (wMo K jM aM RM.s RM.held RM.aside RM.before RM.isHeld RM.tape RM.taped RM.token RM.frm RM.to RM.value RM.isWrong RM.unpaired RM.bestSound RM.bestWay RM.rows RM.rowN RM.sortOf RM.sizeOf RM.numbers RM.holdsWhat RM.holdsWhich RM.holdsMany RM.bodies RM.ran RM.actKind RM.actN RM.actA RM.isParted) sz) (ht_Qv D K (wMo K jM aM o.1 RM.held o.2.1 RM.before RM.isHeld RM.tape RM.taped RM.token RM.frm RM.to RM.value RM.isWrong RM.unpaired o.2.2.1 o.2.2.2 RM.rows RM.rowN RM.sortOf RM.sizeOf RM.numbers RM.holdsWhat RM.holdsWhich RM.holdsMany RM.bodies RM.ran RM.actKind RM.actN RM.actA RM.isParted) (va_A (wMo K jM aM RM.s RM.held RM.aside RM.before RM.isHeld RM.tape RM.taped RM.token RM.frm RM.to RM.value RM.isWrong RM.unpaired RM.bestSound RM.bestWay RM.rows RM.rowN RM.sortOf RM.sizeOf RM.numbers RM.holdsWhat RM.holdsWhich RM.holdsMany RM.bodies RM.ran RM.actKind RM.actN RM.actA RM.isParted) sz)) 0 0 (va_A (wMo K jM aM RM.s RM.held RM.aside RM.before RM.isHeld RM.tape RM.taped RM.token RM.frm RM.to RM.value RM.isWrong RM.unpaired RM.bestSound RM.bestWay RM.rows RM.rowN RM.sortOf RM.sizeOf RM.numbers RM.holdsWhat RM.holdsWhich RM.holdsMany RM.bodies RM.ran RM.actKind RM.actN RM.actA RM.isParted) sz) := by
  intro d
  induction d with
  | zero =>
    intro RM p0 p1 p2 o hf sz
    cases (show (none : Option (AI × AI × Int32 × AI)) = some o from hf)
  | succ d ih =>
  intro RM p0 p1 p2 o hf sz
  obtain ⟨slf, hslf⟩ : ∃ z, z = ht_lp4 fX9_ways d := ⟨_, rfl⟩
  replace hf : fX9_ways slf RM p0 p1 p2 = some o := by rw [hslf]; exact hf
  rw [← hslf] at ih
  refine ht_enter (Qf := ht_Qv D K (wMo K jM aM o.1 RM.held o.2.1 RM.before RM.isHeld RM.tape RM.taped RM.token RM.frm RM.to RM.value RM.isWrong RM.unpaired o.2.2.1 o.2.2.2 RM.rows RM.rowN RM.sortOf RM.sizeOf RM.numbers RM.holdsWhat RM.holdsWhich RM.holdsMany RM.bodies RM.ran RM.actKind RM.actN RM.actA RM.isParted)) (cc := cX9_ways) (maxL := 6) (rt := none) (by decide) rfl (Nat.le_of_ble_eq_true rfl) ?_ sz
  intro p e s m below meth c A Q H locs ls hQ hx hb hr hlk hmn hml hown hts hA hK hP hD hS hl
  have hown : s.vm.findClass RX9 = some m.cls := hown
  have hF : CallFix p m c cX9_ways 6 s ([.ref jM, .int p0, .int p1, .int p2] : List Value).toArray wsX9_ways RX9 := ⟨hx, hb, hml, hown, hts⟩
  have hl : lv_has ls 6 [(0, .ref jM), (1, .int p0), (2, .int p1), (3, .int p2)] := hl
  have iw9 : ∀ w ∈ u_ws RX9 TX9 29, w ∈ wsX9_ways := by decide +kernel
  have kw1 := hts (.fieldLink RX9 7 "HeldTonguesModel" "s" "[I") (by decide +kernel)
  have kw2 := hts (.fieldLink RX9 238 "HeldTonguesModel" "bestSound" "I") (by decide +kernel)
  have kw3 := hts (.fieldLink RX9 28 "HeldTonguesModel" "bestWay" "[I") (by decide +kernel)
  have b142 : ∀ (k88 : Int32 → Int32 → Int32 → Int32 → AI → AI → Int32 → AI → Option (AI × AI × Int32 × AI)) (hk88 : ∀ (x1 : Int32) (x2 : Int32) (x3 : Int32) (x4 : Int32) (vM_s : AI) (vM_aside : AI) (vM_bestSound : Int32) (vM_bestWay : AI) (H : Heap) (locs : List Loc) (ls : Array Slot), k88 x1 x2 x3 x4 vM_s vM_aside vM_bestSound vM_bestWay = some o → va_P D vwCl (wMo K jM aM vM_s RM.held vM_aside RM.before RM.isHeld RM.tape RM.taped RM.token RM.frm RM.to RM.value RM.isWrong RM.unpaired vM_bestSound vM_bestWay RM.rows RM.rowN RM.sortOf RM.sizeOf RM.numbers RM.holdsWhat RM.holdsWhich RM.holdsMany RM.bodies RM.ran RM.actKind RM.actN RM.actA RM.isParted) H → va_D A (wMo K jM aM vM_s RM.held vM_aside RM.before RM.isHeld RM.tape RM.taped RM.token RM.frm RM.to RM.value RM.isWrong RM.unpaired vM_bestSound vM_bestWay RM.rows RM.rowN RM.sortOf RM.sizeOf RM.numbers RM.holdsWhat RM.holdsWhich RM.holdsMany RM.bodies RM.ran RM.actKind RM.actN RM.actA RM.isParted) → va_S A s.heap H locs → lv_has ls 6 [(0, .ref jM), (1, .int x1), (2, .int x2), (3, .int x3), (4, .int x4)] → W p l e (headSpec wsX9_ways (rmX9_ways (d + 1))).room s m ([.ref jM, .int p0, .int p1, .int p2] : List Value).toArray below meth c H locs 0 0 Q (F0 m 88 ls [])) (x1 : Int32) (x2 : Int32) (x3 : Int32) (x4 : Int32) (vM_s : AI) (vM_aside : AI) (vM_bestSound : Int32) (vM_bestWay : AI) (H : Heap) (locs : List Loc) (ls : Array Slot), fX9_ways_b142 slf RM k88 x1 x2 x3 x4 vM_s vM_aside vM_bestSound vM_bestWay = some o → va_P D vwCl (wMo K jM aM vM_s RM.held vM_aside RM.before RM.isHeld RM.tape RM.taped RM.token RM.frm RM.to RM.value RM.isWrong RM.unpaired vM_bestSound vM_bestWay RM.rows RM.rowN RM.sortOf RM.sizeOf RM.numbers RM.holdsWhat RM.holdsWhich RM.holdsMany RM.bodies RM.ran RM.actKind RM.actN RM.actA RM.isParted) H → va_D A (wMo K jM aM vM_s RM.held vM_aside RM.before RM.isHeld RM.tape RM.taped RM.token RM.frm RM.to RM.value RM.isWrong RM.unpaired vM_bestSound vM_bestWay RM.rows RM.rowN RM.sortOf RM.sizeOf RM.numbers RM.holdsWhat RM.holdsWhich RM.holdsMany RM.bodies RM.ran RM.actKind RM.actN RM.actA RM.isParted) → va_S A s.heap H locs → lv_has ls 6 [(0, .ref jM), (1, .int x1), (2, .int x2), (3, .int x3), (4, .int x4)] → W p l e (headSpec wsX9_ways (rmX9_ways (d + 1))).room s m ([.ref jM, .int p0, .int p1, .int p2] : List Value).toArray below meth c H locs 0 0 Q (F0 m 142 ls []) := by
    intro k88 hk88 x1 x2 x3 x4 vM_s vM_aside vM_bestSound vM_bestWay H locs ls hf hP hD hS hl
    delta fX9_ways_b142 at hf
    obtain ⟨x4_1, ex4_1, hf⟩ := ht_nm_ob hf
    refine lv_iinc (v := x4_1) (lv' := [(4, .int x4_1), (0, .ref jM), (1, .int x1), (2, .int x2), (3, .int x3)]) hx hb dX9_ways_142 hl (k := 4) rfl (by rw [ex4_1]; rfl) (by decide) rfl (fun ls hl => ?_)
    refine lv_goto (tgt := 88) hx hb dX9_ways_145 (by decide) ?_
    exact hk88 x1 x2 x3 x4_1 vM_s vM_aside vM_bestSound vM_bestWay _ _ _ hf hP hD hS (lv_sub hl [1, 2, 3, 4, 0] rfl)
  have b88 : ∀ (n : Nat) (x1 : Int32) (x2 : Int32) (x3 : Int32) (x4 : Int32) (vM_s : AI) (vM_aside : AI) (vM_bestSound : Int32) (vM_bestWay : AI) (H : Heap) (locs : List Loc) (ls : Array Slot), ht_lp8 (fX9_ways_b88 slf RM) n x1 x2 x3 x4 vM_s vM_aside vM_bestSound vM_bestWay = some o → va_P D vwCl (wMo K jM aM vM_s RM.held vM_aside RM.before RM.isHeld RM.tape RM.taped RM.token RM.frm RM.to RM.value RM.isWrong RM.unpaired vM_bestSound vM_bestWay RM.rows RM.rowN RM.sortOf RM.sizeOf RM.numbers RM.holdsWhat RM.holdsWhich RM.holdsMany RM.bodies RM.ran RM.actKind RM.actN RM.actA RM.isParted) H → va_D A (wMo K jM aM vM_s RM.held vM_aside RM.before RM.isHeld RM.tape RM.taped RM.token RM.frm RM.to RM.value RM.isWrong RM.unpaired vM_bestSound vM_bestWay RM.rows RM.rowN RM.sortOf RM.sizeOf RM.numbers RM.holdsWhat RM.holdsWhich RM.holdsMany RM.bodies RM.ran RM.actKind RM.actN RM.actA RM.isParted) → va_S A s.heap H locs → lv_has ls 6 [(0, .ref jM), (1, .int x1), (2, .int x2), (3, .int x3), (4, .int x4)] → W p l e (headSpec wsX9_ways (rmX9_ways (d + 1))).room s m ([.ref jM, .int p0, .int p1, .int p2] : List Value).toArray below meth c H locs 0 0 Q (F0 m 88 ls []) := by
    intro n
    induction n with
    | zero =>
      intro x1 x2 x3 x4 vM_s vM_aside vM_bestSound vM_bestWay H locs ls hf hP hD hS hl
      cases (show (none : Option (AI × AI × Int32 × AI)) = some o from hf)
    | succ n hk88 =>
      intro x1 x2 x3 x4 vM_s vM_aside vM_bestSound vM_bestWay H locs ls hf hP hD hS hl
      replace hf : fX9_ways_b88 slf RM (ht_lp8 (fX9_ways_b88 slf RM) n) x1 x2 x3 x4 vM_s vM_aside vM_bestSound vM_bestWay = some o := hf
      delta fX9_ways_b88 at hf
      refine lv_iload hx hb dX9_ways_88 (lv_at hl 4 rfl) ?_
      refine lv_aload_n hx hb dX9_ways_90 rfl (lv_at hl 0 rfl) ?_
      refine va_get (D := D) (ci := 9) (v := .ref (aM 0)) (C := RX9) (T := TX9) (N := 29) hx hb hts iw9 hown hK hP 0 rfl rfl 0 (by decide) kw1 (fun _ h9 => h9) rfl dX9_ways_91 ?_
      refine lv_iconst (v := 0) hx hb dX9_ways_94 (by decide) ?_
      obtain ⟨g_2, hf⟩ := ht_gd_ob hf
      refine va_iald hx hb hK hP 1 1 rfl rfl (ht_ix_in g_2) dX9_ways_95 ?_
      refine lv_icmp_ge (tgt := 148) hx hb dX9_ways_96 (by decide) (fun c_3 => ?_) (fun c_3 => ?_)
      · replace hf := ht_t c_3 hf
        have ho := Option.some.inj hf
        subst ho; subst hQ
        exact ht_vret hx hb hr hlk hK hP hD hS dX9_ways_148
      · replace hf := ht_f c_3 hf
        refine lv_iload_n hx hb dX9_ways_99 rfl (lv_at hl 2 rfl) ?_
        refine lv_iload_n hx hb dX9_ways_100 rfl (lv_at hl 1 rfl) ?_
        refine lv_ishr hx hb dX9_ways_101 ?_
        refine lv_iconst (v := 1) hx hb dX9_ways_102 (by decide) ?_
        refine lv_iand hx hb dX9_ways_103 ?_
        refine lv_if_ne (tgt := 148) hx hb dX9_ways_104 (by decide) (fun c_4 => ?_) (fun c_4 => ?_)
        · replace hf := ht_f c_4 hf
          have ho := Option.some.inj hf
          subst ho; subst hQ
          exact ht_vret hx hb hr hlk hK hP hD hS dX9_ways_148
        · replace hf := ht_t c_4 hf
          refine lv_iload_n hx hb dX9_ways_107 rfl (lv_at hl 2 rfl) ?_
          refine lv_iload hx hb dX9_ways_108 (lv_at hl 4 rfl) ?_
          refine lv_ishr hx hb dX9_ways_110 ?_
          refine lv_iconst (v := 1) hx hb dX9_ways_111 (by decide) ?_
          refine lv_iand hx hb dX9_ways_112 ?_
          refine lv_if_ne (tgt := 142) hx hb dX9_ways_113 (by decide) (fun c_5 => ?_) (fun c_5 => ?_)
          · replace hf := ht_f c_5 hf
            exact b142 _ hk88 x1 x2 x3 x4 vM_s vM_aside vM_bestSound vM_bestWay _ _ _ hf hP hD hS hl
          · replace hf := ht_t c_5 hf
            refine lv_aload_n hx hb dX9_ways_116 rfl (lv_at hl 0 rfl) ?_
            refine lv_iload_n hx hb dX9_ways_117 rfl (lv_at hl 1 rfl) ?_
            refine lv_iload hx hb dX9_ways_118 (lv_at hl 4 rfl) ?_
            obtain ⟨o_6, ho_6, hf⟩ := ht_bn_ob hf
            refine ht_callVv (rest := []) (As := [.int x1, .int x4]) (wc := (wMo K jM aM vM_s RM.held vM_aside RM.before RM.isHeld RM.tape RM.taped RM.token RM.frm RM.to RM.value RM.isWrong RM.unpaired vM_bestSound vM_bestWay RM.rows RM.rowN RM.sortOf RM.sizeOf RM.numbers RM.holdsWhat RM.holdsWhich RM.holdsMany RM.bodies RM.ran RM.actKind RM.actN RM.actA RM.isParted)) (wr := []) (w1 := (wMo K jM aM o_6 RM.held vM_aside RM.before RM.isHeld RM.tape RM.taped RM.token RM.frm RM.to RM.value RM.isWrong RM.unpaired vM_bestSound vM_bestWay RM.rows RM.rowN RM.sortOf RM.sizeOf RM.numbers RM.holdsWhat RM.holdsWhich RM.holdsMany RM.bodies RM.ran RM.actKind RM.actN RM.actA RM.isParted)) (w2 := (wMo K jM aM o_6 RM.held vM_aside RM.before RM.isHeld RM.tape RM.taped RM.token RM.frm RM.to RM.value RM.isWrong RM.unpaired vM_bestSound vM_bestWay RM.rows RM.rowN RM.sortOf RM.sizeOf RM.numbers RM.holdsWhat RM.holdsWhich RM.holdsMany RM.bodies RM.ran RM.actKind RM.actN RM.actA RM.isParted)) hF (ctX9_pairs l D K jM aM (vM_s, RM.held, vM_aside, RM.before, RM.isHeld, RM.tape, RM.taped, RM.token, RM.frm, RM.to, RM.value, RM.isWrong, RM.unpaired, vM_bestSound, vM_bestWay, RM.rows, RM.rowN, RM.sortOf, RM.sizeOf, RM.numbers, RM.holdsWhat, RM.holdsWhich, RM.holdsMany, RM.bodies, RM.ran, RM.actKind, RM.actN, RM.actA, RM.isParted) x1 x4 o_6 ho_6 H.size) (cwV 2 hts gX9_ways_X9_pairs rfl rfl rfl hdX9_pairs ⟨(show 2 + 1 ≤ 100 + (d + 1) by omega), (show 8 + (3 + 11) + (44) ≤ 4000 + (d + 1) * 25 by omega)⟩) hK hP hD hS hA [0, 1, 2, 3, 4, 5, 6, 7, 8, 9, 10, 11, 12, 13, 14, 15] [] rfl rfl (by decide) (by decide) (by decide) [0, 1, 2, 3, 4, 5, 6, 7, 8, 9, 10, 11, 12, 13, 14, 15] rfl (by decide) (va_recv hK hP (ci := 9) (q0 := 0) rfl rfl) rfl hl.1 rfl (Nat.le_of_ble_eq_true rfl) dX9_ways_120 ⟨Nat.zero_le _, Nat.zero_le _⟩ (fun H locs hP hD hS => ?_)
            refine lv_aload_n hx hb dX9_ways_123 rfl (lv_at hl 0 rfl) ?_
            refine lv_iload_n hx hb dX9_ways_124 rfl (lv_at hl 1 rfl) ?_
            refine lv_iconst (v := 1) hx hb dX9_ways_125 (by decide) ?_
            refine lv_iadd hx hb dX9_ways_126 ?_
            refine lv_iload_n hx hb dX9_ways_127 rfl (lv_at hl 2 rfl) ?_
            refine lv_iconst (v := 1) hx hb dX9_ways_128 (by decide) ?_
            refine lv_iload hx hb dX9_ways_129 (lv_at hl 4 rfl) ?_
            refine lv_ishl hx hb dX9_ways_131 ?_
            refine lv_ior hx hb dX9_ways_132 ?_
            refine lv_iload_n hx hb dX9_ways_133 rfl (lv_at hl 3 rfl) ?_
            obtain ⟨o_7, ho_7, hf⟩ := ht_bn_ob hf
            refine ht_callVv (rest := []) (As := [.int (x1 + (1 : Int32)), .int (x2 ||| ((1 : Int32) <<< (x4 &&& 31))), .int x3]) (wc := (wMo K jM aM o_6 RM.held vM_aside RM.before RM.isHeld RM.tape RM.taped RM.token RM.frm RM.to RM.value RM.isWrong RM.unpaired vM_bestSound vM_bestWay RM.rows RM.rowN RM.sortOf RM.sizeOf RM.numbers RM.holdsWhat RM.holdsWhich RM.holdsMany RM.bodies RM.ran RM.actKind RM.actN RM.actA RM.isParted)) (wr := []) (w1 := (wMo K jM aM o_7.1 RM.held o_7.2.1 RM.before RM.isHeld RM.tape RM.taped RM.token RM.frm RM.to RM.value RM.isWrong RM.unpaired o_7.2.2.1 o_7.2.2.2 RM.rows RM.rowN RM.sortOf RM.sizeOf RM.numbers RM.holdsWhat RM.holdsWhich RM.holdsMany RM.bodies RM.ran RM.actKind RM.actN RM.actA RM.isParted)) (w2 := (wMo K jM aM o_7.1 RM.held o_7.2.1 RM.before RM.isHeld RM.tape RM.taped RM.token RM.frm RM.to RM.value RM.isWrong RM.unpaired o_7.2.2.1 o_7.2.2.2 RM.rows RM.rowN RM.sortOf RM.sizeOf RM.numbers RM.holdsWhat RM.holdsWhich RM.holdsMany RM.bodies RM.ran RM.actKind RM.actN RM.actA RM.isParted)) hF (ih (o_6, RM.held, vM_aside, RM.before, RM.isHeld, RM.tape, RM.taped, RM.token, RM.frm, RM.to, RM.value, RM.isWrong, RM.unpaired, vM_bestSound, vM_bestWay, RM.rows, RM.rowN, RM.sortOf, RM.sizeOf, RM.numbers, RM.holdsWhat, RM.holdsWhich, RM.holdsMany, RM.bodies, RM.ran, RM.actKind, RM.actN, RM.actA, RM.isParted) (x1 + (1 : Int32)) (x2 ||| ((1 : Int32) <<< (x4 &&& 31))) x3 o_7 ho_7 H.size) (cwV 3 hts gX9_ways_X9_ways rfl rfl rfl hdX9_ways ⟨(show 100 + d + 1 ≤ 100 + (d + 1) by omega), (show 8 + (6 + 11) + (4000 + d * 25) ≤ 4000 + (d + 1) * 25 by omega)⟩) hK hP hD hS hA [0, 1, 2, 3, 4, 5, 6, 7, 8, 9, 10, 11, 12, 13, 14, 15] [] rfl rfl (by decide) (by decide) (by decide) [0, 1, 2, 3, 4, 5, 6, 7, 8, 9, 10, 11, 12, 13, 14, 15] rfl (by decide) (va_recv hK hP (ci := 9) (q0 := 0) rfl rfl) rfl hl.1 rfl (Nat.le_of_ble_eq_true rfl) dX9_ways_134 ⟨Nat.zero_le _, Nat.zero_le _⟩ (fun H locs hP hD hS => ?_)
            refine lv_aload_n hx hb dX9_ways_137 rfl (lv_at hl 0 rfl) ?_
            refine lv_iload_n hx hb dX9_ways_138 rfl (lv_at hl 1 rfl) ?_
            obtain ⟨o_8, ho_8, hf⟩ := ht_bn_ob hf
            refine ht_callVv (rest := []) (As := [.int x1]) (wc := (wMo K jM aM o_7.1 RM.held o_7.2.1 RM.before RM.isHeld RM.tape RM.taped RM.token RM.frm RM.to RM.value RM.isWrong RM.unpaired o_7.2.2.1 o_7.2.2.2 RM.rows RM.rowN RM.sortOf RM.sizeOf RM.numbers RM.holdsWhat RM.holdsWhich RM.holdsMany RM.bodies RM.ran RM.actKind RM.actN RM.actA RM.isParted)) (wr := []) (w1 := (wMo K jM aM o_8 RM.held o_7.2.1 RM.before RM.isHeld RM.tape RM.taped RM.token RM.frm RM.to RM.value RM.isWrong RM.unpaired o_7.2.2.1 o_7.2.2.2 RM.rows RM.rowN RM.sortOf RM.sizeOf RM.numbers RM.holdsWhat RM.holdsWhich RM.holdsMany RM.bodies RM.ran RM.actKind RM.actN RM.actA RM.isParted)) (w2 := (wMo K jM aM o_8 RM.held o_7.2.1 RM.before RM.isHeld RM.tape RM.taped RM.token RM.frm RM.to RM.value RM.isWrong RM.unpaired o_7.2.2.1 o_7.2.2.2 RM.rows RM.rowN RM.sortOf RM.sizeOf RM.numbers RM.holdsWhat RM.holdsWhich RM.holdsMany RM.bodies RM.ran RM.actKind RM.actN RM.actA RM.isParted)) hF (ctX9_leaves l D K jM aM (o_7.1, RM.held, o_7.2.1, RM.before, RM.isHeld, RM.tape, RM.taped, RM.token, RM.frm, RM.to, RM.value, RM.isWrong, RM.unpaired, o_7.2.2.1, o_7.2.2.2, RM.rows, RM.rowN, RM.sortOf, RM.sizeOf, RM.numbers, RM.holdsWhat, RM.holdsWhich, RM.holdsMany, RM.bodies, RM.ran, RM.actKind, RM.actN, RM.actA, RM.isParted) x1 o_8 ho_8 H.size) (cwV 1 hts gX9_ways_X9_leaves rfl rfl rfl hdX9_leaves ⟨(show 1 + 1 ≤ 100 + (d + 1) by omega), (show 8 + (3 + 11) + (22) ≤ 4000 + (d + 1) * 25 by omega)⟩) hK hP hD hS hA [0, 1, 2, 3, 4, 5, 6, 7, 8, 9, 10, 11, 12, 13, 14, 15] [] rfl rfl (by decide) (by decide) (by decide) [0, 1, 2, 3, 4, 5, 6, 7, 8, 9, 10, 11, 12, 13, 14, 15] rfl (by decide) (va_recv hK hP (ci := 9) (q0 := 0) rfl rfl) rfl hl.1 rfl (Nat.le_of_ble_eq_true rfl) dX9_ways_139 ⟨Nat.zero_le _, Nat.zero_le _⟩ (fun H locs hP hD hS => ?_)
            exact b142 _ hk88 x1 x2 x3 x4 o_8 o_7.2.1 o_7.2.2.1 o_7.2.2.2 _ _ _ hf hP hD hS hl
  have b60 : ∀ (x4 : Int32) (vM_s : AI) (vM_aside : AI) (vM_bestSound : Int32) (vM_bestWay : AI) (H : Heap) (locs : List Loc) (ls : Array Slot), fX9_ways_b60 slf RM x4 vM_s vM_aside vM_bestSound vM_bestWay = some o → va_P D vwCl (wMo K jM aM vM_s RM.held vM_aside RM.before RM.isHeld RM.tape RM.taped RM.token RM.frm RM.to RM.value RM.isWrong RM.unpaired vM_bestSound vM_bestWay RM.rows RM.rowN RM.sortOf RM.sizeOf RM.numbers RM.holdsWhat RM.holdsWhich RM.holdsMany RM.bodies RM.ran RM.actKind RM.actN RM.actA RM.isParted) H → va_D A (wMo K jM aM vM_s RM.held vM_aside RM.before RM.isHeld RM.tape RM.taped RM.token RM.frm RM.to RM.value RM.isWrong RM.unpaired vM_bestSound vM_bestWay RM.rows RM.rowN RM.sortOf RM.sizeOf RM.numbers RM.holdsWhat RM.holdsWhich RM.holdsMany RM.bodies RM.ran RM.actKind RM.actN RM.actA RM.isParted) → va_S A s.heap H locs → lv_has ls 6 [(0, .ref jM), (4, .int x4)] → W p l e (headSpec wsX9_ways (rmX9_ways (d + 1))).room s m ([.ref jM, .int p0, .int p1, .int p2] : List Value).toArray below meth c H locs 0 0 Q (F0 m 60 ls []) := by
    intro x4 vM_s vM_aside vM_bestSound vM_bestWay H locs ls hf hP hD hS hl
    delta fX9_ways_b60 at hf
    refine lv_aload_n hx hb dX9_ways_60 rfl (lv_at hl 0 rfl) ?_
    refine lv_aload_n hx hb dX9_ways_61 rfl (lv_at hl 0 rfl) ?_
    refine va_get (D := D) (ci := 9) (v := .int vM_bestSound) (C := RX9) (T := TX9) (N := 29) hx hb hts iw9 hown hK hP 0 rfl rfl 13 (by decide) kw2 (fun _ h9 => h9) rfl dX9_ways_62 ?_
    refine lv_iload hx hb dX9_ways_65 (lv_at hl 1 rfl) ?_
    obtain ⟨o_9, ho_9, hf⟩ := ht_bn_ob hf
    refine ht_callSi (r := o_9) (rest := [.ref jM]) (As := [.int vM_bestSound, .int x4]) (wc := []) (wr := (wMo K jM aM vM_s RM.held vM_aside RM.before RM.isHeld RM.tape RM.taped RM.token RM.frm RM.to RM.value RM.isWrong RM.unpaired vM_bestSound vM_bestWay RM.rows RM.rowN RM.sortOf RM.sizeOf RM.numbers RM.holdsWhat RM.holdsWhich RM.holdsMany RM.bodies RM.ran RM.actKind RM.actN RM.actA RM.isParted)) (w1 := []) (w2 := (wMo K jM aM vM_s RM.held vM_aside RM.before RM.isHeld RM.tape RM.taped RM.token RM.frm RM.to RM.value RM.isWrong RM.unpaired vM_bestSound vM_bestWay RM.rows RM.rowN RM.sortOf RM.sizeOf RM.numbers RM.holdsWhat RM.holdsWhich RM.holdsMany RM.bodies RM.ran RM.actKind RM.actN RM.actA RM.isParted)) hF (ctX9_greatest l D K vM_bestSound x4 o_9 ho_9 H.size) (va_cwS 2 hts gX9_ways_X9_greatest rfl rfl rfl hdX9_greatest ⟨(show 0 + 1 ≤ 100 + (d + 1) by omega), (show 8 + (2 + 11) + (0) ≤ 4000 + (d + 1) * 25 by omega)⟩) hK hP hD hS hA [] [0, 1, 2, 3, 4, 5, 6, 7, 8, 9, 10, 11, 12, 13, 14, 15] rfl rfl (by decide) (by decide) (by decide) [0, 1, 2, 3, 4, 5, 6, 7, 8, 9, 10, 11, 12, 13, 14, 15] rfl (by decide) rfl hl.1 rfl (Nat.le_of_ble_eq_true rfl) dX9_ways_67 ⟨Nat.zero_le _, Nat.zero_le _⟩ (fun H locs hP hD hS => ?_)
    refine ht_put (ci := 9) (v := .int o_9) (ty := .int) (C := RX9) (T := TX9) (N := 29) (w2 := (wMo K jM aM vM_s RM.held vM_aside RM.before RM.isHeld RM.tape RM.taped RM.token RM.frm RM.to RM.value RM.isWrong RM.unpaired o_9 vM_bestWay RM.rows RM.rowN RM.sortOf RM.sizeOf RM.numbers RM.holdsWhat RM.holdsWhich RM.holdsMany RM.bodies RM.ran RM.actKind RM.actN RM.actA RM.isParted)) hx hb hts iw9 tyX9 tyX9_ok nmX9 hown hK hP hD hS 0 rfl rfl 13 (by decide) kw2 (fun _ h9 => h9) rfl (by decide +kernel) rfl rfl (Nat.le_of_ble_eq_true rfl) dX9_ways_70 rfl (fun H locs hP hD hS => ?_)
    have ho := Option.some.inj hf
    subst ho; subst hQ
    exact ht_vret hx hb hr hlk hK hP hD hS dX9_ways_73
  have b20 : ∀ (n : Nat) (x4 : Int32) (x5 : Int32) (vM_s : AI) (vM_aside : AI) (vM_bestSound : Int32) (vM_bestWay : AI) (H : Heap) (locs : List Loc) (ls : Array Slot), ht_lp6 (fX9_ways_b20 slf RM) n x4 x5 vM_s vM_aside vM_bestSound vM_bestWay = some o → va_P D vwCl (wMo K jM aM vM_s RM.held vM_aside RM.before RM.isHeld RM.tape RM.taped RM.token RM.frm RM.to RM.value RM.isWrong RM.unpaired vM_bestSound vM_bestWay RM.rows RM.rowN RM.sortOf RM.sizeOf RM.numbers RM.holdsWhat RM.holdsWhich RM.holdsMany RM.bodies RM.ran RM.actKind RM.actN RM.actA RM.isParted) H → va_D A (wMo K jM aM vM_s RM.held vM_aside RM.before RM.isHeld RM.tape RM.taped RM.token RM.frm RM.to RM.value RM.isWrong RM.unpaired vM_bestSound vM_bestWay RM.rows RM.rowN RM.sortOf RM.sizeOf RM.numbers RM.holdsWhat RM.holdsWhich RM.holdsMany RM.bodies RM.ran RM.actKind RM.actN RM.actA RM.isParted) → va_S A s.heap H locs → lv_has ls 6 [(0, .ref jM), (4, .int x4), (5, .int x5)] → W p l e (headSpec wsX9_ways (rmX9_ways (d + 1))).room s m ([.ref jM, .int p0, .int p1, .int p2] : List Value).toArray below meth c H locs 0 0 Q (F0 m 20 ls []) := by
    intro n
    induction n with
    | zero =>
      intro x4 x5 vM_s vM_aside vM_bestSound vM_bestWay H locs ls hf hP hD hS hl
      cases (show (none : Option (AI × AI × Int32 × AI)) = some o from hf)
    | succ n hk20 =>
      intro x4 x5 vM_s vM_aside vM_bestSound vM_bestWay H locs ls hf hP hD hS hl
      replace hf : fX9_ways_b20 slf RM (ht_lp6 (fX9_ways_b20 slf RM) n) x4 x5 vM_s vM_aside vM_bestSound vM_bestWay = some o := hf
      delta fX9_ways_b20 at hf
      refine lv_iload hx hb dX9_ways_20 (lv_at hl 2 rfl) ?_
      refine lv_aload_n hx hb dX9_ways_22 rfl (lv_at hl 0 rfl) ?_
      refine va_get (D := D) (ci := 9) (v := .ref (aM 0)) (C := RX9) (T := TX9) (N := 29) hx hb hts iw9 hown hK hP 0 rfl rfl 0 (by decide) kw1 (fun _ h9 => h9) rfl dX9_ways_23 ?_
      refine lv_iconst (v := 0) hx hb dX9_ways_26 (by decide) ?_
      obtain ⟨g_10, hf⟩ := ht_gd_ob hf
      refine va_iald hx hb hK hP 1 1 rfl rfl (ht_ix_in g_10) dX9_ways_27 ?_
      refine lv_icmp_ge (tgt := 60) hx hb dX9_ways_28 (by decide) (fun c_11 => ?_) (fun c_11 => ?_)
      · replace hf := ht_t c_11 hf
        exact b60  x4 vM_s vM_aside vM_bestSound vM_bestWay _ _ _ hf hP hD hS (lv_sub hl [0, 1] rfl)
      · replace hf := ht_f c_11 hf
        refine lv_iload hx hb dX9_ways_31 (lv_at hl 1 rfl) ?_
        refine lv_aload_n hx hb dX9_ways_33 rfl (lv_at hl 0 rfl) ?_
        refine va_get (D := D) (ci := 9) (v := .int vM_bestSound) (C := RX9) (T := TX9) (N := 29) hx hb hts iw9 hown hK hP 0 rfl rfl 13 (by decide) kw2 (fun _ h9 => h9) rfl dX9_ways_34 ?_
        refine lv_icmp_le (tgt := 60) hx hb dX9_ways_37 (by decide) (fun c_12 => ?_) (fun c_12 => ?_)
        · replace hf := ht_t c_12 hf
          exact b60  x4 vM_s vM_aside vM_bestSound vM_bestWay _ _ _ hf hP hD hS (lv_sub hl [0, 1] rfl)
        · replace hf := ht_f c_12 hf
          refine lv_aload_n hx hb dX9_ways_40 rfl (lv_at hl 0 rfl) ?_
          refine va_get (D := D) (ci := 9) (v := .ref (aM 6)) (C := RX9) (T := TX9) (N := 29) hx hb hts iw9 hown hK hP 0 rfl rfl 14 (by decide) kw3 (fun _ h9 => h9) rfl dX9_ways_41 ?_
          refine lv_iload hx hb dX9_ways_44 (lv_at hl 2 rfl) ?_
          refine lv_aload_n hx hb dX9_ways_46 rfl (lv_at hl 0 rfl) ?_
          refine lv_iload hx hb dX9_ways_47 (lv_at hl 2 rfl) ?_
          refine lv_iconst (v := 4) hx hb dX9_ways_49 (by decide) ?_
          obtain ⟨o_13, ho_13, hf⟩ := ht_bn_ob hf
          refine ht_callVi (r := o_13) (rest := [.int x5, .ref (aM 6)]) (As := [.int x5, .int (4 : Int32)]) (wc := (wMo K jM aM vM_s RM.held vM_aside RM.before RM.isHeld RM.tape RM.taped RM.token RM.frm RM.to RM.value RM.isWrong RM.unpaired vM_bestSound vM_bestWay RM.rows RM.rowN RM.sortOf RM.sizeOf RM.numbers RM.holdsWhat RM.holdsWhich RM.holdsMany RM.bodies RM.ran RM.actKind RM.actN RM.actA RM.isParted)) (wr := []) (w1 := (wMo K jM aM vM_s RM.held vM_aside RM.before RM.isHeld RM.tape RM.taped RM.token RM.frm RM.to RM.value RM.isWrong RM.unpaired vM_bestSound vM_bestWay RM.rows RM.rowN RM.sortOf RM.sizeOf RM.numbers RM.holdsWhat RM.holdsWhich RM.holdsMany RM.bodies RM.ran RM.actKind RM.actN RM.actA RM.isParted)) (w2 := (wMo K jM aM vM_s RM.held vM_aside RM.before RM.isHeld RM.tape RM.taped RM.token RM.frm RM.to RM.value RM.isWrong RM.unpaired vM_bestSound vM_bestWay RM.rows RM.rowN RM.sortOf RM.sizeOf RM.numbers RM.holdsWhat RM.holdsWhich RM.holdsMany RM.bodies RM.ran RM.actKind RM.actN RM.actA RM.isParted)) hF (ctX9_its l D K jM aM (vM_s, RM.held, vM_aside, RM.before, RM.isHeld, RM.tape, RM.taped, RM.token, RM.frm, RM.to, RM.value, RM.isWrong, RM.unpaired, vM_bestSound, vM_bestWay, RM.rows, RM.rowN, RM.sortOf, RM.sizeOf, RM.numbers, RM.holdsWhat, RM.holdsWhich, RM.holdsMany, RM.bodies, RM.ran, RM.actKind, RM.actN, RM.actA, RM.isParted) x5 (4 : Int32) o_13 ho_13 H.size) (cwV 2 hts gX9_ways_X9_its rfl rfl rfl hdX9_its ⟨(show 0 + 1 ≤ 100 + (d + 1) by omega), (show 8 + (3 + 11) + (0) ≤ 4000 + (d + 1) * 25 by omega)⟩) hK hP hD hS hA [0, 1, 2, 3, 4, 5, 6, 7, 8, 9, 10, 11, 12, 13, 14, 15] [] rfl rfl (by decide) (by decide) (by decide) [0, 1, 2, 3, 4, 5, 6, 7, 8, 9, 10, 11, 12, 13, 14, 15] rfl (by decide) (va_recv hK hP (ci := 9) (q0 := 0) rfl rfl) rfl hl.1 rfl (Nat.le_of_ble_eq_true rfl) dX9_ways_50 ⟨Nat.zero_le _, Nat.zero_le _⟩ (fun H locs hP hD hS => ?_)
          obtain ⟨g_14, hf⟩ := ht_gd_ob hf
          obtain ⟨vM_bestWay_15, evM_bestWay_15, hf⟩ := ht_nm_ob hf
          refine ht_iast (w2 := (wMo K jM aM vM_s RM.held vM_aside RM.before RM.isHeld RM.tape RM.taped RM.token RM.frm RM.to RM.value RM.isWrong RM.unpaired vM_bestSound vM_bestWay_15 RM.rows RM.rowN RM.sortOf RM.sizeOf RM.numbers RM.holdsWhat RM.holdsWhich RM.holdsMany RM.bodies RM.ran RM.actKind RM.actN RM.actA RM.isParted)) hx hb hK hP hD hS 7 1 rfl rfl g_14 dX9_ways_53 evM_bestWay_15 rfl (fun H locs hP hD hS => ?_)
          obtain ⟨x5_16, ex5_16, hf⟩ := ht_nm_ob hf
          refine lv_iinc (v := x5_16) (lv' := [(5, .int x5_16), (0, .ref jM), (4, .int x4)]) hx hb dX9_ways_54 hl (k := 2) rfl (by rw [ex5_16]; rfl) (by decide) rfl (fun ls hl => ?_)
          refine lv_goto (tgt := 20) hx hb dX9_ways_57 (by decide) ?_
          exact hk20 x4 x5_16 vM_s vM_aside vM_bestSound vM_bestWay_15 _ _ _ hf hP hD hS (lv_sub hl [1, 2, 0] rfl)
  delta fX9_ways at hf
  refine lv_iload_n hx hb dX9_ways_0 rfl (lv_at hl 1 rfl) ?_
  refine lv_aload_n hx hb dX9_ways_1 rfl (lv_at hl 0 rfl) ?_
  refine va_get (D := D) (ci := 9) (v := .ref (aM 0)) (C := RX9) (T := TX9) (N := 29) hx hb hts iw9 hown hK hP 0 rfl rfl 0 (by decide) kw1 (fun _ h9 => h9) rfl dX9_ways_2 ?_
  refine lv_iconst (v := 0) hx hb dX9_ways_5 (by decide) ?_
  obtain ⟨g_17, hf⟩ := ht_gd_ob hf
  refine va_iald hx hb hK hP 1 1 rfl rfl (ht_ix_in g_17) dX9_ways_6 ?_
  refine lv_icmp_ne (tgt := 74) hx hb dX9_ways_7 (by decide) (fun c_18 => ?_) (fun c_18 => ?_)
  · replace hf := ht_f c_18 hf
    refine lv_aload_n hx hb dX9_ways_74 rfl (lv_at hl 0 rfl) ?_
    refine lv_iload_n hx hb dX9_ways_75 rfl (lv_at hl 1 rfl) ?_
    refine lv_iconst (v := 1) hx hb dX9_ways_76 (by decide) ?_
    refine lv_iadd hx hb dX9_ways_77 ?_
    refine lv_iload_n hx hb dX9_ways_78 rfl (lv_at hl 2 rfl) ?_
    refine lv_iload_n hx hb dX9_ways_79 rfl (lv_at hl 3 rfl) ?_
    obtain ⟨o_19, ho_19, hf⟩ := ht_bn_ob hf
    refine ht_callVv (rest := []) (As := [.int (p0 + (1 : Int32)), .int p1, .int p2]) (wc := (wMo K jM aM RM.s RM.held RM.aside RM.before RM.isHeld RM.tape RM.taped RM.token RM.frm RM.to RM.value RM.isWrong RM.unpaired RM.bestSound RM.bestWay RM.rows RM.rowN RM.sortOf RM.sizeOf RM.numbers RM.holdsWhat RM.holdsWhich RM.holdsMany RM.bodies RM.ran RM.actKind RM.actN RM.actA RM.isParted)) (wr := []) (w1 := (wMo K jM aM o_19.1 RM.held o_19.2.1 RM.before RM.isHeld RM.tape RM.taped RM.token RM.frm RM.to RM.value RM.isWrong RM.unpaired o_19.2.2.1 o_19.2.2.2 RM.rows RM.rowN RM.sortOf RM.sizeOf RM.numbers RM.holdsWhat RM.holdsWhich RM.holdsMany RM.bodies RM.ran RM.actKind RM.actN RM.actA RM.isParted)) (w2 := (wMo K jM aM o_19.1 RM.held o_19.2.1 RM.before RM.isHeld RM.tape RM.taped RM.token RM.frm RM.to RM.value RM.isWrong RM.unpaired o_19.2.2.1 o_19.2.2.2 RM.rows RM.rowN RM.sortOf RM.sizeOf RM.numbers RM.holdsWhat RM.holdsWhich RM.holdsMany RM.bodies RM.ran RM.actKind RM.actN RM.actA RM.isParted)) hF (ih RM (p0 + (1 : Int32)) p1 p2 o_19 ho_19 H.size) (cwV 3 hts gX9_ways_X9_ways rfl rfl rfl hdX9_ways ⟨(show 100 + d + 1 ≤ 100 + (d + 1) by omega), (show 8 + (6 + 11) + (4000 + d * 25) ≤ 4000 + (d + 1) * 25 by omega)⟩) hK hP hD hS hA [0, 1, 2, 3, 4, 5, 6, 7, 8, 9, 10, 11, 12, 13, 14, 15] [] rfl rfl (by decide) (by decide) (by decide) [0, 1, 2, 3, 4, 5, 6, 7, 8, 9, 10, 11, 12, 13, 14, 15] rfl (by decide) (va_recv hK hP (ci := 9) (q0 := 0) rfl rfl) rfl hl.1 rfl (Nat.le_of_ble_eq_true rfl) dX9_ways_80 ⟨Nat.zero_le _, Nat.zero_le _⟩ (fun H locs hP hD hS => ?_)
    refine lv_iload_n hx hb dX9_ways_83 rfl (lv_at hl 1 rfl) ?_
    refine lv_iconst (v := 1) hx hb dX9_ways_84 (by decide) ?_
    refine lv_iadd hx hb dX9_ways_85 ?_
    obtain ⟨x4_20, ex4_20, hf⟩ := ht_nm_ob hf
    rw [← ex4_20]
    refine lv_istore (lv' := [(4, .int x4_20), (0, .ref jM), (1, .int p0), (2, .int p1), (3, .int p2)]) hx hb dX9_ways_86 hl (by decide) rfl (fun ls hl => ?_)
    exact b88  FU p0 p1 p2 x4_20 o_19.1 o_19.2.1 o_19.2.2.1 o_19.2.2.2 _ _ _ hf hP hD hS (lv_sub hl [1, 2, 3, 4, 0] rfl)
  · replace hf := ht_t c_18 hf
    refine lv_aload_n hx hb dX9_ways_10 rfl (lv_at hl 0 rfl) ?_
    refine lv_iload_n hx hb dX9_ways_11 rfl (lv_at hl 3 rfl) ?_
    obtain ⟨o_21, ho_21, hf⟩ := ht_bn_ob hf
    refine ht_callVi (r := o_21.1) (rest := []) (As := [.int p2]) (wc := (wMo K jM aM RM.s RM.held RM.aside RM.before RM.isHeld RM.tape RM.taped RM.token RM.frm RM.to RM.value RM.isWrong RM.unpaired RM.bestSound RM.bestWay RM.rows RM.rowN RM.sortOf RM.sizeOf RM.numbers RM.holdsWhat RM.holdsWhich RM.holdsMany RM.bodies RM.ran RM.actKind RM.actN RM.actA RM.isParted)) (wr := []) (w1 := (wMo K jM aM o_21.2.1 RM.held o_21.2.2 RM.before RM.isHeld RM.tape RM.taped RM.token RM.frm RM.to RM.value RM.isWrong RM.unpaired RM.bestSound RM.bestWay RM.rows RM.rowN RM.sortOf RM.sizeOf RM.numbers RM.holdsWhat RM.holdsWhich RM.holdsMany RM.bodies RM.ran RM.actKind RM.actN RM.actA RM.isParted)) (w2 := (wMo K jM aM o_21.2.1 RM.held o_21.2.2 RM.before RM.isHeld RM.tape RM.taped RM.token RM.frm RM.to RM.value RM.isWrong RM.unpaired RM.bestSound RM.bestWay RM.rows RM.rowN RM.sortOf RM.sizeOf RM.numbers RM.holdsWhat RM.holdsWhich RM.holdsMany RM.bodies RM.ran RM.actKind RM.actN RM.actA RM.isParted)) hF (ctX9_soundBy l D K jM aM RM p2 o_21 ho_21 H.size) (cwV 1 hts gX9_ways_X9_soundBy rfl rfl rfl hdX9_soundBy ⟨(show 4 + 1 ≤ 100 + (d + 1) by omega), (show 8 + (4 + 11) + (93) ≤ 4000 + (d + 1) * 25 by omega)⟩) hK hP hD hS hA [0, 1, 2, 3, 4, 5, 6, 7, 8, 9, 10, 11, 12, 13, 14, 15] [] rfl rfl (by decide) (by decide) (by decide) [0, 1, 2, 3, 4, 5, 6, 7, 8, 9, 10, 11, 12, 13, 14, 15] rfl (by decide) (va_recv hK hP (ci := 9) (q0 := 0) rfl rfl) rfl hl.1 rfl (Nat.le_of_ble_eq_true rfl) dX9_ways_12 ⟨Nat.zero_le _, Nat.zero_le _⟩ (fun H locs hP hD hS => ?_)
    obtain ⟨x4_22, ex4_22, hf⟩ := ht_nm_ob hf
    rw [← ex4_22]
    refine lv_istore (lv' := [(4, .int x4_22), (0, .ref jM), (1, .int p0), (2, .int p1), (3, .int p2)]) hx hb dX9_ways_15 hl (by decide) rfl (fun ls hl => ?_)
    refine lv_iconst (v := 0) hx hb dX9_ways_17 (by decide) ?_
    refine lv_istore (lv' := [(5, .int (0 : Int32)), (4, .int x4_22), (0, .ref jM), (1, .int p0), (2, .int p1), (3, .int p2)]) hx hb dX9_ways_18 hl (by decide) rfl (fun ls hl => ?_)
    exact b20  FU x4_22 (0 : Int32) o_21.2.1 o_21.2.2 RM.bestSound RM.bestWay _ _ _ hf hP hD hS (lv_sub hl [2, 1, 0] rfl)
abbrev rmX9_findsBest : Room := { frames := 113, cells := 0, slots := 0, locals := 4325 }
theorem hdX9_findsBest : yX9_findsBest.cls = RX9 ∧ yX9_findsBest.cls ≠ "java/lang/invoke/MethodHandle" ∧ yX9_findsBest.cls ≠ "java/lang/invoke/VarHandle" ∧ (parseMethodDescriptor yX9_findsBest.desc).map (fun d => d.parameters.length) = some 1 := by decide +kernel
def fX9_findsBest_b34 (RM : ModV) (x1 : Int32) (vM_s : AI) (vM_aside : AI) (vM_unpaired : AI) (vM_bestSound : Int32) (vM_bestWay : AI) : Option (AI × AI × AI × Int32 × AI) := ht_bn (ht_lp4 fX9_ways 12 (vM_s, RM.held, vM_aside, RM.before, RM.isHeld, RM.tape, RM.taped, RM.token, RM.frm, RM.to, RM.value, RM.isWrong, vM_unpaired, (-1 : Int32), vM_bestWay, RM.rows, RM.rowN, RM.sortOf, RM.sizeOf, RM.numbers, RM.holdsWhat, RM.holdsWhich, RM.holdsMany, RM.bodies, RM.ran, RM.actKind, RM.actN, RM.actA, RM.isParted) (0 : Int32) (0 : Int32) x1) (fun o_1 => ht_bn (fX9_copyRow vM_unpaired o_1.1) (fun o_2 => some (o_2, o_1.2.1, vM_unpaired, o_1.2.2.1, o_1.2.2.2)))
def fX9_findsBest_b13 (RM : ModV) (k13 : Int32 → Int32 → AI → AI → AI → Int32 → AI → Option (AI × AI × AI × Int32 × AI)) (x1 : Int32) (x2 : Int32) (vM_s : AI) (vM_aside : AI) (vM_unpaired : AI) (vM_bestSound : Int32) (vM_bestWay : AI) : Option (AI × AI × AI × Int32 × AI) := ht_gd (ht_ix (0 : Int32) 57) (if (vM_s (0 : Int32).toNatClampNeg) ≤ x2 then (fX9_findsBest_b34 RM x1 vM_s vM_aside vM_unpaired vM_bestSound vM_bestWay) else (ht_bn (fX9_leaves (vM_s, RM.held, vM_aside, RM.before, RM.isHeld, RM.tape, RM.taped, RM.token, RM.frm, RM.to, RM.value, RM.isWrong, vM_unpaired, vM_bestSound, vM_bestWay, RM.rows, RM.rowN, RM.sortOf, RM.sizeOf, RM.numbers, RM.holdsWhat, RM.holdsWhich, RM.holdsMany, RM.bodies, RM.ran, RM.actKind, RM.actN, RM.actA, RM.isParted) x2) (fun o_5 => ht_nm (x2 + (1 : Int32)) (fun x2_6 => k13 x1 x2_6 o_5 vM_aside vM_unpaired vM_bestSound vM_bestWay))))
def fX9_findsBest (RM : ModV) (p0 : Int32) : Option (AI × AI × AI × Int32 × AI) := ht_bn (fX9_copyRow RM.s RM.unpaired) (fun o_7 => ht_lp7 (fX9_findsBest_b13 RM) FU p0 (0 : Int32) RM.s RM.aside o_7 RM.bestSound RM.bestWay)
set_option maxHeartbeats 1000000 in
set_option maxRecDepth 100000 in
theorem ctX9_findsBest (l : Launch) (D : va_G) (K : Nat → ClassId) (jM : Nat) (aM : Nat → Nat) (RM : ModV) (p0 : Int32) (o : (AI × AI × AI × Int32 × AI)) (hf : fX9_findsBest RM p0 = some o) (sz : Nat) : Met l yX9_findsBest wsX9_findsBest rmX9_findsBest (ht_Pre D K [.ref jM, .int p0] (wMo K jM aM RM.s RM.held RM.aside RM.before RM.isHeld RM.tape RM.taped RM.token RM.frm RM.to RM.value RM.isWrong RM.unpaired RM.bestSound RM.bestWay RM.rows RM.rowN RM.sortOf RM.sizeOf RM.numbers RM.holdsWhat RM.holdsWhich RM.holdsMany RM.bodies RM.ran RM.actKind RM.actN RM.actA RM.isParted) sz) (ht_Qv D K (wMo K jM aM o.1 RM.held o.2.1 RM.before RM.isHeld RM.tape RM.taped RM.token RM.frm RM.to RM.value RM.isWrong o.2.2.1 o.2.2.2.1 o.2.2.2.2 RM.rows RM.rowN RM.sortOf RM.sizeOf RM.numbers RM.holdsWhat RM.holdsWhich RM.holdsMany RM.bodies RM.ran RM.actKind RM.actN RM.actA RM.isParted) (va_A (wMo K jM aM RM.s RM.held RM.aside RM.before RM.isHeld RM.tape RM.taped RM.token RM.frm RM.to RM.value RM.isWrong RM.unpaired RM.bestSound RM.bestWay RM.rows RM.rowN RM.sortOf RM.sizeOf RM.numbers RM.holdsWhat RM.holdsWhich RM.holdsMany RM.bodies RM.ran RM.actKind RM.actN RM.actA RM.isParted) sz)) 0 0 (va_A (wMo K jM aM RM.s RM.held RM.aside RM.before RM.isHeld RM.tape RM.taped RM.token RM.frm RM.to RM.value RM.isWrong RM.unpaired RM.bestSound RM.bestWay RM.rows RM.rowN RM.sortOf RM.sizeOf RM.numbers RM.holdsWhat RM.holdsWhich RM.holdsMany RM.bodies RM.ran RM.actKind RM.actN RM.actA RM.isParted) sz) := by
  refine ht_enter (Qf := ht_Qv D K (wMo K jM aM o.1 RM.held o.2.1 RM.before RM.isHeld RM.tape RM.taped RM.token RM.frm RM.to RM.value RM.isWrong o.2.2.1 o.2.2.2.1 o.2.2.2.2 RM.rows RM.rowN RM.sortOf RM.sizeOf RM.numbers RM.holdsWhat RM.holdsWhich RM.holdsMany RM.bodies RM.ran RM.actKind RM.actN RM.actA RM.isParted)) (cc := cX9_findsBest) (maxL := 3) (rt := none) (by decide) rfl (Nat.le_of_ble_eq_true rfl) ?_ sz
  intro p e s m below meth c A Q H locs ls hQ hx hb hr hlk hmn hml hown hts hA hK hP hD hS hl
  have hown : s.vm.findClass RX9 = some m.cls := hown
  have hF : CallFix p m c cX9_findsBest 3 s ([.ref jM, .int p0] : List Value).toArray wsX9_findsBest RX9 := ⟨hx, hb, hml, hown, hts⟩
  have hl : lv_has ls 3 [(0, .ref jM), (1, .int p0)] := hl
  have iw9 : ∀ w ∈ u_ws RX9 TX9 29, w ∈ wsX9_findsBest := by decide +kernel
  have kw1 := hts (.fieldLink RX9 238 "HeldTonguesModel" "bestSound" "I") (by decide +kernel)
  have kw2 := hts (.fieldLink RX9 25 "HeldTonguesModel" "unpaired" "[I") (by decide +kernel)
  have kw3 := hts (.fieldLink RX9 7 "HeldTonguesModel" "s" "[I") (by decide +kernel)
  have b34 : ∀ (x1 : Int32) (vM_s : AI) (vM_aside : AI) (vM_unpaired : AI) (vM_bestSound : Int32) (vM_bestWay : AI) (H : Heap) (locs : List Loc) (ls : Array Slot), fX9_findsBest_b34 RM x1 vM_s vM_aside vM_unpaired vM_bestSound vM_bestWay = some o → va_P D vwCl (wMo K jM aM vM_s RM.held vM_aside RM.before RM.isHeld RM.tape RM.taped RM.token RM.frm RM.to RM.value RM.isWrong vM_unpaired vM_bestSound vM_bestWay RM.rows RM.rowN RM.sortOf RM.sizeOf RM.numbers RM.holdsWhat RM.holdsWhich RM.holdsMany RM.bodies RM.ran RM.actKind RM.actN RM.actA RM.isParted) H → va_D A (wMo K jM aM vM_s RM.held vM_aside RM.before RM.isHeld RM.tape RM.taped RM.token RM.frm RM.to RM.value RM.isWrong vM_unpaired vM_bestSound vM_bestWay RM.rows RM.rowN RM.sortOf RM.sizeOf RM.numbers RM.holdsWhat RM.holdsWhich RM.holdsMany RM.bodies RM.ran RM.actKind RM.actN RM.actA RM.isParted) → va_S A s.heap H locs → lv_has ls 3 [(0, .ref jM), (1, .int x1)] → W p l e (headSpec wsX9_findsBest rmX9_findsBest).room s m ([.ref jM, .int p0] : List Value).toArray below meth c H locs 0 0 Q (F0 m 34 ls []) := by
    intro x1 vM_s vM_aside vM_unpaired vM_bestSound vM_bestWay H locs ls hf hP hD hS hl
    delta fX9_findsBest_b34 at hf
    refine lv_aload_n hx hb dX9_findsBest_34 rfl (lv_at hl 0 rfl) ?_
    refine lv_iconst (v := -1) hx hb dX9_findsBest_35 (by decide) ?_
    refine ht_put (ci := 9) (v := .int (-1 : Int32)) (ty := .int) (C := RX9) (T := TX9) (N := 29) (w2 := (wMo K jM aM vM_s RM.held vM_aside RM.before RM.isHeld RM.tape RM.taped RM.token RM.frm RM.to RM.value RM.isWrong vM_unpaired (-1 : Int32) vM_bestWay RM.rows RM.rowN RM.sortOf RM.sizeOf RM.numbers RM.holdsWhat RM.holdsWhich RM.holdsMany RM.bodies RM.ran RM.actKind RM.actN RM.actA RM.isParted)) hx hb hts iw9 tyX9 tyX9_ok nmX9 hown hK hP hD hS 0 rfl rfl 13 (by decide) kw1 (fun _ h9 => h9) rfl (by decide +kernel) rfl rfl (Nat.le_of_ble_eq_true rfl) dX9_findsBest_36 rfl (fun H locs hP hD hS => ?_)
    refine lv_aload_n hx hb dX9_findsBest_39 rfl (lv_at hl 0 rfl) ?_
    refine lv_iconst (v := 0) hx hb dX9_findsBest_40 (by decide) ?_
    refine lv_iconst (v := 0) hx hb dX9_findsBest_41 (by decide) ?_
    refine lv_iload_n hx hb dX9_findsBest_42 rfl (lv_at hl 1 rfl) ?_
    obtain ⟨o_1, ho_1, hf⟩ := ht_bn_ob hf
    refine ht_callVv (rest := []) (As := [.int (0 : Int32), .int (0 : Int32), .int x1]) (wc := (wMo K jM aM vM_s RM.held vM_aside RM.before RM.isHeld RM.tape RM.taped RM.token RM.frm RM.to RM.value RM.isWrong vM_unpaired (-1 : Int32) vM_bestWay RM.rows RM.rowN RM.sortOf RM.sizeOf RM.numbers RM.holdsWhat RM.holdsWhich RM.holdsMany RM.bodies RM.ran RM.actKind RM.actN RM.actA RM.isParted)) (wr := []) (w1 := (wMo K jM aM o_1.1 RM.held o_1.2.1 RM.before RM.isHeld RM.tape RM.taped RM.token RM.frm RM.to RM.value RM.isWrong vM_unpaired o_1.2.2.1 o_1.2.2.2 RM.rows RM.rowN RM.sortOf RM.sizeOf RM.numbers RM.holdsWhat RM.holdsWhich RM.holdsMany RM.bodies RM.ran RM.actKind RM.actN RM.actA RM.isParted)) (w2 := (wMo K jM aM o_1.1 RM.held o_1.2.1 RM.before RM.isHeld RM.tape RM.taped RM.token RM.frm RM.to RM.value RM.isWrong vM_unpaired o_1.2.2.1 o_1.2.2.2 RM.rows RM.rowN RM.sortOf RM.sizeOf RM.numbers RM.holdsWhat RM.holdsWhich RM.holdsMany RM.bodies RM.ran RM.actKind RM.actN RM.actA RM.isParted)) hF (ctX9_ways l D K jM aM 12 (vM_s, RM.held, vM_aside, RM.before, RM.isHeld, RM.tape, RM.taped, RM.token, RM.frm, RM.to, RM.value, RM.isWrong, vM_unpaired, (-1 : Int32), vM_bestWay, RM.rows, RM.rowN, RM.sortOf, RM.sizeOf, RM.numbers, RM.holdsWhat, RM.holdsWhich, RM.holdsMany, RM.bodies, RM.ran, RM.actKind, RM.actN, RM.actA, RM.isParted) (0 : Int32) (0 : Int32) x1 o_1 ho_1 H.size) (cwV 3 hts gX9_findsBest_X9_ways rfl rfl rfl hdX9_ways ⟨Nat.le_of_ble_eq_true rfl, Nat.le_of_ble_eq_true rfl⟩) hK hP hD hS hA [0, 1, 2, 3, 4, 5, 6, 7, 8, 9, 10, 11, 12, 13, 14, 15] [] rfl rfl (by decide) (by decide) (by decide) [0, 1, 2, 3, 4, 5, 6, 7, 8, 9, 10, 11, 12, 13, 14, 15] rfl (by decide) (va_recv hK hP (ci := 9) (q0 := 0) rfl rfl) rfl hl.1 rfl (Nat.le_of_ble_eq_true rfl) dX9_findsBest_43 ⟨Nat.zero_le _, Nat.zero_le _⟩ (fun H locs hP hD hS => ?_)
    refine lv_aload_n hx hb dX9_findsBest_46 rfl (lv_at hl 0 rfl) ?_
    refine va_get (D := D) (ci := 9) (v := .ref (aM 5)) (C := RX9) (T := TX9) (N := 29) hx hb hts iw9 hown hK hP 0 rfl rfl 12 (by decide) kw2 (fun _ h9 => h9) rfl dX9_findsBest_47 ?_
    refine lv_aload_n hx hb dX9_findsBest_50 rfl (lv_at hl 0 rfl) ?_
    refine va_get (D := D) (ci := 9) (v := .ref (aM 0)) (C := RX9) (T := TX9) (N := 29) hx hb hts iw9 hown hK hP 0 rfl rfl 0 (by decide) kw3 (fun _ h9 => h9) rfl dX9_findsBest_51 ?_
    obtain ⟨o_2, ho_2, hf⟩ := ht_bn_ob hf
    refine ht_callSv (rest := []) (As := [.ref (aM 5), .ref (aM 0)]) (wc := (wAr K 57 (aM 5) vM_unpaired ++ (wAr K 57 (aM 0) o_1.1))) (wr := ([(jM, .inr (9, [.ref (aM 0), .ref (aM 1), .ref (aM 2), .ref (aM 3), .int RM.isHeld, .ref (aM 4), .int RM.taped, .int RM.token, .int RM.frm, .int RM.to, .int RM.value, .int RM.isWrong, .ref (aM 5), .int o_1.2.2.1, .ref (aM 6), .ref (aM 7), .int RM.rowN, .ref (aM 8), .ref (aM 9), .ref (aM 10), .ref (aM 11), .ref (aM 12), .ref (aM 13), .ref (aM 14), .int RM.ran, .int RM.actKind, .int RM.actN, .int RM.actA, .int RM.isParted]))] ++ ([(aM 1, .inl (K 1, 57, .inl RM.held))] ++ ([(aM 2, .inl (K 1, 57, .inl o_1.2.1))] ++ ([(aM 3, .inl (K 1, 57, .inl RM.before))] ++ ([(aM 4, .inl (K 1, 200, .inl RM.tape))] ++ ([(aM 6, .inl (K 1, 8, .inl o_1.2.2.2))] ++ ([(aM 7, .inl (K 1, 30, .inl RM.rows))] ++ ([(aM 8, .inl (K 1, 4, .inl RM.sortOf))] ++ ([(aM 9, .inl (K 1, 4, .inl RM.sizeOf))] ++ ([(aM 10, .inl (K 1, 160, .inl RM.numbers))] ++ ([(aM 11, .inl (K 1, 4, .inl RM.holdsWhat))] ++ ([(aM 12, .inl (K 1, 4, .inl RM.holdsWhich))] ++ ([(aM 13, .inl (K 1, 4, .inl RM.holdsMany))] ++ ([(aM 14, .inl (K 1, 30, .inl RM.bodies))]))))))))))))))) (w1 := (wAr K 57 (aM 5) vM_unpaired ++ (wAr K 57 (aM 0) o_2))) (w2 := (wMo K jM aM o_2 RM.held o_1.2.1 RM.before RM.isHeld RM.tape RM.taped RM.token RM.frm RM.to RM.value RM.isWrong vM_unpaired o_1.2.2.1 o_1.2.2.2 RM.rows RM.rowN RM.sortOf RM.sizeOf RM.numbers RM.holdsWhat RM.holdsWhich RM.holdsMany RM.bodies RM.ran RM.actKind RM.actN RM.actA RM.isParted)) hF (ctX9_copyRow l D K (aM 5) (aM 0) vM_unpaired o_1.1 o_2 ho_2 H.size) (va_cwS 2 hts gX9_findsBest_X9_copyRow rfl rfl rfl hdX9_copyRow ⟨Nat.le_of_ble_eq_true rfl, Nat.le_of_ble_eq_true rfl⟩) hK hP hD hS hA [6, 1] [0, 2, 3, 4, 5, 7, 8, 9, 10, 11, 12, 13, 14, 15] rfl rfl (by decide) (by decide) (by decide) [0, 15, 1, 2, 3, 4, 14, 5, 6, 7, 8, 9, 10, 11, 12, 13] rfl (by decide) rfl hl.1 rfl (Nat.le_of_ble_eq_true rfl) dX9_findsBest_54 ⟨Nat.zero_le _, Nat.zero_le _⟩ (fun H locs hP hD hS => ?_)
    have ho := Option.some.inj hf
    subst ho; subst hQ
    exact ht_vret hx hb hr hlk hK hP hD hS dX9_findsBest_57
  have b13 : ∀ (n : Nat) (x1 : Int32) (x2 : Int32) (vM_s : AI) (vM_aside : AI) (vM_unpaired : AI) (vM_bestSound : Int32) (vM_bestWay : AI) (H : Heap) (locs : List Loc) (ls : Array Slot), ht_lp7 (fX9_findsBest_b13 RM) n x1 x2 vM_s vM_aside vM_unpaired vM_bestSound vM_bestWay = some o → va_P D vwCl (wMo K jM aM vM_s RM.held vM_aside RM.before RM.isHeld RM.tape RM.taped RM.token RM.frm RM.to RM.value RM.isWrong vM_unpaired vM_bestSound vM_bestWay RM.rows RM.rowN RM.sortOf RM.sizeOf RM.numbers RM.holdsWhat RM.holdsWhich RM.holdsMany RM.bodies RM.ran RM.actKind RM.actN RM.actA RM.isParted) H → va_D A (wMo K jM aM vM_s RM.held vM_aside RM.before RM.isHeld RM.tape RM.taped RM.token RM.frm RM.to RM.value RM.isWrong vM_unpaired vM_bestSound vM_bestWay RM.rows RM.rowN RM.sortOf RM.sizeOf RM.numbers RM.holdsWhat RM.holdsWhich RM.holdsMany RM.bodies RM.ran RM.actKind RM.actN RM.actA RM.isParted) → va_S A s.heap H locs → lv_has ls 3 [(0, .ref jM), (1, .int x1), (2, .int x2)] → W p l e (headSpec wsX9_findsBest rmX9_findsBest).room s m ([.ref jM, .int p0] : List Value).toArray below meth c H locs 0 0 Q (F0 m 13 ls []) := by
    intro n
    induction n with
    | zero =>
      intro x1 x2 vM_s vM_aside vM_unpaired vM_bestSound vM_bestWay H locs ls hf hP hD hS hl
      cases (show (none : Option (AI × AI × AI × Int32 × AI)) = some o from hf)
    | succ n hk13 =>
      intro x1 x2 vM_s vM_aside vM_unpaired vM_bestSound vM_bestWay H locs ls hf hP hD hS hl
      replace hf : fX9_findsBest_b13 RM (ht_lp7 (fX9_findsBest_b13 RM) n) x1 x2 vM_s vM_aside vM_unpaired vM_bestSound vM_bestWay = some o := hf
      delta fX9_findsBest_b13 at hf
      refine lv_iload_n hx hb dX9_findsBest_13 rfl (lv_at hl 2 rfl) ?_
      refine lv_aload_n hx hb dX9_findsBest_14 rfl (lv_at hl 0 rfl) ?_
      refine va_get (D := D) (ci := 9) (v := .ref (aM 0)) (C := RX9) (T := TX9) (N := 29) hx hb hts iw9 hown hK hP 0 rfl rfl 0 (by decide) kw3 (fun _ h9 => h9) rfl dX9_findsBest_15 ?_
      refine lv_iconst (v := 0) hx hb dX9_findsBest_18 (by decide) ?_
      obtain ⟨g_3, hf⟩ := ht_gd_ob hf
      refine va_iald hx hb hK hP 1 1 rfl rfl (ht_ix_in g_3) dX9_findsBest_19 ?_
      refine lv_icmp_ge (tgt := 34) hx hb dX9_findsBest_20 (by decide) (fun c_4 => ?_) (fun c_4 => ?_)
      · replace hf := ht_t c_4 hf
        exact b34  x1 vM_s vM_aside vM_unpaired vM_bestSound vM_bestWay _ _ _ hf hP hD hS (lv_sub hl [0, 1] rfl)
      · replace hf := ht_f c_4 hf
        refine lv_aload_n hx hb dX9_findsBest_23 rfl (lv_at hl 0 rfl) ?_
        refine lv_iload_n hx hb dX9_findsBest_24 rfl (lv_at hl 2 rfl) ?_
        obtain ⟨o_5, ho_5, hf⟩ := ht_bn_ob hf
        refine ht_callVv (rest := []) (As := [.int x2]) (wc := (wMo K jM aM vM_s RM.held vM_aside RM.before RM.isHeld RM.tape RM.taped RM.token RM.frm RM.to RM.value RM.isWrong vM_unpaired vM_bestSound vM_bestWay RM.rows RM.rowN RM.sortOf RM.sizeOf RM.numbers RM.holdsWhat RM.holdsWhich RM.holdsMany RM.bodies RM.ran RM.actKind RM.actN RM.actA RM.isParted)) (wr := []) (w1 := (wMo K jM aM o_5 RM.held vM_aside RM.before RM.isHeld RM.tape RM.taped RM.token RM.frm RM.to RM.value RM.isWrong vM_unpaired vM_bestSound vM_bestWay RM.rows RM.rowN RM.sortOf RM.sizeOf RM.numbers RM.holdsWhat RM.holdsWhich RM.holdsMany RM.bodies RM.ran RM.actKind RM.actN RM.actA RM.isParted)) (w2 := (wMo K jM aM o_5 RM.held vM_aside RM.before RM.isHeld RM.tape RM.taped RM.token RM.frm RM.to RM.value RM.isWrong vM_unpaired vM_bestSound vM_bestWay RM.rows RM.rowN RM.sortOf RM.sizeOf RM.numbers RM.holdsWhat RM.holdsWhich RM.holdsMany RM.bodies RM.ran RM.actKind RM.actN RM.actA RM.isParted)) hF (ctX9_leaves l D K jM aM (vM_s, RM.held, vM_aside, RM.before, RM.isHeld, RM.tape, RM.taped, RM.token, RM.frm, RM.to, RM.value, RM.isWrong, vM_unpaired, vM_bestSound, vM_bestWay, RM.rows, RM.rowN, RM.sortOf, RM.sizeOf, RM.numbers, RM.holdsWhat, RM.holdsWhich, RM.holdsMany, RM.bodies, RM.ran, RM.actKind, RM.actN, RM.actA, RM.isParted) x2 o_5 ho_5 H.size) (cwV 1 hts gX9_findsBest_X9_leaves rfl rfl rfl hdX9_leaves ⟨Nat.le_of_ble_eq_true rfl, Nat.le_of_ble_eq_true rfl⟩) hK hP hD hS hA [0, 1, 2, 3, 4, 5, 6, 7, 8, 9, 10, 11, 12, 13, 14, 15] [] rfl rfl (by decide) (by decide) (by decide) [0, 1, 2, 3, 4, 5, 6, 7, 8, 9, 10, 11, 12, 13, 14, 15] rfl (by decide) (va_recv hK hP (ci := 9) (q0 := 0) rfl rfl) rfl hl.1 rfl (Nat.le_of_ble_eq_true rfl) dX9_findsBest_25 ⟨Nat.zero_le _, Nat.zero_le _⟩ (fun H locs hP hD hS => ?_)
        obtain ⟨x2_6, ex2_6, hf⟩ := ht_nm_ob hf
        refine lv_iinc (v := x2_6) (lv' := [(2, .int x2_6), (0, .ref jM), (1, .int x1)]) hx hb dX9_findsBest_28 hl (k := 2) rfl (by rw [ex2_6]; rfl) (by decide) rfl (fun ls hl => ?_)
        refine lv_goto (tgt := 13) hx hb dX9_findsBest_31 (by decide) ?_
        exact hk13 x1 x2_6 o_5 vM_aside vM_unpaired vM_bestSound vM_bestWay _ _ _ hf hP hD hS (lv_sub hl [1, 2, 0] rfl)
  delta fX9_findsBest at hf
  refine lv_aload_n hx hb dX9_findsBest_0 rfl (lv_at hl 0 rfl) ?_
  refine va_get (D := D) (ci := 9) (v := .ref (aM 0)) (C := RX9) (T := TX9) (N := 29) hx hb hts iw9 hown hK hP 0 rfl rfl 0 (by decide) kw3 (fun _ h9 => h9) rfl dX9_findsBest_1 ?_
  refine lv_aload_n hx hb dX9_findsBest_4 rfl (lv_at hl 0 rfl) ?_
  refine va_get (D := D) (ci := 9) (v := .ref (aM 5)) (C := RX9) (T := TX9) (N := 29) hx hb hts iw9 hown hK hP 0 rfl rfl 12 (by decide) kw2 (fun _ h9 => h9) rfl dX9_findsBest_5 ?_
  obtain ⟨o_7, ho_7, hf⟩ := ht_bn_ob hf
  refine ht_callSv (rest := []) (As := [.ref (aM 0), .ref (aM 5)]) (wc := (wAr K 57 (aM 0) RM.s ++ (wAr K 57 (aM 5) RM.unpaired))) (wr := ([(jM, .inr (9, [.ref (aM 0), .ref (aM 1), .ref (aM 2), .ref (aM 3), .int RM.isHeld, .ref (aM 4), .int RM.taped, .int RM.token, .int RM.frm, .int RM.to, .int RM.value, .int RM.isWrong, .ref (aM 5), .int RM.bestSound, .ref (aM 6), .ref (aM 7), .int RM.rowN, .ref (aM 8), .ref (aM 9), .ref (aM 10), .ref (aM 11), .ref (aM 12), .ref (aM 13), .ref (aM 14), .int RM.ran, .int RM.actKind, .int RM.actN, .int RM.actA, .int RM.isParted]))] ++ ([(aM 1, .inl (K 1, 57, .inl RM.held))] ++ ([(aM 2, .inl (K 1, 57, .inl RM.aside))] ++ ([(aM 3, .inl (K 1, 57, .inl RM.before))] ++ ([(aM 4, .inl (K 1, 200, .inl RM.tape))] ++ ([(aM 6, .inl (K 1, 8, .inl RM.bestWay))] ++ ([(aM 7, .inl (K 1, 30, .inl RM.rows))] ++ ([(aM 8, .inl (K 1, 4, .inl RM.sortOf))] ++ ([(aM 9, .inl (K 1, 4, .inl RM.sizeOf))] ++ ([(aM 10, .inl (K 1, 160, .inl RM.numbers))] ++ ([(aM 11, .inl (K 1, 4, .inl RM.holdsWhat))] ++ ([(aM 12, .inl (K 1, 4, .inl RM.holdsWhich))] ++ ([(aM 13, .inl (K 1, 4, .inl RM.holdsMany))] ++ ([(aM 14, .inl (K 1, 30, .inl RM.bodies))]))))))))))))))) (w1 := (wAr K 57 (aM 0) RM.s ++ (wAr K 57 (aM 5) o_7))) (w2 := (wMo K jM aM RM.s RM.held RM.aside RM.before RM.isHeld RM.tape RM.taped RM.token RM.frm RM.to RM.value RM.isWrong o_7 RM.bestSound RM.bestWay RM.rows RM.rowN RM.sortOf RM.sizeOf RM.numbers RM.holdsWhat RM.holdsWhich RM.holdsMany RM.bodies RM.ran RM.actKind RM.actN RM.actA RM.isParted)) hF (ctX9_copyRow l D K (aM 0) (aM 5) RM.s RM.unpaired o_7 ho_7 H.size) (va_cwS 2 hts gX9_findsBest_X9_copyRow rfl rfl rfl hdX9_copyRow ⟨Nat.le_of_ble_eq_true rfl, Nat.le_of_ble_eq_true rfl⟩) hK hP hD hS hA [1, 6] [0, 2, 3, 4, 5, 7, 8, 9, 10, 11, 12, 13, 14, 15] rfl rfl (by decide) (by decide) (by decide) [0, 14, 1, 2, 3, 4, 15, 5, 6, 7, 8, 9, 10, 11, 12, 13] rfl (by decide) rfl hl.1 rfl (Nat.le_of_ble_eq_true rfl) dX9_findsBest_8 ⟨Nat.zero_le _, Nat.zero_le _⟩ (fun H locs hP hD hS => ?_)
  refine lv_iconst (v := 0) hx hb dX9_findsBest_11 (by decide) ?_
  refine lv_istore_n (lv' := [(2, .int (0 : Int32)), (0, .ref jM), (1, .int p0)]) hx hb dX9_findsBest_12 rfl hl (by decide) rfl (fun ls hl => ?_)
  exact b13  FU p0 (0 : Int32) RM.s RM.aside o_7 RM.bestSound RM.bestWay _ _ _ hf hP hD hS (lv_sub hl [1, 2, 0] rfl)
abbrev rmX9_best : Room := { frames := 114, cells := 0, slots := 0, locals := 4347 }
theorem hdX9_best : yX9_best.cls = RX9 ∧ yX9_best.cls ≠ "java/lang/invoke/MethodHandle" ∧ yX9_best.cls ≠ "java/lang/invoke/VarHandle" ∧ (parseMethodDescriptor yX9_best.desc).map (fun d => d.parameters.length) = some 1 := by decide +kernel
def fX9_best (RM : ModV) (p0 : Int32) : Option (Int32 × AI × AI × AI × Int32 × AI) := ht_bn (fX9_isFew p0) (fun o_1 => if o_1 = 0 then (some ((-1 : Int32), RM.s, RM.aside, RM.unpaired, RM.bestSound, RM.bestWay)) else (ht_bn (fX9_findsBest RM p0) (fun o_3 => some (o_3.2.2.2.1, o_3.1, o_3.2.1, o_3.2.2.1, o_3.2.2.2.1, o_3.2.2.2.2))))
set_option maxHeartbeats 1000000 in
set_option maxRecDepth 100000 in
theorem ctX9_best (l : Launch) (D : va_G) (K : Nat → ClassId) (jM : Nat) (aM : Nat → Nat) (RM : ModV) (p0 : Int32) (o : (Int32 × AI × AI × AI × Int32 × AI)) (hf : fX9_best RM p0 = some o) (sz : Nat) : Met l yX9_best wsX9_best rmX9_best (ht_Pre D K [.ref jM, .int p0] (wMo K jM aM RM.s RM.held RM.aside RM.before RM.isHeld RM.tape RM.taped RM.token RM.frm RM.to RM.value RM.isWrong RM.unpaired RM.bestSound RM.bestWay RM.rows RM.rowN RM.sortOf RM.sizeOf RM.numbers RM.holdsWhat RM.holdsWhich RM.holdsMany RM.bodies RM.ran RM.actKind RM.actN RM.actA RM.isParted) sz) (ht_Qi D K (wMo K jM aM o.2.1 RM.held o.2.2.1 RM.before RM.isHeld RM.tape RM.taped RM.token RM.frm RM.to RM.value RM.isWrong o.2.2.2.1 o.2.2.2.2.1 o.2.2.2.2.2 RM.rows RM.rowN RM.sortOf RM.sizeOf RM.numbers RM.holdsWhat RM.holdsWhich RM.holdsMany RM.bodies RM.ran RM.actKind RM.actN RM.actA RM.isParted) o.1 (va_A (wMo K jM aM RM.s RM.held RM.aside RM.before RM.isHeld RM.tape RM.taped RM.token RM.frm RM.to RM.value RM.isWrong RM.unpaired RM.bestSound RM.bestWay RM.rows RM.rowN RM.sortOf RM.sizeOf RM.numbers RM.holdsWhat RM.holdsWhich RM.holdsMany RM.bodies RM.ran RM.actKind RM.actN RM.actA RM.isParted) sz)) 0 0 (va_A (wMo K jM aM RM.s RM.held RM.aside RM.before RM.isHeld RM.tape RM.taped RM.token RM.frm RM.to RM.value RM.isWrong RM.unpaired RM.bestSound RM.bestWay RM.rows RM.rowN RM.sortOf RM.sizeOf RM.numbers RM.holdsWhat RM.holdsWhich RM.holdsMany RM.bodies RM.ran RM.actKind RM.actN RM.actA RM.isParted) sz) := by
  refine ht_enter (Qf := ht_Qi D K (wMo K jM aM o.2.1 RM.held o.2.2.1 RM.before RM.isHeld RM.tape RM.taped RM.token RM.frm RM.to RM.value RM.isWrong o.2.2.2.1 o.2.2.2.2.1 o.2.2.2.2.2 RM.rows RM.rowN RM.sortOf RM.sizeOf RM.numbers RM.holdsWhat RM.holdsWhich RM.holdsMany RM.bodies RM.ran RM.actKind RM.actN RM.actA RM.isParted) o.1) (cc := cX9_best) (maxL := 2) (rt := (some .int)) (by decide) rfl (Nat.le_of_ble_eq_true rfl) ?_ sz
  intro p e s m below meth c A Q H locs ls hQ hx hb hr hlk hmn hml hown hts hA hK hP hD hS hl
  have hown : s.vm.findClass RX9 = some m.cls := hown
  have hF : CallFix p m c cX9_best 2 s ([.ref jM, .int p0] : List Value).toArray wsX9_best RX9 := ⟨hx, hb, hml, hown, hts⟩
  have hl : lv_has ls 2 [(0, .ref jM), (1, .int p0)] := hl
  have iw9 : ∀ w ∈ u_ws RX9 TX9 29, w ∈ wsX9_best := by decide +kernel
  have kw1 := hts (.fieldLink RX9 238 "HeldTonguesModel" "bestSound" "I") (by decide +kernel)
  delta fX9_best at hf
  refine lv_iload_n hx hb dX9_best_0 rfl (lv_at hl 1 rfl) ?_
  obtain ⟨o_1, ho_1, hf⟩ := ht_bn_ob hf
  refine ht_callSi (r := o_1) (rest := []) (As := [.int p0]) (wc := []) (wr := (wMo K jM aM RM.s RM.held RM.aside RM.before RM.isHeld RM.tape RM.taped RM.token RM.frm RM.to RM.value RM.isWrong RM.unpaired RM.bestSound RM.bestWay RM.rows RM.rowN RM.sortOf RM.sizeOf RM.numbers RM.holdsWhat RM.holdsWhich RM.holdsMany RM.bodies RM.ran RM.actKind RM.actN RM.actA RM.isParted)) (w1 := []) (w2 := (wMo K jM aM RM.s RM.held RM.aside RM.before RM.isHeld RM.tape RM.taped RM.token RM.frm RM.to RM.value RM.isWrong RM.unpaired RM.bestSound RM.bestWay RM.rows RM.rowN RM.sortOf RM.sizeOf RM.numbers RM.holdsWhat RM.holdsWhich RM.holdsMany RM.bodies RM.ran RM.actKind RM.actN RM.actA RM.isParted)) hF (ctX9_isFew l D K p0 o_1 ho_1 H.size) (va_cwS 1 hts gX9_best_X9_isFew rfl rfl rfl hdX9_isFew ⟨Nat.le_of_ble_eq_true rfl, Nat.le_of_ble_eq_true rfl⟩) hK hP hD hS hA [] [0, 1, 2, 3, 4, 5, 6, 7, 8, 9, 10, 11, 12, 13, 14, 15] rfl rfl (by decide) (by decide) (by decide) [0, 1, 2, 3, 4, 5, 6, 7, 8, 9, 10, 11, 12, 13, 14, 15] rfl (by decide) rfl hl.1 rfl (Nat.le_of_ble_eq_true rfl) dX9_best_1 ⟨Nat.zero_le _, Nat.zero_le _⟩ (fun H locs hP hD hS => ?_)
  refine lv_if_ne (tgt := 9) hx hb dX9_best_4 (by decide) (fun c_2 => ?_) (fun c_2 => ?_)
  · replace hf := ht_f c_2 hf
    refine lv_aload_n hx hb dX9_best_9 rfl (lv_at hl 0 rfl) ?_
    refine lv_iload_n hx hb dX9_best_10 rfl (lv_at hl 1 rfl) ?_
    obtain ⟨o_3, ho_3, hf⟩ := ht_bn_ob hf
    refine ht_callVv (rest := []) (As := [.int p0]) (wc := (wMo K jM aM RM.s RM.held RM.aside RM.before RM.isHeld RM.tape RM.taped RM.token RM.frm RM.to RM.value RM.isWrong RM.unpaired RM.bestSound RM.bestWay RM.rows RM.rowN RM.sortOf RM.sizeOf RM.numbers RM.holdsWhat RM.holdsWhich RM.holdsMany RM.bodies RM.ran RM.actKind RM.actN RM.actA RM.isParted)) (wr := []) (w1 := (wMo K jM aM o_3.1 RM.held o_3.2.1 RM.before RM.isHeld RM.tape RM.taped RM.token RM.frm RM.to RM.value RM.isWrong o_3.2.2.1 o_3.2.2.2.1 o_3.2.2.2.2 RM.rows RM.rowN RM.sortOf RM.sizeOf RM.numbers RM.holdsWhat RM.holdsWhich RM.holdsMany RM.bodies RM.ran RM.actKind RM.actN RM.actA RM.isParted)) (w2 := (wMo K jM aM o_3.1 RM.held o_3.2.1 RM.before RM.isHeld RM.tape RM.taped RM.token RM.frm RM.to RM.value RM.isWrong o_3.2.2.1 o_3.2.2.2.1 o_3.2.2.2.2 RM.rows RM.rowN RM.sortOf RM.sizeOf RM.numbers RM.holdsWhat RM.holdsWhich RM.holdsMany RM.bodies RM.ran RM.actKind RM.actN RM.actA RM.isParted)) hF (ctX9_findsBest l D K jM aM RM p0 o_3 ho_3 H.size) (cwV 1 hts gX9_best_X9_findsBest rfl rfl rfl hdX9_findsBest ⟨Nat.le_of_ble_eq_true rfl, Nat.le_of_ble_eq_true rfl⟩) hK hP hD hS hA [0, 1, 2, 3, 4, 5, 6, 7, 8, 9, 10, 11, 12, 13, 14, 15] [] rfl rfl (by decide) (by decide) (by decide) [0, 1, 2, 3, 4, 5, 6, 7, 8, 9, 10, 11, 12, 13, 14, 15] rfl (by decide) (va_recv hK hP (ci := 9) (q0 := 0) rfl rfl) rfl hl.1 rfl (Nat.le_of_ble_eq_true rfl) dX9_best_11 ⟨Nat.zero_le _, Nat.zero_le _⟩ (fun H locs hP hD hS => ?_)
    refine lv_aload_n hx hb dX9_best_14 rfl (lv_at hl 0 rfl) ?_
    refine va_get (D := D) (ci := 9) (v := .int o_3.2.2.2.1) (C := RX9) (T := TX9) (N := 29) hx hb hts iw9 hown hK hP 0 rfl rfl 13 (by decide) kw1 (fun _ h9 => h9) rfl dX9_best_15 ?_
    have ho := Option.some.inj hf
    subst ho; subst hQ
    exact ht_iret hx hb hr hlk rfl hK hP hD hS dX9_best_18
  · replace hf := ht_t c_2 hf
    refine lv_iconst (v := -1) hx hb dX9_best_7 (by decide) ?_
    have ho := Option.some.inj hf
    subst ho; subst hQ
    exact ht_iret hx hb hr hlk rfl hK hP hD hS dX9_best_8
abbrev rmX9_bestOf : Room := { frames := 114, cells := 0, slots := 0, locals := 4347 }
theorem hdX9_bestOf : yX9_bestOf.cls = RX9 ∧ yX9_bestOf.cls ≠ "java/lang/invoke/MethodHandle" ∧ yX9_bestOf.cls ≠ "java/lang/invoke/VarHandle" ∧ (parseMethodDescriptor yX9_bestOf.desc).map (fun d => d.parameters.length) = some 2 := by decide +kernel
def fX9_bestOf (RM : ModV) (p0 : Int32) (p1 : Int32) : Option (Int32 × AI × AI × AI × Int32 × AI) := ht_bn (fX9_isFew p0) (fun o_1 => if o_1 = 0 then (some ((-1 : Int32), RM.s, RM.aside, RM.unpaired, RM.bestSound, RM.bestWay)) else (ht_bn (fX9_isOne RM p1) (fun o_3 => if o_3 = 0 then (some ((-1 : Int32), RM.s, RM.aside, RM.unpaired, RM.bestSound, RM.bestWay)) else (ht_bn (fX9_findsBest RM p0) (fun o_5 => ht_gd (ht_ix p1 8) (some ((o_5.2.2.2.2 p1.toNatClampNeg), o_5.1, o_5.2.1, o_5.2.2.1, o_5.2.2.2.1, o_5.2.2.2.2)))))))
set_option maxHeartbeats 1000000 in
set_option maxRecDepth 100000 in
theorem ctX9_bestOf (l : Launch) (D : va_G) (K : Nat → ClassId) (jM : Nat) (aM : Nat → Nat) (RM : ModV) (p0 : Int32) (p1 : Int32) (o : (Int32 × AI × AI × AI × Int32 × AI)) (hf : fX9_bestOf RM p0 p1 = some o) (sz : Nat) : Met l yX9_bestOf wsX9_bestOf rmX9_bestOf (ht_Pre D K [.ref jM, .int p0, .int p1] (wMo K jM aM RM.s RM.held RM.aside RM.before RM.isHeld RM.tape RM.taped RM.token RM.frm RM.to RM.value RM.isWrong RM.unpaired RM.bestSound RM.bestWay RM.rows RM.rowN RM.sortOf RM.sizeOf RM.numbers RM.holdsWhat RM.holdsWhich RM.holdsMany RM.bodies RM.ran RM.actKind RM.actN RM.actA RM.isParted) sz) (ht_Qi D K (wMo K jM aM o.2.1 RM.held o.2.2.1 RM.before RM.isHeld RM.tape RM.taped RM.token RM.frm RM.to RM.value RM.isWrong o.2.2.2.1 o.2.2.2.2.1 o.2.2.2.2.2 RM.rows RM.rowN RM.sortOf RM.sizeOf RM.numbers RM.holdsWhat RM.holdsWhich RM.holdsMany RM.bodies RM.ran RM.actKind RM.actN RM.actA RM.isParted) o.1 (va_A (wMo K jM aM RM.s RM.held RM.aside RM.before RM.isHeld RM.tape RM.taped RM.token RM.frm RM.to RM.value RM.isWrong RM.unpaired RM.bestSound RM.bestWay RM.rows RM.rowN RM.sortOf RM.sizeOf RM.numbers RM.holdsWhat RM.holdsWhich RM.holdsMany RM.bodies RM.ran RM.actKind RM.actN RM.actA RM.isParted) sz)) 0 0 (va_A (wMo K jM aM RM.s RM.held RM.aside RM.before RM.isHeld RM.tape RM.taped RM.token RM.frm RM.to RM.value RM.isWrong RM.unpaired RM.bestSound RM.bestWay RM.rows RM.rowN RM.sortOf RM.sizeOf RM.numbers RM.holdsWhat RM.holdsWhich RM.holdsMany RM.bodies RM.ran RM.actKind RM.actN RM.actA RM.isParted) sz) := by
  refine ht_enter (Qf := ht_Qi D K (wMo K jM aM o.2.1 RM.held o.2.2.1 RM.before RM.isHeld RM.tape RM.taped RM.token RM.frm RM.to RM.value RM.isWrong o.2.2.2.1 o.2.2.2.2.1 o.2.2.2.2.2 RM.rows RM.rowN RM.sortOf RM.sizeOf RM.numbers RM.holdsWhat RM.holdsWhich RM.holdsMany RM.bodies RM.ran RM.actKind RM.actN RM.actA RM.isParted) o.1) (cc := cX9_bestOf) (maxL := 3) (rt := (some .int)) (by decide) rfl (Nat.le_of_ble_eq_true rfl) ?_ sz
  intro p e s m below meth c A Q H locs ls hQ hx hb hr hlk hmn hml hown hts hA hK hP hD hS hl
  have hown : s.vm.findClass RX9 = some m.cls := hown
  have hF : CallFix p m c cX9_bestOf 3 s ([.ref jM, .int p0, .int p1] : List Value).toArray wsX9_bestOf RX9 := ⟨hx, hb, hml, hown, hts⟩
  have hl : lv_has ls 3 [(0, .ref jM), (1, .int p0), (2, .int p1)] := hl
  have iw9 : ∀ w ∈ u_ws RX9 TX9 29, w ∈ wsX9_bestOf := by decide +kernel
  have kw1 := hts (.fieldLink RX9 28 "HeldTonguesModel" "bestWay" "[I") (by decide +kernel)
  delta fX9_bestOf at hf
  refine lv_iload_n hx hb dX9_bestOf_0 rfl (lv_at hl 1 rfl) ?_
  obtain ⟨o_1, ho_1, hf⟩ := ht_bn_ob hf
  refine ht_callSi (r := o_1) (rest := []) (As := [.int p0]) (wc := []) (wr := (wMo K jM aM RM.s RM.held RM.aside RM.before RM.isHeld RM.tape RM.taped RM.token RM.frm RM.to RM.value RM.isWrong RM.unpaired RM.bestSound RM.bestWay RM.rows RM.rowN RM.sortOf RM.sizeOf RM.numbers RM.holdsWhat RM.holdsWhich RM.holdsMany RM.bodies RM.ran RM.actKind RM.actN RM.actA RM.isParted)) (w1 := []) (w2 := (wMo K jM aM RM.s RM.held RM.aside RM.before RM.isHeld RM.tape RM.taped RM.token RM.frm RM.to RM.value RM.isWrong RM.unpaired RM.bestSound RM.bestWay RM.rows RM.rowN RM.sortOf RM.sizeOf RM.numbers RM.holdsWhat RM.holdsWhich RM.holdsMany RM.bodies RM.ran RM.actKind RM.actN RM.actA RM.isParted)) hF (ctX9_isFew l D K p0 o_1 ho_1 H.size) (va_cwS 1 hts gX9_bestOf_X9_isFew rfl rfl rfl hdX9_isFew ⟨Nat.le_of_ble_eq_true rfl, Nat.le_of_ble_eq_true rfl⟩) hK hP hD hS hA [] [0, 1, 2, 3, 4, 5, 6, 7, 8, 9, 10, 11, 12, 13, 14, 15] rfl rfl (by decide) (by decide) (by decide) [0, 1, 2, 3, 4, 5, 6, 7, 8, 9, 10, 11, 12, 13, 14, 15] rfl (by decide) rfl hl.1 rfl (Nat.le_of_ble_eq_true rfl) dX9_bestOf_1 ⟨Nat.zero_le _, Nat.zero_le _⟩ (fun H locs hP hD hS => ?_)
  refine lv_if_eq (tgt := 15) hx hb dX9_bestOf_4 (by decide) (fun c_2 => ?_) (fun c_2 => ?_)
  · replace hf := ht_t c_2 hf
    refine lv_iconst (v := -1) hx hb dX9_bestOf_15 (by decide) ?_
    have ho := Option.some.inj hf
    subst ho; subst hQ
    exact ht_iret hx hb hr hlk rfl hK hP hD hS dX9_bestOf_16
  · replace hf := ht_f c_2 hf
    refine lv_aload_n hx hb dX9_bestOf_7 rfl (lv_at hl 0 rfl) ?_
    refine lv_iload_n hx hb dX9_bestOf_8 rfl (lv_at hl 2 rfl) ?_
    obtain ⟨o_3, ho_3, hf⟩ := ht_bn_ob hf
    refine ht_callVi (r := o_3) (rest := []) (As := [.int p1]) (wc := (wMo K jM aM RM.s RM.held RM.aside RM.before RM.isHeld RM.tape RM.taped RM.token RM.frm RM.to RM.value RM.isWrong RM.unpaired RM.bestSound RM.bestWay RM.rows RM.rowN RM.sortOf RM.sizeOf RM.numbers RM.holdsWhat RM.holdsWhich RM.holdsMany RM.bodies RM.ran RM.actKind RM.actN RM.actA RM.isParted)) (wr := []) (w1 := (wMo K jM aM RM.s RM.held RM.aside RM.before RM.isHeld RM.tape RM.taped RM.token RM.frm RM.to RM.value RM.isWrong RM.unpaired RM.bestSound RM.bestWay RM.rows RM.rowN RM.sortOf RM.sizeOf RM.numbers RM.holdsWhat RM.holdsWhich RM.holdsMany RM.bodies RM.ran RM.actKind RM.actN RM.actA RM.isParted)) (w2 := (wMo K jM aM RM.s RM.held RM.aside RM.before RM.isHeld RM.tape RM.taped RM.token RM.frm RM.to RM.value RM.isWrong RM.unpaired RM.bestSound RM.bestWay RM.rows RM.rowN RM.sortOf RM.sizeOf RM.numbers RM.holdsWhat RM.holdsWhich RM.holdsMany RM.bodies RM.ran RM.actKind RM.actN RM.actA RM.isParted)) hF (ctX9_isOne l D K jM aM RM p1 o_3 ho_3 H.size) (cwV 1 hts gX9_bestOf_X9_isOne rfl rfl rfl hdX9_isOne ⟨Nat.le_of_ble_eq_true rfl, Nat.le_of_ble_eq_true rfl⟩) hK hP hD hS hA [0, 1, 2, 3, 4, 5, 6, 7, 8, 9, 10, 11, 12, 13, 14, 15] [] rfl rfl (by decide) (by decide) (by decide) [0, 1, 2, 3, 4, 5, 6, 7, 8, 9, 10, 11, 12, 13, 14, 15] rfl (by decide) (va_recv hK hP (ci := 9) (q0 := 0) rfl rfl) rfl hl.1 rfl (Nat.le_of_ble_eq_true rfl) dX9_bestOf_9 ⟨Nat.zero_le _, Nat.zero_le _⟩ (fun H locs hP hD hS => ?_)
    refine lv_if_ne (tgt := 17) hx hb dX9_bestOf_12 (by decide) (fun c_4 => ?_) (fun c_4 => ?_)
    · replace hf := ht_f c_4 hf
      refine lv_aload_n hx hb dX9_bestOf_17 rfl (lv_at hl 0 rfl) ?_
      refine lv_iload_n hx hb dX9_bestOf_18 rfl (lv_at hl 1 rfl) ?_
      obtain ⟨o_5, ho_5, hf⟩ := ht_bn_ob hf
      refine ht_callVv (rest := []) (As := [.int p0]) (wc := (wMo K jM aM RM.s RM.held RM.aside RM.before RM.isHeld RM.tape RM.taped RM.token RM.frm RM.to RM.value RM.isWrong RM.unpaired RM.bestSound RM.bestWay RM.rows RM.rowN RM.sortOf RM.sizeOf RM.numbers RM.holdsWhat RM.holdsWhich RM.holdsMany RM.bodies RM.ran RM.actKind RM.actN RM.actA RM.isParted)) (wr := []) (w1 := (wMo K jM aM o_5.1 RM.held o_5.2.1 RM.before RM.isHeld RM.tape RM.taped RM.token RM.frm RM.to RM.value RM.isWrong o_5.2.2.1 o_5.2.2.2.1 o_5.2.2.2.2 RM.rows RM.rowN RM.sortOf RM.sizeOf RM.numbers RM.holdsWhat RM.holdsWhich RM.holdsMany RM.bodies RM.ran RM.actKind RM.actN RM.actA RM.isParted)) (w2 := (wMo K jM aM o_5.1 RM.held o_5.2.1 RM.before RM.isHeld RM.tape RM.taped RM.token RM.frm RM.to RM.value RM.isWrong o_5.2.2.1 o_5.2.2.2.1 o_5.2.2.2.2 RM.rows RM.rowN RM.sortOf RM.sizeOf RM.numbers RM.holdsWhat RM.holdsWhich RM.holdsMany RM.bodies RM.ran RM.actKind RM.actN RM.actA RM.isParted)) hF (ctX9_findsBest l D K jM aM RM p0 o_5 ho_5 H.size) (cwV 1 hts gX9_bestOf_X9_findsBest rfl rfl rfl hdX9_findsBest ⟨Nat.le_of_ble_eq_true rfl, Nat.le_of_ble_eq_true rfl⟩) hK hP hD hS hA [0, 1, 2, 3, 4, 5, 6, 7, 8, 9, 10, 11, 12, 13, 14, 15] [] rfl rfl (by decide) (by decide) (by decide) [0, 1, 2, 3, 4, 5, 6, 7, 8, 9, 10, 11, 12, 13, 14, 15] rfl (by decide) (va_recv hK hP (ci := 9) (q0 := 0) rfl rfl) rfl hl.1 rfl (Nat.le_of_ble_eq_true rfl) dX9_bestOf_19 ⟨Nat.zero_le _, Nat.zero_le _⟩ (fun H locs hP hD hS => ?_)
      refine lv_aload_n hx hb dX9_bestOf_22 rfl (lv_at hl 0 rfl) ?_
      refine va_get (D := D) (ci := 9) (v := .ref (aM 6)) (C := RX9) (T := TX9) (N := 29) hx hb hts iw9 hown hK hP 0 rfl rfl 14 (by decide) kw1 (fun _ h9 => h9) rfl dX9_bestOf_23 ?_
      refine lv_iload_n hx hb dX9_bestOf_26 rfl (lv_at hl 2 rfl) ?_
      obtain ⟨g_6, hf⟩ := ht_gd_ob hf
      refine va_iald hx hb hK hP 7 1 rfl rfl (ht_ix_in g_6) dX9_bestOf_27 ?_
      have ho := Option.some.inj hf
      subst ho; subst hQ
      exact ht_iret hx hb hr hlk rfl hK hP hD hS dX9_bestOf_28
    · replace hf := ht_t c_4 hf
      refine lv_iconst (v := -1) hx hb dX9_bestOf_15 (by decide) ?_
      have ho := Option.some.inj hf
      subst ho; subst hQ
      exact ht_iret hx hb hr hlk rfl hK hP hD hS dX9_bestOf_16
abbrev rmX9_isTold : Room := { frames := 4, cells := 0, slots := 0, locals := 93 }
theorem hdX9_isTold : yX9_isTold.cls = RX9 ∧ yX9_isTold.cls ≠ "java/lang/invoke/MethodHandle" ∧ yX9_isTold.cls ≠ "java/lang/invoke/VarHandle" ∧ (parseMethodDescriptor yX9_isTold.desc).map (fun d => d.parameters.length) = some 2 := by decide +kernel
def fX9_isTold_b86 (RM : ModV) (x3 : Int32) (vM_s : AI) (vM_aside : AI) : Option (Int32 × AI × AI) := ht_bn (fX9_copyRow vM_aside vM_s) (fun o_1 => ht_gd (ht_bz x3) (some (x3, o_1, vM_aside)))
def fX9_isTold_b79 (RM : ModV) (k16 : Int32 → Int32 → Int32 → Int32 → AI → AI → Option (Int32 × AI × AI)) (x1 : Int32) (x2 : Int32) (x4 : Int32) (t0 : Int32) (vM_s : AI) (vM_aside : AI) : Option (Int32 × AI × AI) := ht_nm (x4 + (1 : Int32)) (fun x4_3 => k16 x1 x2 t0 x4_3 vM_s vM_aside)
def fX9_isTold_b74 (RM : ModV) (k16 : Int32 → Int32 → Int32 → Int32 → AI → AI → Option (Int32 × AI × AI)) (x1 : Int32) (x2 : Int32) (x4 : Int32) (vM_s : AI) (vM_aside : AI) : Option (Int32 × AI × AI) := fX9_isTold_b79 RM k16 x1 x2 x4 (1 : Int32) vM_s vM_aside
def fX9_isTold_b16 (RM : ModV) (k16 : Int32 → Int32 → Int32 → Int32 → AI → AI → Option (Int32 × AI × AI)) (x1 : Int32) (x2 : Int32) (x3 : Int32) (x4 : Int32) (vM_s : AI) (vM_aside : AI) : Option (Int32 × AI × AI) := ht_gd (ht_ix x1 4) (if (RM.sizeOf x1.toNatClampNeg) ≤ x4 then (fX9_isTold_b86 RM x3 vM_s vM_aside) else (if x3 = 0 then (fX9_isTold_b86 RM x3 vM_s vM_aside) else (ht_bn (fX9_goesOn (vM_s, RM.held, vM_aside, RM.before, RM.isHeld, RM.tape, RM.taped, RM.token, RM.frm, RM.to, RM.value, RM.isWrong, RM.unpaired, RM.bestSound, RM.bestWay, RM.rows, RM.rowN, RM.sortOf, RM.sizeOf, RM.numbers, RM.holdsWhat, RM.holdsWhich, RM.holdsMany, RM.bodies, RM.ran, RM.actKind, RM.actN, RM.actA, RM.isParted)) (fun o_7 => ht_nm o_7.1 (fun x5_8 => ht_gd (ht_ix (((40 : Int32) * x1) + x4) 160) (if (RM.numbers (((40 : Int32) * x1) + x4).toNatClampNeg) = (-1 : Int32) then (fX9_isTold_b74 RM k16 x1 x2 x4 o_7.2 vM_aside) else (ht_gd (ht_ix (((40 : Int32) * x1) + x4) 160) (ht_bn (fX9_its (o_7.2, RM.held, vM_aside, RM.before, RM.isHeld, RM.tape, RM.taped, RM.token, RM.frm, RM.to, RM.value, RM.isWrong, RM.unpaired, RM.bestSound, RM.bestWay, RM.rows, RM.rowN, RM.sortOf, RM.sizeOf, RM.numbers, RM.holdsWhat, RM.holdsWhich, RM.holdsMany, RM.bodies, RM.ran, RM.actKind, RM.actN, RM.actA, RM.isParted) x2 (1 : Int32)) (fun o_12 => if (RM.numbers (((40 : Int32) * x1) + x4).toNatClampNeg) = o_12 then (fX9_isTold_b74 RM k16 x1 x2 x4 o_7.2 vM_aside) else (fX9_isTold_b79 RM k16 x1 x2 x4 (0 : Int32) o_7.2 vM_aside))))))))))
def fX9_isTold (RM : ModV) (p0 : Int32) (p1 : Int32) : Option (Int32 × AI × AI) := ht_bn (fX9_copyRow RM.s RM.aside) (fun o_14 => ht_lp6 (fX9_isTold_b16 RM) FU p0 p1 (1 : Int32) (0 : Int32) RM.s o_14)
set_option maxHeartbeats 1000000 in
set_option maxRecDepth 100000 in
theorem ctX9_isTold (l : Launch) (D : va_G) (K : Nat → ClassId) (jM : Nat) (aM : Nat → Nat) (RM : ModV) (p0 : Int32) (p1 : Int32) (o : (Int32 × AI × AI)) (hf : fX9_isTold RM p0 p1 = some o) (sz : Nat) : Met l yX9_isTold wsX9_isTold rmX9_isTold (ht_Pre D K [.ref jM, .int p0, .int p1] (wMo K jM aM RM.s RM.held RM.aside RM.before RM.isHeld RM.tape RM.taped RM.token RM.frm RM.to RM.value RM.isWrong RM.unpaired RM.bestSound RM.bestWay RM.rows RM.rowN RM.sortOf RM.sizeOf RM.numbers RM.holdsWhat RM.holdsWhich RM.holdsMany RM.bodies RM.ran RM.actKind RM.actN RM.actA RM.isParted) sz) (ht_Qi D K (wMo K jM aM o.2.1 RM.held o.2.2 RM.before RM.isHeld RM.tape RM.taped RM.token RM.frm RM.to RM.value RM.isWrong RM.unpaired RM.bestSound RM.bestWay RM.rows RM.rowN RM.sortOf RM.sizeOf RM.numbers RM.holdsWhat RM.holdsWhich RM.holdsMany RM.bodies RM.ran RM.actKind RM.actN RM.actA RM.isParted) o.1 (va_A (wMo K jM aM RM.s RM.held RM.aside RM.before RM.isHeld RM.tape RM.taped RM.token RM.frm RM.to RM.value RM.isWrong RM.unpaired RM.bestSound RM.bestWay RM.rows RM.rowN RM.sortOf RM.sizeOf RM.numbers RM.holdsWhat RM.holdsWhich RM.holdsMany RM.bodies RM.ran RM.actKind RM.actN RM.actA RM.isParted) sz)) 0 0 (va_A (wMo K jM aM RM.s RM.held RM.aside RM.before RM.isHeld RM.tape RM.taped RM.token RM.frm RM.to RM.value RM.isWrong RM.unpaired RM.bestSound RM.bestWay RM.rows RM.rowN RM.sortOf RM.sizeOf RM.numbers RM.holdsWhat RM.holdsWhich RM.holdsMany RM.bodies RM.ran RM.actKind RM.actN RM.actA RM.isParted) sz) := by
  refine ht_enter (Qf := ht_Qi D K (wMo K jM aM o.2.1 RM.held o.2.2 RM.before RM.isHeld RM.tape RM.taped RM.token RM.frm RM.to RM.value RM.isWrong RM.unpaired RM.bestSound RM.bestWay RM.rows RM.rowN RM.sortOf RM.sizeOf RM.numbers RM.holdsWhat RM.holdsWhich RM.holdsMany RM.bodies RM.ran RM.actKind RM.actN RM.actA RM.isParted) o.1) (cc := cX9_isTold) (maxL := 6) (rt := (some .boolean)) (by decide) rfl (Nat.le_of_ble_eq_true rfl) ?_ sz
  intro p e s m below meth c A Q H locs ls hQ hx hb hr hlk hmn hml hown hts hA hK hP hD hS hl
  have hown : s.vm.findClass RX9 = some m.cls := hown
  have hF : CallFix p m c cX9_isTold 6 s ([.ref jM, .int p0, .int p1] : List Value).toArray wsX9_isTold RX9 := ⟨hx, hb, hml, hown, hts⟩
  have hl : lv_has ls 6 [(0, .ref jM), (1, .int p0), (2, .int p1)] := hl
  have iw9 : ∀ w ∈ u_ws RX9 TX9 29, w ∈ wsX9_isTold := by decide +kernel
  have kw1 := hts (.fieldLink RX9 16 "HeldTonguesModel" "aside" "[I") (by decide +kernel)
  have kw2 := hts (.fieldLink RX9 7 "HeldTonguesModel" "s" "[I") (by decide +kernel)
  have kw3 := hts (.fieldLink RX9 37 "HeldTonguesModel" "sizeOf" "[I") (by decide +kernel)
  have kw4 := hts (.fieldLink RX9 40 "HeldTonguesModel" "numbers" "[I") (by decide +kernel)
  have b86 : ∀ (x3 : Int32) (vM_s : AI) (vM_aside : AI) (H : Heap) (locs : List Loc) (ls : Array Slot), fX9_isTold_b86 RM x3 vM_s vM_aside = some o → va_P D vwCl (wMo K jM aM vM_s RM.held vM_aside RM.before RM.isHeld RM.tape RM.taped RM.token RM.frm RM.to RM.value RM.isWrong RM.unpaired RM.bestSound RM.bestWay RM.rows RM.rowN RM.sortOf RM.sizeOf RM.numbers RM.holdsWhat RM.holdsWhich RM.holdsMany RM.bodies RM.ran RM.actKind RM.actN RM.actA RM.isParted) H → va_D A (wMo K jM aM vM_s RM.held vM_aside RM.before RM.isHeld RM.tape RM.taped RM.token RM.frm RM.to RM.value RM.isWrong RM.unpaired RM.bestSound RM.bestWay RM.rows RM.rowN RM.sortOf RM.sizeOf RM.numbers RM.holdsWhat RM.holdsWhich RM.holdsMany RM.bodies RM.ran RM.actKind RM.actN RM.actA RM.isParted) → va_S A s.heap H locs → lv_has ls 6 [(0, .ref jM), (3, .int x3)] → W p l e (headSpec wsX9_isTold rmX9_isTold).room s m ([.ref jM, .int p0, .int p1] : List Value).toArray below meth c H locs 0 0 Q (F0 m 86 ls []) := by
    intro x3 vM_s vM_aside H locs ls hf hP hD hS hl
    delta fX9_isTold_b86 at hf
    refine lv_aload_n hx hb dX9_isTold_86 rfl (lv_at hl 0 rfl) ?_
    refine va_get (D := D) (ci := 9) (v := .ref (aM 2)) (C := RX9) (T := TX9) (N := 29) hx hb hts iw9 hown hK hP 0 rfl rfl 2 (by decide) kw1 (fun _ h9 => h9) rfl dX9_isTold_87 ?_
    refine lv_aload_n hx hb dX9_isTold_90 rfl (lv_at hl 0 rfl) ?_
    refine va_get (D := D) (ci := 9) (v := .ref (aM 0)) (C := RX9) (T := TX9) (N := 29) hx hb hts iw9 hown hK hP 0 rfl rfl 0 (by decide) kw2 (fun _ h9 => h9) rfl dX9_isTold_91 ?_
    obtain ⟨o_1, ho_1, hf⟩ := ht_bn_ob hf
    refine ht_callSv (rest := []) (As := [.ref (aM 2), .ref (aM 0)]) (wc := (wAr K 57 (aM 2) vM_aside ++ (wAr K 57 (aM 0) vM_s))) (wr := ([(jM, .inr (9, [.ref (aM 0), .ref (aM 1), .ref (aM 2), .ref (aM 3), .int RM.isHeld, .ref (aM 4), .int RM.taped, .int RM.token, .int RM.frm, .int RM.to, .int RM.value, .int RM.isWrong, .ref (aM 5), .int RM.bestSound, .ref (aM 6), .ref (aM 7), .int RM.rowN, .ref (aM 8), .ref (aM 9), .ref (aM 10), .ref (aM 11), .ref (aM 12), .ref (aM 13), .ref (aM 14), .int RM.ran, .int RM.actKind, .int RM.actN, .int RM.actA, .int RM.isParted]))] ++ ([(aM 1, .inl (K 1, 57, .inl RM.held))] ++ ([(aM 3, .inl (K 1, 57, .inl RM.before))] ++ ([(aM 4, .inl (K 1, 200, .inl RM.tape))] ++ ([(aM 5, .inl (K 1, 57, .inl RM.unpaired))] ++ ([(aM 6, .inl (K 1, 8, .inl RM.bestWay))] ++ ([(aM 7, .inl (K 1, 30, .inl RM.rows))] ++ ([(aM 8, .inl (K 1, 4, .inl RM.sortOf))] ++ ([(aM 9, .inl (K 1, 4, .inl RM.sizeOf))] ++ ([(aM 10, .inl (K 1, 160, .inl RM.numbers))] ++ ([(aM 11, .inl (K 1, 4, .inl RM.holdsWhat))] ++ ([(aM 12, .inl (K 1, 4, .inl RM.holdsWhich))] ++ ([(aM 13, .inl (K 1, 4, .inl RM.holdsMany))] ++ ([(aM 14, .inl (K 1, 30, .inl RM.bodies))]))))))))))))))) (w1 := (wAr K 57 (aM 2) vM_aside ++ (wAr K 57 (aM 0) o_1))) (w2 := (wMo K jM aM o_1 RM.held vM_aside RM.before RM.isHeld RM.tape RM.taped RM.token RM.frm RM.to RM.value RM.isWrong RM.unpaired RM.bestSound RM.bestWay RM.rows RM.rowN RM.sortOf RM.sizeOf RM.numbers RM.holdsWhat RM.holdsWhich RM.holdsMany RM.bodies RM.ran RM.actKind RM.actN RM.actA RM.isParted)) hF (ctX9_copyRow l D K (aM 2) (aM 0) vM_aside vM_s o_1 ho_1 H.size) (va_cwS 2 hts gX9_isTold_X9_copyRow rfl rfl rfl hdX9_copyRow ⟨Nat.le_of_ble_eq_true rfl, Nat.le_of_ble_eq_true rfl⟩) hK hP hD hS hA [3, 1] [0, 2, 4, 5, 6, 7, 8, 9, 10, 11, 12, 13, 14, 15] rfl rfl (by decide) (by decide) (by decide) [0, 15, 1, 14, 2, 3, 4, 5, 6, 7, 8, 9, 10, 11, 12, 13] rfl (by decide) rfl hl.1 rfl (Nat.le_of_ble_eq_true rfl) dX9_isTold_94 ⟨Nat.zero_le _, Nat.zero_le _⟩ (fun H locs hP hD hS => ?_)
    refine lv_iload_n hx hb dX9_isTold_97 rfl (lv_at hl 1 rfl) ?_
    obtain ⟨g_2, hf⟩ := ht_gd_ob hf
    have ho := Option.some.inj hf
    subst ho; subst hQ
    exact ht_iret hx hb hr hlk (ht_bz_nar g_2) hK hP hD hS dX9_isTold_98
  have b79 : ∀ (k16 : Int32 → Int32 → Int32 → Int32 → AI → AI → Option (Int32 × AI × AI)) (hk16 : ∀ (x1 : Int32) (x2 : Int32) (x3 : Int32) (x4 : Int32) (vM_s : AI) (vM_aside : AI) (H : Heap) (locs : List Loc) (ls : Array Slot), k16 x1 x2 x3 x4 vM_s vM_aside = some o → va_P D vwCl (wMo K jM aM vM_s RM.held vM_aside RM.before RM.isHeld RM.tape RM.taped RM.token RM.frm RM.to RM.value RM.isWrong RM.unpaired RM.bestSound RM.bestWay RM.rows RM.rowN RM.sortOf RM.sizeOf RM.numbers RM.holdsWhat RM.holdsWhich RM.holdsMany RM.bodies RM.ran RM.actKind RM.actN RM.actA RM.isParted) H → va_D A (wMo K jM aM vM_s RM.held vM_aside RM.before RM.isHeld RM.tape RM.taped RM.token RM.frm RM.to RM.value RM.isWrong RM.unpaired RM.bestSound RM.bestWay RM.rows RM.rowN RM.sortOf RM.sizeOf RM.numbers RM.holdsWhat RM.holdsWhich RM.holdsMany RM.bodies RM.ran RM.actKind RM.actN RM.actA RM.isParted) → va_S A s.heap H locs → lv_has ls 6 [(0, .ref jM), (1, .int x1), (2, .int x2), (3, .int x3), (4, .int x4)] → W p l e (headSpec wsX9_isTold rmX9_isTold).room s m ([.ref jM, .int p0, .int p1] : List Value).toArray below meth c H locs 0 0 Q (F0 m 16 ls [])) (x1 : Int32) (x2 : Int32) (x4 : Int32) (t0 : Int32) (vM_s : AI) (vM_aside : AI) (H : Heap) (locs : List Loc) (ls : Array Slot), fX9_isTold_b79 RM k16 x1 x2 x4 t0 vM_s vM_aside = some o → va_P D vwCl (wMo K jM aM vM_s RM.held vM_aside RM.before RM.isHeld RM.tape RM.taped RM.token RM.frm RM.to RM.value RM.isWrong RM.unpaired RM.bestSound RM.bestWay RM.rows RM.rowN RM.sortOf RM.sizeOf RM.numbers RM.holdsWhat RM.holdsWhich RM.holdsMany RM.bodies RM.ran RM.actKind RM.actN RM.actA RM.isParted) H → va_D A (wMo K jM aM vM_s RM.held vM_aside RM.before RM.isHeld RM.tape RM.taped RM.token RM.frm RM.to RM.value RM.isWrong RM.unpaired RM.bestSound RM.bestWay RM.rows RM.rowN RM.sortOf RM.sizeOf RM.numbers RM.holdsWhat RM.holdsWhich RM.holdsMany RM.bodies RM.ran RM.actKind RM.actN RM.actA RM.isParted) → va_S A s.heap H locs → lv_has ls 6 [(0, .ref jM), (1, .int x1), (2, .int x2), (4, .int x4)] → W p l e (headSpec wsX9_isTold rmX9_isTold).room s m ([.ref jM, .int p0, .int p1] : List Value).toArray below meth c H locs 0 0 Q (F0 m 79 ls [.int t0]) := by
    intro k16 hk16 x1 x2 x4 t0 vM_s vM_aside H locs ls hf hP hD hS hl
    delta fX9_isTold_b79 at hf
    refine lv_istore_n (lv' := [(3, .int t0), (0, .ref jM), (1, .int x1), (2, .int x2), (4, .int x4)]) hx hb dX9_isTold_79 rfl hl (by decide) rfl (fun ls hl => ?_)
    obtain ⟨x4_3, ex4_3, hf⟩ := ht_nm_ob hf
    refine lv_iinc (v := x4_3) (lv' := [(4, .int x4_3), (3, .int t0), (0, .ref jM), (1, .int x1), (2, .int x2)]) hx hb dX9_isTold_80 hl (k := 4) rfl (by rw [ex4_3]; rfl) (by decide) rfl (fun ls hl => ?_)
    refine lv_goto (tgt := 16) hx hb dX9_isTold_83 (by decide) ?_
    exact hk16 x1 x2 t0 x4_3 vM_s vM_aside _ _ _ hf hP hD hS (lv_sub hl [2, 3, 4, 1, 0] rfl)
  have b74 : ∀ (k16 : Int32 → Int32 → Int32 → Int32 → AI → AI → Option (Int32 × AI × AI)) (hk16 : ∀ (x1 : Int32) (x2 : Int32) (x3 : Int32) (x4 : Int32) (vM_s : AI) (vM_aside : AI) (H : Heap) (locs : List Loc) (ls : Array Slot), k16 x1 x2 x3 x4 vM_s vM_aside = some o → va_P D vwCl (wMo K jM aM vM_s RM.held vM_aside RM.before RM.isHeld RM.tape RM.taped RM.token RM.frm RM.to RM.value RM.isWrong RM.unpaired RM.bestSound RM.bestWay RM.rows RM.rowN RM.sortOf RM.sizeOf RM.numbers RM.holdsWhat RM.holdsWhich RM.holdsMany RM.bodies RM.ran RM.actKind RM.actN RM.actA RM.isParted) H → va_D A (wMo K jM aM vM_s RM.held vM_aside RM.before RM.isHeld RM.tape RM.taped RM.token RM.frm RM.to RM.value RM.isWrong RM.unpaired RM.bestSound RM.bestWay RM.rows RM.rowN RM.sortOf RM.sizeOf RM.numbers RM.holdsWhat RM.holdsWhich RM.holdsMany RM.bodies RM.ran RM.actKind RM.actN RM.actA RM.isParted) → va_S A s.heap H locs → lv_has ls 6 [(0, .ref jM), (1, .int x1), (2, .int x2), (3, .int x3), (4, .int x4)] → W p l e (headSpec wsX9_isTold rmX9_isTold).room s m ([.ref jM, .int p0, .int p1] : List Value).toArray below meth c H locs 0 0 Q (F0 m 16 ls [])) (x1 : Int32) (x2 : Int32) (x4 : Int32) (vM_s : AI) (vM_aside : AI) (H : Heap) (locs : List Loc) (ls : Array Slot), fX9_isTold_b74 RM k16 x1 x2 x4 vM_s vM_aside = some o → va_P D vwCl (wMo K jM aM vM_s RM.held vM_aside RM.before RM.isHeld RM.tape RM.taped RM.token RM.frm RM.to RM.value RM.isWrong RM.unpaired RM.bestSound RM.bestWay RM.rows RM.rowN RM.sortOf RM.sizeOf RM.numbers RM.holdsWhat RM.holdsWhich RM.holdsMany RM.bodies RM.ran RM.actKind RM.actN RM.actA RM.isParted) H → va_D A (wMo K jM aM vM_s RM.held vM_aside RM.before RM.isHeld RM.tape RM.taped RM.token RM.frm RM.to RM.value RM.isWrong RM.unpaired RM.bestSound RM.bestWay RM.rows RM.rowN RM.sortOf RM.sizeOf RM.numbers RM.holdsWhat RM.holdsWhich RM.holdsMany RM.bodies RM.ran RM.actKind RM.actN RM.actA RM.isParted) → va_S A s.heap H locs → lv_has ls 6 [(0, .ref jM), (1, .int x1), (2, .int x2), (4, .int x4)] → W p l e (headSpec wsX9_isTold rmX9_isTold).room s m ([.ref jM, .int p0, .int p1] : List Value).toArray below meth c H locs 0 0 Q (F0 m 74 ls []) := by
    intro k16 hk16 x1 x2 x4 vM_s vM_aside H locs ls hf hP hD hS hl
    delta fX9_isTold_b74 at hf
    refine lv_iconst (v := 1) hx hb dX9_isTold_74 (by decide) ?_
    refine lv_goto (tgt := 79) hx hb dX9_isTold_75 (by decide) ?_
    exact b79 _ hk16 x1 x2 x4 (1 : Int32) vM_s vM_aside _ _ _ hf hP hD hS hl
  have b16 : ∀ (n : Nat) (x1 : Int32) (x2 : Int32) (x3 : Int32) (x4 : Int32) (vM_s : AI) (vM_aside : AI) (H : Heap) (locs : List Loc) (ls : Array Slot), ht_lp6 (fX9_isTold_b16 RM) n x1 x2 x3 x4 vM_s vM_aside = some o → va_P D vwCl (wMo K jM aM vM_s RM.held vM_aside RM.before RM.isHeld RM.tape RM.taped RM.token RM.frm RM.to RM.value RM.isWrong RM.unpaired RM.bestSound RM.bestWay RM.rows RM.rowN RM.sortOf RM.sizeOf RM.numbers RM.holdsWhat RM.holdsWhich RM.holdsMany RM.bodies RM.ran RM.actKind RM.actN RM.actA RM.isParted) H → va_D A (wMo K jM aM vM_s RM.held vM_aside RM.before RM.isHeld RM.tape RM.taped RM.token RM.frm RM.to RM.value RM.isWrong RM.unpaired RM.bestSound RM.bestWay RM.rows RM.rowN RM.sortOf RM.sizeOf RM.numbers RM.holdsWhat RM.holdsWhich RM.holdsMany RM.bodies RM.ran RM.actKind RM.actN RM.actA RM.isParted) → va_S A s.heap H locs → lv_has ls 6 [(0, .ref jM), (1, .int x1), (2, .int x2), (3, .int x3), (4, .int x4)] → W p l e (headSpec wsX9_isTold rmX9_isTold).room s m ([.ref jM, .int p0, .int p1] : List Value).toArray below meth c H locs 0 0 Q (F0 m 16 ls []) := by
    intro n
    induction n with
    | zero =>
      intro x1 x2 x3 x4 vM_s vM_aside H locs ls hf hP hD hS hl
      cases (show (none : Option (Int32 × AI × AI)) = some o from hf)
    | succ n hk16 =>
      intro x1 x2 x3 x4 vM_s vM_aside H locs ls hf hP hD hS hl
      replace hf : fX9_isTold_b16 RM (ht_lp6 (fX9_isTold_b16 RM) n) x1 x2 x3 x4 vM_s vM_aside = some o := hf
      delta fX9_isTold_b16 at hf
      refine lv_iload hx hb dX9_isTold_16 (lv_at hl 4 rfl) ?_
      refine lv_aload_n hx hb dX9_isTold_18 rfl (lv_at hl 0 rfl) ?_
      refine va_get (D := D) (ci := 9) (v := .ref (aM 9)) (C := RX9) (T := TX9) (N := 29) hx hb hts iw9 hown hK hP 0 rfl rfl 18 (by decide) kw3 (fun _ h9 => h9) rfl dX9_isTold_19 ?_
      refine lv_iload_n hx hb dX9_isTold_22 rfl (lv_at hl 1 rfl) ?_
      obtain ⟨g_4, hf⟩ := ht_gd_ob hf
      refine va_iald hx hb hK hP 10 1 rfl rfl (ht_ix_in g_4) dX9_isTold_23 ?_
      refine lv_icmp_ge (tgt := 86) hx hb dX9_isTold_24 (by decide) (fun c_5 => ?_) (fun c_5 => ?_)
      · replace hf := ht_t c_5 hf
        exact b86  x3 vM_s vM_aside _ _ _ hf hP hD hS (lv_sub hl [0, 3] rfl)
      · replace hf := ht_f c_5 hf
        refine lv_iload_n hx hb dX9_isTold_27 rfl (lv_at hl 3 rfl) ?_
        refine lv_if_eq (tgt := 86) hx hb dX9_isTold_28 (by decide) (fun c_6 => ?_) (fun c_6 => ?_)
        · replace hf := ht_t c_6 hf
          exact b86  x3 vM_s vM_aside _ _ _ hf hP hD hS (lv_sub hl [0, 3] rfl)
        · replace hf := ht_f c_6 hf
          refine lv_aload_n hx hb dX9_isTold_31 rfl (lv_at hl 0 rfl) ?_
          obtain ⟨o_7, ho_7, hf⟩ := ht_bn_ob hf
          refine ht_callVi (r := o_7.1) (rest := []) (As := []) (wc := (wMo K jM aM vM_s RM.held vM_aside RM.before RM.isHeld RM.tape RM.taped RM.token RM.frm RM.to RM.value RM.isWrong RM.unpaired RM.bestSound RM.bestWay RM.rows RM.rowN RM.sortOf RM.sizeOf RM.numbers RM.holdsWhat RM.holdsWhich RM.holdsMany RM.bodies RM.ran RM.actKind RM.actN RM.actA RM.isParted)) (wr := []) (w1 := (wMo K jM aM o_7.2 RM.held vM_aside RM.before RM.isHeld RM.tape RM.taped RM.token RM.frm RM.to RM.value RM.isWrong RM.unpaired RM.bestSound RM.bestWay RM.rows RM.rowN RM.sortOf RM.sizeOf RM.numbers RM.holdsWhat RM.holdsWhich RM.holdsMany RM.bodies RM.ran RM.actKind RM.actN RM.actA RM.isParted)) (w2 := (wMo K jM aM o_7.2 RM.held vM_aside RM.before RM.isHeld RM.tape RM.taped RM.token RM.frm RM.to RM.value RM.isWrong RM.unpaired RM.bestSound RM.bestWay RM.rows RM.rowN RM.sortOf RM.sizeOf RM.numbers RM.holdsWhat RM.holdsWhich RM.holdsMany RM.bodies RM.ran RM.actKind RM.actN RM.actA RM.isParted)) hF (ctX9_goesOn l D K jM aM (vM_s, RM.held, vM_aside, RM.before, RM.isHeld, RM.tape, RM.taped, RM.token, RM.frm, RM.to, RM.value, RM.isWrong, RM.unpaired, RM.bestSound, RM.bestWay, RM.rows, RM.rowN, RM.sortOf, RM.sizeOf, RM.numbers, RM.holdsWhat, RM.holdsWhich, RM.holdsMany, RM.bodies, RM.ran, RM.actKind, RM.actN, RM.actA, RM.isParted) o_7 ho_7 H.size) (cwV 0 hts gX9_isTold_X9_goesOn rfl rfl rfl hdX9_goesOn ⟨Nat.le_of_ble_eq_true rfl, Nat.le_of_ble_eq_true rfl⟩) hK hP hD hS hA [0, 1, 2, 3, 4, 5, 6, 7, 8, 9, 10, 11, 12, 13, 14, 15] [] rfl rfl (by decide) (by decide) (by decide) [0, 1, 2, 3, 4, 5, 6, 7, 8, 9, 10, 11, 12, 13, 14, 15] rfl (by decide) (va_recv hK hP (ci := 9) (q0 := 0) rfl rfl) rfl hl.1 rfl (Nat.le_of_ble_eq_true rfl) dX9_isTold_32 ⟨Nat.zero_le _, Nat.zero_le _⟩ (fun H locs hP hD hS => ?_)
          obtain ⟨x5_8, ex5_8, hf⟩ := ht_nm_ob hf
          rw [← ex5_8]
          refine lv_istore (lv' := [(5, .int x5_8), (0, .ref jM), (1, .int x1), (2, .int x2), (3, .int x3), (4, .int x4)]) hx hb dX9_isTold_35 hl (by decide) rfl (fun ls hl => ?_)
          refine lv_aload_n hx hb dX9_isTold_37 rfl (lv_at hl 1 rfl) ?_
          refine va_get (D := D) (ci := 9) (v := .ref (aM 10)) (C := RX9) (T := TX9) (N := 29) hx hb hts iw9 hown hK hP 0 rfl rfl 19 (by decide) kw4 (fun _ h9 => h9) rfl dX9_isTold_38 ?_
          refine lv_bipush (v := 40) hx hb dX9_isTold_41 (by decide) ?_
          refine lv_iload_n hx hb dX9_isTold_43 rfl (lv_at hl 2 rfl) ?_
          refine lv_imul hx hb dX9_isTold_44 ?_
          refine lv_iload hx hb dX9_isTold_45 (lv_at hl 5 rfl) ?_
          refine lv_iadd hx hb dX9_isTold_47 ?_
          obtain ⟨g_9, hf⟩ := ht_gd_ob hf
          refine va_iald hx hb hK hP 11 1 rfl rfl (ht_ix_in g_9) dX9_isTold_48 ?_
          refine lv_iconst (v := -1) hx hb dX9_isTold_49 (by decide) ?_
          refine lv_icmp_eq (tgt := 74) hx hb dX9_isTold_50 (by decide) (fun c_10 => ?_) (fun c_10 => ?_)
          · replace hf := ht_t c_10 hf
            exact b74 _ hk16 x1 x2 x4 o_7.2 vM_aside _ _ _ hf hP hD hS (lv_sub hl [1, 2, 3, 5] rfl)
          · replace hf := ht_f c_10 hf
            refine lv_aload_n hx hb dX9_isTold_53 rfl (lv_at hl 1 rfl) ?_
            refine va_get (D := D) (ci := 9) (v := .ref (aM 10)) (C := RX9) (T := TX9) (N := 29) hx hb hts iw9 hown hK hP 0 rfl rfl 19 (by decide) kw4 (fun _ h9 => h9) rfl dX9_isTold_54 ?_
            refine lv_bipush (v := 40) hx hb dX9_isTold_57 (by decide) ?_
            refine lv_iload_n hx hb dX9_isTold_59 rfl (lv_at hl 2 rfl) ?_
            refine lv_imul hx hb dX9_isTold_60 ?_
            refine lv_iload hx hb dX9_isTold_61 (lv_at hl 5 rfl) ?_
            refine lv_iadd hx hb dX9_isTold_63 ?_
            obtain ⟨g_11, hf⟩ := ht_gd_ob hf
            refine va_iald hx hb hK hP 11 1 rfl rfl (ht_ix_in g_11) dX9_isTold_64 ?_
            refine lv_aload_n hx hb dX9_isTold_65 rfl (lv_at hl 1 rfl) ?_
            refine lv_iload_n hx hb dX9_isTold_66 rfl (lv_at hl 3 rfl) ?_
            refine lv_iconst (v := 1) hx hb dX9_isTold_67 (by decide) ?_
            obtain ⟨o_12, ho_12, hf⟩ := ht_bn_ob hf
            refine ht_callVi (r := o_12) (rest := [.int (RM.numbers (((40 : Int32) * x1) + x4).toNatClampNeg)]) (As := [.int x2, .int (1 : Int32)]) (wc := (wMo K jM aM o_7.2 RM.held vM_aside RM.before RM.isHeld RM.tape RM.taped RM.token RM.frm RM.to RM.value RM.isWrong RM.unpaired RM.bestSound RM.bestWay RM.rows RM.rowN RM.sortOf RM.sizeOf RM.numbers RM.holdsWhat RM.holdsWhich RM.holdsMany RM.bodies RM.ran RM.actKind RM.actN RM.actA RM.isParted)) (wr := []) (w1 := (wMo K jM aM o_7.2 RM.held vM_aside RM.before RM.isHeld RM.tape RM.taped RM.token RM.frm RM.to RM.value RM.isWrong RM.unpaired RM.bestSound RM.bestWay RM.rows RM.rowN RM.sortOf RM.sizeOf RM.numbers RM.holdsWhat RM.holdsWhich RM.holdsMany RM.bodies RM.ran RM.actKind RM.actN RM.actA RM.isParted)) (w2 := (wMo K jM aM o_7.2 RM.held vM_aside RM.before RM.isHeld RM.tape RM.taped RM.token RM.frm RM.to RM.value RM.isWrong RM.unpaired RM.bestSound RM.bestWay RM.rows RM.rowN RM.sortOf RM.sizeOf RM.numbers RM.holdsWhat RM.holdsWhich RM.holdsMany RM.bodies RM.ran RM.actKind RM.actN RM.actA RM.isParted)) hF (ctX9_its l D K jM aM (o_7.2, RM.held, vM_aside, RM.before, RM.isHeld, RM.tape, RM.taped, RM.token, RM.frm, RM.to, RM.value, RM.isWrong, RM.unpaired, RM.bestSound, RM.bestWay, RM.rows, RM.rowN, RM.sortOf, RM.sizeOf, RM.numbers, RM.holdsWhat, RM.holdsWhich, RM.holdsMany, RM.bodies, RM.ran, RM.actKind, RM.actN, RM.actA, RM.isParted) x2 (1 : Int32) o_12 ho_12 H.size) (cwV 2 hts gX9_isTold_X9_its rfl rfl rfl hdX9_its ⟨Nat.le_of_ble_eq_true rfl, Nat.le_of_ble_eq_true rfl⟩) hK hP hD hS hA [0, 1, 2, 3, 4, 5, 6, 7, 8, 9, 10, 11, 12, 13, 14, 15] [] rfl rfl (by decide) (by decide) (by decide) [0, 1, 2, 3, 4, 5, 6, 7, 8, 9, 10, 11, 12, 13, 14, 15] rfl (by decide) (va_recv hK hP (ci := 9) (q0 := 0) rfl rfl) rfl hl.1 rfl (Nat.le_of_ble_eq_true rfl) dX9_isTold_68 ⟨Nat.zero_le _, Nat.zero_le _⟩ (fun H locs hP hD hS => ?_)
            refine lv_icmp_ne (tgt := 78) hx hb dX9_isTold_71 (by decide) (fun c_13 => ?_) (fun c_13 => ?_)
            · replace hf := ht_f c_13 hf
              refine lv_iconst (v := 0) hx hb dX9_isTold_78 (by decide) ?_
              exact b79 _ hk16 x1 x2 x4 (0 : Int32) o_7.2 vM_aside _ _ _ hf hP hD hS (lv_sub hl [1, 2, 3, 5] rfl)
            · replace hf := ht_t c_13 hf
              exact b74 _ hk16 x1 x2 x4 o_7.2 vM_aside _ _ _ hf hP hD hS (lv_sub hl [1, 2, 3, 5] rfl)
  delta fX9_isTold at hf
  refine lv_aload_n hx hb dX9_isTold_0 rfl (lv_at hl 0 rfl) ?_
  refine va_get (D := D) (ci := 9) (v := .ref (aM 0)) (C := RX9) (T := TX9) (N := 29) hx hb hts iw9 hown hK hP 0 rfl rfl 0 (by decide) kw2 (fun _ h9 => h9) rfl dX9_isTold_1 ?_
  refine lv_aload_n hx hb dX9_isTold_4 rfl (lv_at hl 0 rfl) ?_
  refine va_get (D := D) (ci := 9) (v := .ref (aM 2)) (C := RX9) (T := TX9) (N := 29) hx hb hts iw9 hown hK hP 0 rfl rfl 2 (by decide) kw1 (fun _ h9 => h9) rfl dX9_isTold_5 ?_
  obtain ⟨o_14, ho_14, hf⟩ := ht_bn_ob hf
  refine ht_callSv (rest := []) (As := [.ref (aM 0), .ref (aM 2)]) (wc := (wAr K 57 (aM 0) RM.s ++ (wAr K 57 (aM 2) RM.aside))) (wr := ([(jM, .inr (9, [.ref (aM 0), .ref (aM 1), .ref (aM 2), .ref (aM 3), .int RM.isHeld, .ref (aM 4), .int RM.taped, .int RM.token, .int RM.frm, .int RM.to, .int RM.value, .int RM.isWrong, .ref (aM 5), .int RM.bestSound, .ref (aM 6), .ref (aM 7), .int RM.rowN, .ref (aM 8), .ref (aM 9), .ref (aM 10), .ref (aM 11), .ref (aM 12), .ref (aM 13), .ref (aM 14), .int RM.ran, .int RM.actKind, .int RM.actN, .int RM.actA, .int RM.isParted]))] ++ ([(aM 1, .inl (K 1, 57, .inl RM.held))] ++ ([(aM 3, .inl (K 1, 57, .inl RM.before))] ++ ([(aM 4, .inl (K 1, 200, .inl RM.tape))] ++ ([(aM 5, .inl (K 1, 57, .inl RM.unpaired))] ++ ([(aM 6, .inl (K 1, 8, .inl RM.bestWay))] ++ ([(aM 7, .inl (K 1, 30, .inl RM.rows))] ++ ([(aM 8, .inl (K 1, 4, .inl RM.sortOf))] ++ ([(aM 9, .inl (K 1, 4, .inl RM.sizeOf))] ++ ([(aM 10, .inl (K 1, 160, .inl RM.numbers))] ++ ([(aM 11, .inl (K 1, 4, .inl RM.holdsWhat))] ++ ([(aM 12, .inl (K 1, 4, .inl RM.holdsWhich))] ++ ([(aM 13, .inl (K 1, 4, .inl RM.holdsMany))] ++ ([(aM 14, .inl (K 1, 30, .inl RM.bodies))]))))))))))))))) (w1 := (wAr K 57 (aM 0) RM.s ++ (wAr K 57 (aM 2) o_14))) (w2 := (wMo K jM aM RM.s RM.held o_14 RM.before RM.isHeld RM.tape RM.taped RM.token RM.frm RM.to RM.value RM.isWrong RM.unpaired RM.bestSound RM.bestWay RM.rows RM.rowN RM.sortOf RM.sizeOf RM.numbers RM.holdsWhat RM.holdsWhich RM.holdsMany RM.bodies RM.ran RM.actKind RM.actN RM.actA RM.isParted)) hF (ctX9_copyRow l D K (aM 0) (aM 2) RM.s RM.aside o_14 ho_14 H.size) (va_cwS 2 hts gX9_isTold_X9_copyRow rfl rfl rfl hdX9_copyRow ⟨Nat.le_of_ble_eq_true rfl, Nat.le_of_ble_eq_true rfl⟩) hK hP hD hS hA [1, 3] [0, 2, 4, 5, 6, 7, 8, 9, 10, 11, 12, 13, 14, 15] rfl rfl (by decide) (by decide) (by decide) [0, 14, 1, 15, 2, 3, 4, 5, 6, 7, 8, 9, 10, 11, 12, 13] rfl (by decide) rfl hl.1 rfl (Nat.le_of_ble_eq_true rfl) dX9_isTold_8 ⟨Nat.zero_le _, Nat.zero_le _⟩ (fun H locs hP hD hS => ?_)
  refine lv_iconst (v := 1) hx hb dX9_isTold_11 (by decide) ?_
  refine lv_istore_n (lv' := [(3, .int (1 : Int32)), (0, .ref jM), (1, .int p0), (2, .int p1)]) hx hb dX9_isTold_12 rfl hl (by decide) rfl (fun ls hl => ?_)
  refine lv_iconst (v := 0) hx hb dX9_isTold_13 (by decide) ?_
  refine lv_istore (lv' := [(4, .int (0 : Int32)), (3, .int (1 : Int32)), (0, .ref jM), (1, .int p0), (2, .int p1)]) hx hb dX9_isTold_14 hl (by decide) rfl (fun ls hl => ?_)
  exact b16  FU p0 p1 (1 : Int32) (0 : Int32) RM.s o_14 _ _ _ hf hP hD hS (lv_sub hl [2, 3, 4, 1, 0] rfl)
abbrev rmX9_fits : Room := { frames := 5, cells := 0, slots := 0, locals := 118 }
theorem hdX9_fits : yX9_fits.cls = RX9 ∧ yX9_fits.cls ≠ "java/lang/invoke/MethodHandle" ∧ yX9_fits.cls ≠ "java/lang/invoke/VarHandle" ∧ (parseMethodDescriptor yX9_fits.desc).map (fun d => d.parameters.length) = some 3 := by decide +kernel
def fX9_fits_b127 (RM : ModV) (x3 : Int32) (x4 : Int32) (x5 : Int32) (x6 : Int32) (x7 : Int32) (vM_s : AI) (vM_aside : AI) : Option (Int32 × AI × AI) := ht_gd (ht_ix x4 57) (ht_nm (upd vM_s x4.toNatClampNeg x5) (fun vM_s_2 => if x3 = 0 then (some (x6, vM_s_2, vM_aside)) else (some (x7, vM_s_2, vM_aside))))
def fX9_fits_b119 (RM : ModV) (k70 : Int32 → Int32 → Int32 → Int32 → Int32 → Int32 → Int32 → Int32 → AI → AI → Option (Int32 × AI × AI)) (x1 : Int32) (x2 : Int32) (x3 : Int32) (x4 : Int32) (x5 : Int32) (x6 : Int32) (x8 : Int32) (t0 : Int32) (vM_s : AI) (vM_aside : AI) : Option (Int32 × AI × AI) := ht_nm (x8 + (-1 : Int32)) (fun x8_4 => k70 x1 x2 x3 x4 x5 x6 t0 x8_4 vM_s vM_aside)
def fX9_fits_b104 (RM : ModV) (k70 : Int32 → Int32 → Int32 → Int32 → Int32 → Int32 → Int32 → Int32 → AI → AI → Option (Int32 × AI × AI)) (x1 : Int32) (x2 : Int32) (x3 : Int32) (x4 : Int32) (x5 : Int32) (x7 : Int32) (x8 : Int32) (x9 : Int32) (t0 : Int32) (t1 : Int32) (vM_s : AI) (vM_aside : AI) : Option (Int32 × AI × AI) := ht_nm (t0 + t1) (fun x6_5 => if x9 = 0 then (fX9_fits_b119 RM k70 x1 x2 x3 x4 x5 x6_5 x8 x7 vM_s vM_aside) else (fX9_fits_b119 RM k70 x1 x2 x3 x4 x5 x6_5 x8 x8 vM_s vM_aside))
def fX9_fits_b70 (RM : ModV) (k70 : Int32 → Int32 → Int32 → Int32 → Int32 → Int32 → Int32 → Int32 → AI → AI → Option (Int32 × AI × AI)) (x1 : Int32) (x2 : Int32) (x3 : Int32) (x4 : Int32) (x5 : Int32) (x6 : Int32) (x7 : Int32) (x8 : Int32) (vM_s : AI) (vM_aside : AI) : Option (Int32 × AI × AI) := if x8 < 0 then (fX9_fits_b127 RM x3 x4 x5 x6 x7 vM_s vM_aside) else (ht_gd (ht_ix x4 57) (ht_nm (upd vM_s x4.toNatClampNeg x8) (fun vM_s_9 => ht_bn (fX9_isTold (vM_s_9, RM.held, vM_aside, RM.before, RM.isHeld, RM.tape, RM.taped, RM.token, RM.frm, RM.to, RM.value, RM.isWrong, RM.unpaired, RM.bestSound, RM.bestWay, RM.rows, RM.rowN, RM.sortOf, RM.sizeOf, RM.numbers, RM.holdsWhat, RM.holdsWhich, RM.holdsMany, RM.bodies, RM.ran, RM.actKind, RM.actN, RM.actA, RM.isParted) x1 x2) (fun o_10 => ht_nm o_10.1 (fun x9_11 => if x9_11 = 0 then (fX9_fits_b104 RM k70 x1 x2 x3 x4 x5 x7 x8 x9_11 x6 (0 : Int32) o_10.2.1 o_10.2.2) else (fX9_fits_b104 RM k70 x1 x2 x3 x4 x5 x7 x8 x9_11 x6 (1 : Int32) o_10.2.1 o_10.2.2))))))
def fX9_fits (RM : ModV) (p0 : Int32) (p1 : Int32) (p2 : Int32) : Option (Int32 × AI × AI) := ht_bn (fX9_isSheet p0) (fun o_13 => if o_13 = 0 then (some ((-1 : Int32), RM.s, RM.aside)) else (ht_bn (fX9_isOne RM p1) (fun o_15 => if o_15 = 0 then (some ((-1 : Int32), RM.s, RM.aside)) else (ht_bn (fX9_isIn p2.toInt64 (0 : Int64) (1 : Int64)) (fun o_17 => if o_17 = 0 then (some ((-1 : Int32), RM.s, RM.aside)) else (ht_gd (ht_ix p0 4) (if 0 ≤ (RM.sortOf p0.toNatClampNeg) then (ht_nm (((9 : Int32) + ((6 : Int32) * p1)) + (3 : Int32)) (fun x4_21 => ht_gd (ht_ix x4_21 57) (ht_nm (RM.s x4_21.toNatClampNeg) (fun x5_23 => ht_lp10 (fX9_fits_b70 RM) FU p0 p1 p2 x4_21 x5_23 (0 : Int32) (-3 : Int32) (9 : Int32) RM.s RM.aside)))) else (some ((-11 : Int32), RM.s, RM.aside)))))))))
set_option maxHeartbeats 1000000 in
set_option maxRecDepth 100000 in
theorem ctX9_fits (l : Launch) (D : va_G) (K : Nat → ClassId) (jM : Nat) (aM : Nat → Nat) (RM : ModV) (p0 : Int32) (p1 : Int32) (p2 : Int32) (o : (Int32 × AI × AI)) (hf : fX9_fits RM p0 p1 p2 = some o) (sz : Nat) : Met l yX9_fits wsX9_fits rmX9_fits (ht_Pre D K [.ref jM, .int p0, .int p1, .int p2] (wMo K jM aM RM.s RM.held RM.aside RM.before RM.isHeld RM.tape RM.taped RM.token RM.frm RM.to RM.value RM.isWrong RM.unpaired RM.bestSound RM.bestWay RM.rows RM.rowN RM.sortOf RM.sizeOf RM.numbers RM.holdsWhat RM.holdsWhich RM.holdsMany RM.bodies RM.ran RM.actKind RM.actN RM.actA RM.isParted) sz) (ht_Qi D K (wMo K jM aM o.2.1 RM.held o.2.2 RM.before RM.isHeld RM.tape RM.taped RM.token RM.frm RM.to RM.value RM.isWrong RM.unpaired RM.bestSound RM.bestWay RM.rows RM.rowN RM.sortOf RM.sizeOf RM.numbers RM.holdsWhat RM.holdsWhich RM.holdsMany RM.bodies RM.ran RM.actKind RM.actN RM.actA RM.isParted) o.1 (va_A (wMo K jM aM RM.s RM.held RM.aside RM.before RM.isHeld RM.tape RM.taped RM.token RM.frm RM.to RM.value RM.isWrong RM.unpaired RM.bestSound RM.bestWay RM.rows RM.rowN RM.sortOf RM.sizeOf RM.numbers RM.holdsWhat RM.holdsWhich RM.holdsMany RM.bodies RM.ran RM.actKind RM.actN RM.actA RM.isParted) sz)) 0 0 (va_A (wMo K jM aM RM.s RM.held RM.aside RM.before RM.isHeld RM.tape RM.taped RM.token RM.frm RM.to RM.value RM.isWrong RM.unpaired RM.bestSound RM.bestWay RM.rows RM.rowN RM.sortOf RM.sizeOf RM.numbers RM.holdsWhat RM.holdsWhich RM.holdsMany RM.bodies RM.ran RM.actKind RM.actN RM.actA RM.isParted) sz) := by
  refine ht_enter (Qf := ht_Qi D K (wMo K jM aM o.2.1 RM.held o.2.2 RM.before RM.isHeld RM.tape RM.taped RM.token RM.frm RM.to RM.value RM.isWrong RM.unpaired RM.bestSound RM.bestWay RM.rows RM.rowN RM.sortOf RM.sizeOf RM.numbers RM.holdsWhat RM.holdsWhich RM.holdsMany RM.bodies RM.ran RM.actKind RM.actN RM.actA RM.isParted) o.1) (cc := cX9_fits) (maxL := 10) (rt := (some .int)) (by decide) rfl (Nat.le_of_ble_eq_true rfl) ?_ sz
  intro p e s m below meth c A Q H locs ls hQ hx hb hr hlk hmn hml hown hts hA hK hP hD hS hl
  have hown : s.vm.findClass RX9 = some m.cls := hown
  have hF : CallFix p m c cX9_fits 10 s ([.ref jM, .int p0, .int p1, .int p2] : List Value).toArray wsX9_fits RX9 := ⟨hx, hb, hml, hown, hts⟩
  have hl : lv_has ls 10 [(0, .ref jM), (1, .int p0), (2, .int p1), (3, .int p2)] := hl
  have iw9 : ∀ w ∈ u_ws RX9 TX9 29, w ∈ wsX9_fits := by decide +kernel
  have kw1 := hts (.fieldLink RX9 7 "HeldTonguesModel" "s" "[I") (by decide +kernel)
  have kw2 := hts (.fieldLink RX9 34 "HeldTonguesModel" "sortOf" "[I") (by decide +kernel)
  have b127 : ∀ (x3 : Int32) (x4 : Int32) (x5 : Int32) (x6 : Int32) (x7 : Int32) (vM_s : AI) (vM_aside : AI) (H : Heap) (locs : List Loc) (ls : Array Slot), fX9_fits_b127 RM x3 x4 x5 x6 x7 vM_s vM_aside = some o → va_P D vwCl (wMo K jM aM vM_s RM.held vM_aside RM.before RM.isHeld RM.tape RM.taped RM.token RM.frm RM.to RM.value RM.isWrong RM.unpaired RM.bestSound RM.bestWay RM.rows RM.rowN RM.sortOf RM.sizeOf RM.numbers RM.holdsWhat RM.holdsWhich RM.holdsMany RM.bodies RM.ran RM.actKind RM.actN RM.actA RM.isParted) H → va_D A (wMo K jM aM vM_s RM.held vM_aside RM.before RM.isHeld RM.tape RM.taped RM.token RM.frm RM.to RM.value RM.isWrong RM.unpaired RM.bestSound RM.bestWay RM.rows RM.rowN RM.sortOf RM.sizeOf RM.numbers RM.holdsWhat RM.holdsWhich RM.holdsMany RM.bodies RM.ran RM.actKind RM.actN RM.actA RM.isParted) → va_S A s.heap H locs → lv_has ls 10 [(0, .ref jM), (3, .int x3), (4, .int x4), (5, .int x5), (6, .int x6), (7, .int x7)] → W p l e (headSpec wsX9_fits rmX9_fits).room s m ([.ref jM, .int p0, .int p1, .int p2] : List Value).toArray below meth c H locs 0 0 Q (F0 m 127 ls []) := by
    intro x3 x4 x5 x6 x7 vM_s vM_aside H locs ls hf hP hD hS hl
    delta fX9_fits_b127 at hf
    refine lv_aload_n hx hb dX9_fits_127 rfl (lv_at hl 0 rfl) ?_
    refine va_get (D := D) (ci := 9) (v := .ref (aM 0)) (C := RX9) (T := TX9) (N := 29) hx hb hts iw9 hown hK hP 0 rfl rfl 0 (by decide) kw1 (fun _ h9 => h9) rfl dX9_fits_128 ?_
    refine lv_iload hx hb dX9_fits_131 (lv_at hl 2 rfl) ?_
    refine lv_iload hx hb dX9_fits_133 (lv_at hl 3 rfl) ?_
    obtain ⟨g_1, hf⟩ := ht_gd_ob hf
    obtain ⟨vM_s_2, evM_s_2, hf⟩ := ht_nm_ob hf
    refine ht_iast (w2 := (wMo K jM aM vM_s_2 RM.held vM_aside RM.before RM.isHeld RM.tape RM.taped RM.token RM.frm RM.to RM.value RM.isWrong RM.unpaired RM.bestSound RM.bestWay RM.rows RM.rowN RM.sortOf RM.sizeOf RM.numbers RM.holdsWhat RM.holdsWhich RM.holdsMany RM.bodies RM.ran RM.actKind RM.actN RM.actA RM.isParted)) hx hb hK hP hD hS 1 1 rfl rfl g_1 dX9_fits_135 evM_s_2 rfl (fun H locs hP hD hS => ?_)
    refine lv_iload_n hx hb dX9_fits_136 rfl (lv_at hl 1 rfl) ?_
    refine lv_if_ne (tgt := 145) hx hb dX9_fits_137 (by decide) (fun c_3 => ?_) (fun c_3 => ?_)
    · replace hf := ht_f c_3 hf
      refine lv_iload hx hb dX9_fits_145 (lv_at hl 5 rfl) ?_
      have ho := Option.some.inj hf
      subst ho; subst hQ
      exact ht_iret hx hb hr hlk rfl hK hP hD hS dX9_fits_147
    · replace hf := ht_t c_3 hf
      refine lv_iload hx hb dX9_fits_140 (lv_at hl 4 rfl) ?_
      refine lv_goto (tgt := 147) hx hb dX9_fits_142 (by decide) ?_
      have ho := Option.some.inj hf
      subst ho; subst hQ
      exact ht_iret hx hb hr hlk rfl hK hP hD hS dX9_fits_147
  have b119 : ∀ (k70 : Int32 → Int32 → Int32 → Int32 → Int32 → Int32 → Int32 → Int32 → AI → AI → Option (Int32 × AI × AI)) (hk70 : ∀ (x1 : Int32) (x2 : Int32) (x3 : Int32) (x4 : Int32) (x5 : Int32) (x6 : Int32) (x7 : Int32) (x8 : Int32) (vM_s : AI) (vM_aside : AI) (H : Heap) (locs : List Loc) (ls : Array Slot), k70 x1 x2 x3 x4 x5 x6 x7 x8 vM_s vM_aside = some o → va_P D vwCl (wMo K jM aM vM_s RM.held vM_aside RM.before RM.isHeld RM.tape RM.taped RM.token RM.frm RM.to RM.value RM.isWrong RM.unpaired RM.bestSound RM.bestWay RM.rows RM.rowN RM.sortOf RM.sizeOf RM.numbers RM.holdsWhat RM.holdsWhich RM.holdsMany RM.bodies RM.ran RM.actKind RM.actN RM.actA RM.isParted) H → va_D A (wMo K jM aM vM_s RM.held vM_aside RM.before RM.isHeld RM.tape RM.taped RM.token RM.frm RM.to RM.value RM.isWrong RM.unpaired RM.bestSound RM.bestWay RM.rows RM.rowN RM.sortOf RM.sizeOf RM.numbers RM.holdsWhat RM.holdsWhich RM.holdsMany RM.bodies RM.ran RM.actKind RM.actN RM.actA RM.isParted) → va_S A s.heap H locs → lv_has ls 10 [(0, .ref jM), (1, .int x1), (2, .int x2), (3, .int x3), (4, .int x4), (5, .int x5), (6, .int x6), (7, .int x7), (8, .int x8)] → W p l e (headSpec wsX9_fits rmX9_fits).room s m ([.ref jM, .int p0, .int p1, .int p2] : List Value).toArray below meth c H locs 0 0 Q (F0 m 70 ls [])) (x1 : Int32) (x2 : Int32) (x3 : Int32) (x4 : Int32) (x5 : Int32) (x6 : Int32) (x8 : Int32) (t0 : Int32) (vM_s : AI) (vM_aside : AI) (H : Heap) (locs : List Loc) (ls : Array Slot), fX9_fits_b119 RM k70 x1 x2 x3 x4 x5 x6 x8 t0 vM_s vM_aside = some o → va_P D vwCl (wMo K jM aM vM_s RM.held vM_aside RM.before RM.isHeld RM.tape RM.taped RM.token RM.frm RM.to RM.value RM.isWrong RM.unpaired RM.bestSound RM.bestWay RM.rows RM.rowN RM.sortOf RM.sizeOf RM.numbers RM.holdsWhat RM.holdsWhich RM.holdsMany RM.bodies RM.ran RM.actKind RM.actN RM.actA RM.isParted) H → va_D A (wMo K jM aM vM_s RM.held vM_aside RM.before RM.isHeld RM.tape RM.taped RM.token RM.frm RM.to RM.value RM.isWrong RM.unpaired RM.bestSound RM.bestWay RM.rows RM.rowN RM.sortOf RM.sizeOf RM.numbers RM.holdsWhat RM.holdsWhich RM.holdsMany RM.bodies RM.ran RM.actKind RM.actN RM.actA RM.isParted) → va_S A s.heap H locs → lv_has ls 10 [(0, .ref jM), (1, .int x1), (2, .int x2), (3, .int x3), (4, .int x4), (5, .int x5), (6, .int x6), (8, .int x8)] → W p l e (headSpec wsX9_fits rmX9_fits).room s m ([.ref jM, .int p0, .int p1, .int p2] : List Value).toArray below meth c H locs 0 0 Q (F0 m 119 ls [.int t0]) := by
    intro k70 hk70 x1 x2 x3 x4 x5 x6 x8 t0 vM_s vM_aside H locs ls hf hP hD hS hl
    delta fX9_fits_b119 at hf
    refine lv_istore (lv' := [(7, .int t0), (0, .ref jM), (1, .int x1), (2, .int x2), (3, .int x3), (4, .int x4), (5, .int x5), (6, .int x6), (8, .int x8)]) hx hb dX9_fits_119 hl (by decide) rfl (fun ls hl => ?_)
    obtain ⟨x8_4, ex8_4, hf⟩ := ht_nm_ob hf
    refine lv_iinc (v := x8_4) (lv' := [(8, .int x8_4), (7, .int t0), (0, .ref jM), (1, .int x1), (2, .int x2), (3, .int x3), (4, .int x4), (5, .int x5), (6, .int x6)]) hx hb dX9_fits_121 hl (k := 8) rfl (by rw [ex8_4]; rfl) (by decide) rfl (fun ls hl => ?_)
    refine lv_goto (tgt := 70) hx hb dX9_fits_124 (by decide) ?_
    exact hk70 x1 x2 x3 x4 x5 x6 t0 x8_4 vM_s vM_aside _ _ _ hf hP hD hS (lv_sub hl [2, 3, 4, 5, 6, 7, 8, 1, 0] rfl)
  have b104 : ∀ (k70 : Int32 → Int32 → Int32 → Int32 → Int32 → Int32 → Int32 → Int32 → AI → AI → Option (Int32 × AI × AI)) (hk70 : ∀ (x1 : Int32) (x2 : Int32) (x3 : Int32) (x4 : Int32) (x5 : Int32) (x6 : Int32) (x7 : Int32) (x8 : Int32) (vM_s : AI) (vM_aside : AI) (H : Heap) (locs : List Loc) (ls : Array Slot), k70 x1 x2 x3 x4 x5 x6 x7 x8 vM_s vM_aside = some o → va_P D vwCl (wMo K jM aM vM_s RM.held vM_aside RM.before RM.isHeld RM.tape RM.taped RM.token RM.frm RM.to RM.value RM.isWrong RM.unpaired RM.bestSound RM.bestWay RM.rows RM.rowN RM.sortOf RM.sizeOf RM.numbers RM.holdsWhat RM.holdsWhich RM.holdsMany RM.bodies RM.ran RM.actKind RM.actN RM.actA RM.isParted) H → va_D A (wMo K jM aM vM_s RM.held vM_aside RM.before RM.isHeld RM.tape RM.taped RM.token RM.frm RM.to RM.value RM.isWrong RM.unpaired RM.bestSound RM.bestWay RM.rows RM.rowN RM.sortOf RM.sizeOf RM.numbers RM.holdsWhat RM.holdsWhich RM.holdsMany RM.bodies RM.ran RM.actKind RM.actN RM.actA RM.isParted) → va_S A s.heap H locs → lv_has ls 10 [(0, .ref jM), (1, .int x1), (2, .int x2), (3, .int x3), (4, .int x4), (5, .int x5), (6, .int x6), (7, .int x7), (8, .int x8)] → W p l e (headSpec wsX9_fits rmX9_fits).room s m ([.ref jM, .int p0, .int p1, .int p2] : List Value).toArray below meth c H locs 0 0 Q (F0 m 70 ls [])) (x1 : Int32) (x2 : Int32) (x3 : Int32) (x4 : Int32) (x5 : Int32) (x7 : Int32) (x8 : Int32) (x9 : Int32) (t0 : Int32) (t1 : Int32) (vM_s : AI) (vM_aside : AI) (H : Heap) (locs : List Loc) (ls : Array Slot), fX9_fits_b104 RM k70 x1 x2 x3 x4 x5 x7 x8 x9 t0 t1 vM_s vM_aside = some o → va_P D vwCl (wMo K jM aM vM_s RM.held vM_aside RM.before RM.isHeld RM.tape RM.taped RM.token RM.frm RM.to RM.value RM.isWrong RM.unpaired RM.bestSound RM.bestWay RM.rows RM.rowN RM.sortOf RM.sizeOf RM.numbers RM.holdsWhat RM.holdsWhich RM.holdsMany RM.bodies RM.ran RM.actKind RM.actN RM.actA RM.isParted) H → va_D A (wMo K jM aM vM_s RM.held vM_aside RM.before RM.isHeld RM.tape RM.taped RM.token RM.frm RM.to RM.value RM.isWrong RM.unpaired RM.bestSound RM.bestWay RM.rows RM.rowN RM.sortOf RM.sizeOf RM.numbers RM.holdsWhat RM.holdsWhich RM.holdsMany RM.bodies RM.ran RM.actKind RM.actN RM.actA RM.isParted) → va_S A s.heap H locs → lv_has ls 10 [(0, .ref jM), (1, .int x1), (2, .int x2), (3, .int x3), (4, .int x4), (5, .int x5), (7, .int x7), (8, .int x8), (9, .int x9)] → W p l e (headSpec wsX9_fits rmX9_fits).room s m ([.ref jM, .int p0, .int p1, .int p2] : List Value).toArray below meth c H locs 0 0 Q (F0 m 104 ls [.int t1, .int t0]) := by
    intro k70 hk70 x1 x2 x3 x4 x5 x7 x8 x9 t0 t1 vM_s vM_aside H locs ls hf hP hD hS hl
    delta fX9_fits_b104 at hf
    refine lv_iadd hx hb dX9_fits_104 ?_
    obtain ⟨x6_5, ex6_5, hf⟩ := ht_nm_ob hf
    rw [← ex6_5]
    refine lv_istore (lv' := [(6, .int x6_5), (0, .ref jM), (1, .int x1), (2, .int x2), (3, .int x3), (4, .int x4), (5, .int x5), (7, .int x7), (8, .int x8), (9, .int x9)]) hx hb dX9_fits_105 hl (by decide) rfl (fun ls hl => ?_)
    refine lv_iload hx hb dX9_fits_107 (lv_at hl 9 rfl) ?_
    refine lv_if_eq (tgt := 117) hx hb dX9_fits_109 (by decide) (fun c_6 => ?_) (fun c_6 => ?_)
    · replace hf := ht_t c_6 hf
      refine lv_iload hx hb dX9_fits_117 (lv_at hl 7 rfl) ?_
      exact b119 _ hk70 x1 x2 x3 x4 x5 x6_5 x8 x7 vM_s vM_aside _ _ _ hf hP hD hS (lv_sub hl [1, 2, 3, 4, 5, 6, 0, 8] rfl)
    · replace hf := ht_f c_6 hf
      refine lv_iload hx hb dX9_fits_112 (lv_at hl 8 rfl) ?_
      refine lv_goto (tgt := 119) hx hb dX9_fits_114 (by decide) ?_
      exact b119 _ hk70 x1 x2 x3 x4 x5 x6_5 x8 x8 vM_s vM_aside _ _ _ hf hP hD hS (lv_sub hl [1, 2, 3, 4, 5, 6, 0, 8] rfl)
  have b70 : ∀ (n : Nat) (x1 : Int32) (x2 : Int32) (x3 : Int32) (x4 : Int32) (x5 : Int32) (x6 : Int32) (x7 : Int32) (x8 : Int32) (vM_s : AI) (vM_aside : AI) (H : Heap) (locs : List Loc) (ls : Array Slot), ht_lp10 (fX9_fits_b70 RM) n x1 x2 x3 x4 x5 x6 x7 x8 vM_s vM_aside = some o → va_P D vwCl (wMo K jM aM vM_s RM.held vM_aside RM.before RM.isHeld RM.tape RM.taped RM.token RM.frm RM.to RM.value RM.isWrong RM.unpaired RM.bestSound RM.bestWay RM.rows RM.rowN RM.sortOf RM.sizeOf RM.numbers RM.holdsWhat RM.holdsWhich RM.holdsMany RM.bodies RM.ran RM.actKind RM.actN RM.actA RM.isParted) H → va_D A (wMo K jM aM vM_s RM.held vM_aside RM.before RM.isHeld RM.tape RM.taped RM.token RM.frm RM.to RM.value RM.isWrong RM.unpaired RM.bestSound RM.bestWay RM.rows RM.rowN RM.sortOf RM.sizeOf RM.numbers RM.holdsWhat RM.holdsWhich RM.holdsMany RM.bodies RM.ran RM.actKind RM.actN RM.actA RM.isParted) → va_S A s.heap H locs → lv_has ls 10 [(0, .ref jM), (1, .int x1), (2, .int x2), (3, .int x3), (4, .int x4), (5, .int x5), (6, .int x6), (7, .int x7), (8, .int x8)] → W p l e (headSpec wsX9_fits rmX9_fits).room s m ([.ref jM, .int p0, .int p1, .int p2] : List Value).toArray below meth c H locs 0 0 Q (F0 m 70 ls []) := by
    intro n
    induction n with
    | zero =>
      intro x1 x2 x3 x4 x5 x6 x7 x8 vM_s vM_aside H locs ls hf hP hD hS hl
      cases (show (none : Option (Int32 × AI × AI)) = some o from hf)
    | succ n hk70 =>
      intro x1 x2 x3 x4 x5 x6 x7 x8 vM_s vM_aside H locs ls hf hP hD hS hl
      replace hf : fX9_fits_b70 RM (ht_lp10 (fX9_fits_b70 RM) n) x1 x2 x3 x4 x5 x6 x7 x8 vM_s vM_aside = some o := hf
      delta fX9_fits_b70 at hf
      refine lv_iload hx hb dX9_fits_70 (lv_at hl 8 rfl) ?_
      refine lv_if_lt (tgt := 127) hx hb dX9_fits_72 (by decide) (fun c_7 => ?_) (fun c_7 => ?_)
      · replace hf := ht_t c_7 hf
        exact b127  x3 x4 x5 x6 x7 vM_s vM_aside _ _ _ hf hP hD hS (lv_sub hl [0, 3, 4, 5, 6, 7] rfl)
      · replace hf := ht_f c_7 hf
        refine lv_aload_n hx hb dX9_fits_75 rfl (lv_at hl 0 rfl) ?_
        refine va_get (D := D) (ci := 9) (v := .ref (aM 0)) (C := RX9) (T := TX9) (N := 29) hx hb hts iw9 hown hK hP 0 rfl rfl 0 (by decide) kw1 (fun _ h9 => h9) rfl dX9_fits_76 ?_
        refine lv_iload hx hb dX9_fits_79 (lv_at hl 4 rfl) ?_
        refine lv_iload hx hb dX9_fits_81 (lv_at hl 8 rfl) ?_
        obtain ⟨g_8, hf⟩ := ht_gd_ob hf
        obtain ⟨vM_s_9, evM_s_9, hf⟩ := ht_nm_ob hf
        refine ht_iast (w2 := (wMo K jM aM vM_s_9 RM.held vM_aside RM.before RM.isHeld RM.tape RM.taped RM.token RM.frm RM.to RM.value RM.isWrong RM.unpaired RM.bestSound RM.bestWay RM.rows RM.rowN RM.sortOf RM.sizeOf RM.numbers RM.holdsWhat RM.holdsWhich RM.holdsMany RM.bodies RM.ran RM.actKind RM.actN RM.actA RM.isParted)) hx hb hK hP hD hS 1 1 rfl rfl g_8 dX9_fits_83 evM_s_9 rfl (fun H locs hP hD hS => ?_)
        refine lv_aload_n hx hb dX9_fits_84 rfl (lv_at hl 0 rfl) ?_
        refine lv_iload_n hx hb dX9_fits_85 rfl (lv_at hl 1 rfl) ?_
        refine lv_iload_n hx hb dX9_fits_86 rfl (lv_at hl 2 rfl) ?_
        obtain ⟨o_10, ho_10, hf⟩ := ht_bn_ob hf
        refine ht_callVi (r := o_10.1) (rest := []) (As := [.int x1, .int x2]) (wc := (wMo K jM aM vM_s_9 RM.held vM_aside RM.before RM.isHeld RM.tape RM.taped RM.token RM.frm RM.to RM.value RM.isWrong RM.unpaired RM.bestSound RM.bestWay RM.rows RM.rowN RM.sortOf RM.sizeOf RM.numbers RM.holdsWhat RM.holdsWhich RM.holdsMany RM.bodies RM.ran RM.actKind RM.actN RM.actA RM.isParted)) (wr := []) (w1 := (wMo K jM aM o_10.2.1 RM.held o_10.2.2 RM.before RM.isHeld RM.tape RM.taped RM.token RM.frm RM.to RM.value RM.isWrong RM.unpaired RM.bestSound RM.bestWay RM.rows RM.rowN RM.sortOf RM.sizeOf RM.numbers RM.holdsWhat RM.holdsWhich RM.holdsMany RM.bodies RM.ran RM.actKind RM.actN RM.actA RM.isParted)) (w2 := (wMo K jM aM o_10.2.1 RM.held o_10.2.2 RM.before RM.isHeld RM.tape RM.taped RM.token RM.frm RM.to RM.value RM.isWrong RM.unpaired RM.bestSound RM.bestWay RM.rows RM.rowN RM.sortOf RM.sizeOf RM.numbers RM.holdsWhat RM.holdsWhich RM.holdsMany RM.bodies RM.ran RM.actKind RM.actN RM.actA RM.isParted)) hF (ctX9_isTold l D K jM aM (vM_s_9, RM.held, vM_aside, RM.before, RM.isHeld, RM.tape, RM.taped, RM.token, RM.frm, RM.to, RM.value, RM.isWrong, RM.unpaired, RM.bestSound, RM.bestWay, RM.rows, RM.rowN, RM.sortOf, RM.sizeOf, RM.numbers, RM.holdsWhat, RM.holdsWhich, RM.holdsMany, RM.bodies, RM.ran, RM.actKind, RM.actN, RM.actA, RM.isParted) x1 x2 o_10 ho_10 H.size) (cwV 2 hts gX9_fits_X9_isTold rfl rfl rfl hdX9_isTold ⟨Nat.le_of_ble_eq_true rfl, Nat.le_of_ble_eq_true rfl⟩) hK hP hD hS hA [0, 1, 2, 3, 4, 5, 6, 7, 8, 9, 10, 11, 12, 13, 14, 15] [] rfl rfl (by decide) (by decide) (by decide) [0, 1, 2, 3, 4, 5, 6, 7, 8, 9, 10, 11, 12, 13, 14, 15] rfl (by decide) (va_recv hK hP (ci := 9) (q0 := 0) rfl rfl) rfl hl.1 rfl (Nat.le_of_ble_eq_true rfl) dX9_fits_87 ⟨Nat.zero_le _, Nat.zero_le _⟩ (fun H locs hP hD hS => ?_)
        obtain ⟨x9_11, ex9_11, hf⟩ := ht_nm_ob hf
        rw [← ex9_11]
        refine lv_istore (lv' := [(9, .int x9_11), (0, .ref jM), (1, .int x1), (2, .int x2), (3, .int x3), (4, .int x4), (5, .int x5), (6, .int x6), (7, .int x7), (8, .int x8)]) hx hb dX9_fits_90 hl (by decide) rfl (fun ls hl => ?_)
        refine lv_iload hx hb dX9_fits_92 (lv_at hl 7 rfl) ?_
        refine lv_iload hx hb dX9_fits_94 (lv_at hl 0 rfl) ?_
        refine lv_if_eq (tgt := 103) hx hb dX9_fits_96 (by decide) (fun c_12 => ?_) (fun c_12 => ?_)
        · replace hf := ht_t c_12 hf
          refine lv_iconst (v := 0) hx hb dX9_fits_103 (by decide) ?_
          exact b104 _ hk70 x1 x2 x3 x4 x5 x7 x8 x9_11 x6 (0 : Int32) o_10.2.1 o_10.2.2 _ _ _ hf hP hD hS (lv_sub hl [1, 2, 3, 4, 5, 6, 8, 9, 0] rfl)
        · replace hf := ht_f c_12 hf
          refine lv_iconst (v := 1) hx hb dX9_fits_99 (by decide) ?_
          refine lv_goto (tgt := 104) hx hb dX9_fits_100 (by decide) ?_
          exact b104 _ hk70 x1 x2 x3 x4 x5 x7 x8 x9_11 x6 (1 : Int32) o_10.2.1 o_10.2.2 _ _ _ hf hP hD hS (lv_sub hl [1, 2, 3, 4, 5, 6, 8, 9, 0] rfl)
  delta fX9_fits at hf
  refine lv_iload_n hx hb dX9_fits_0 rfl (lv_at hl 1 rfl) ?_
  obtain ⟨o_13, ho_13, hf⟩ := ht_bn_ob hf
  refine ht_callSi (r := o_13) (rest := []) (As := [.int p0]) (wc := []) (wr := (wMo K jM aM RM.s RM.held RM.aside RM.before RM.isHeld RM.tape RM.taped RM.token RM.frm RM.to RM.value RM.isWrong RM.unpaired RM.bestSound RM.bestWay RM.rows RM.rowN RM.sortOf RM.sizeOf RM.numbers RM.holdsWhat RM.holdsWhich RM.holdsMany RM.bodies RM.ran RM.actKind RM.actN RM.actA RM.isParted)) (w1 := []) (w2 := (wMo K jM aM RM.s RM.held RM.aside RM.before RM.isHeld RM.tape RM.taped RM.token RM.frm RM.to RM.value RM.isWrong RM.unpaired RM.bestSound RM.bestWay RM.rows RM.rowN RM.sortOf RM.sizeOf RM.numbers RM.holdsWhat RM.holdsWhich RM.holdsMany RM.bodies RM.ran RM.actKind RM.actN RM.actA RM.isParted)) hF (ctX9_isSheet l D K p0 o_13 ho_13 H.size) (va_cwS 1 hts gX9_fits_X9_isSheet rfl rfl rfl hdX9_isSheet ⟨Nat.le_of_ble_eq_true rfl, Nat.le_of_ble_eq_true rfl⟩) hK hP hD hS hA [] [0, 1, 2, 3, 4, 5, 6, 7, 8, 9, 10, 11, 12, 13, 14, 15] rfl rfl (by decide) (by decide) (by decide) [0, 1, 2, 3, 4, 5, 6, 7, 8, 9, 10, 11, 12, 13, 14, 15] rfl (by decide) rfl hl.1 rfl (Nat.le_of_ble_eq_true rfl) dX9_fits_1 ⟨Nat.zero_le _, Nat.zero_le _⟩ (fun H locs hP hD hS => ?_)
  refine lv_if_eq (tgt := 25) hx hb dX9_fits_4 (by decide) (fun c_14 => ?_) (fun c_14 => ?_)
  · replace hf := ht_t c_14 hf
    refine lv_iconst (v := -1) hx hb dX9_fits_25 (by decide) ?_
    have ho := Option.some.inj hf
    subst ho; subst hQ
    exact ht_iret hx hb hr hlk rfl hK hP hD hS dX9_fits_26
  · replace hf := ht_f c_14 hf
    refine lv_aload_n hx hb dX9_fits_7 rfl (lv_at hl 0 rfl) ?_
    refine lv_iload_n hx hb dX9_fits_8 rfl (lv_at hl 2 rfl) ?_
    obtain ⟨o_15, ho_15, hf⟩ := ht_bn_ob hf
    refine ht_callVi (r := o_15) (rest := []) (As := [.int p1]) (wc := (wMo K jM aM RM.s RM.held RM.aside RM.before RM.isHeld RM.tape RM.taped RM.token RM.frm RM.to RM.value RM.isWrong RM.unpaired RM.bestSound RM.bestWay RM.rows RM.rowN RM.sortOf RM.sizeOf RM.numbers RM.holdsWhat RM.holdsWhich RM.holdsMany RM.bodies RM.ran RM.actKind RM.actN RM.actA RM.isParted)) (wr := []) (w1 := (wMo K jM aM RM.s RM.held RM.aside RM.before RM.isHeld RM.tape RM.taped RM.token RM.frm RM.to RM.value RM.isWrong RM.unpaired RM.bestSound RM.bestWay RM.rows RM.rowN RM.sortOf RM.sizeOf RM.numbers RM.holdsWhat RM.holdsWhich RM.holdsMany RM.bodies RM.ran RM.actKind RM.actN RM.actA RM.isParted)) (w2 := (wMo K jM aM RM.s RM.held RM.aside RM.before RM.isHeld RM.tape RM.taped RM.token RM.frm RM.to RM.value RM.isWrong RM.unpaired RM.bestSound RM.bestWay RM.rows RM.rowN RM.sortOf RM.sizeOf RM.numbers RM.holdsWhat RM.holdsWhich RM.holdsMany RM.bodies RM.ran RM.actKind RM.actN RM.actA RM.isParted)) hF (ctX9_isOne l D K jM aM RM p1 o_15 ho_15 H.size) (cwV 1 hts gX9_fits_X9_isOne rfl rfl rfl hdX9_isOne ⟨Nat.le_of_ble_eq_true rfl, Nat.le_of_ble_eq_true rfl⟩) hK hP hD hS hA [0, 1, 2, 3, 4, 5, 6, 7, 8, 9, 10, 11, 12, 13, 14, 15] [] rfl rfl (by decide) (by decide) (by decide) [0, 1, 2, 3, 4, 5, 6, 7, 8, 9, 10, 11, 12, 13, 14, 15] rfl (by decide) (va_recv hK hP (ci := 9) (q0 := 0) rfl rfl) rfl hl.1 rfl (Nat.le_of_ble_eq_true rfl) dX9_fits_9 ⟨Nat.zero_le _, Nat.zero_le _⟩ (fun H locs hP hD hS => ?_)
    refine lv_if_eq (tgt := 25) hx hb dX9_fits_12 (by decide) (fun c_16 => ?_) (fun c_16 => ?_)
    · replace hf := ht_t c_16 hf
      refine lv_iconst (v := -1) hx hb dX9_fits_25 (by decide) ?_
      have ho := Option.some.inj hf
      subst ho; subst hQ
      exact ht_iret hx hb hr hlk rfl hK hP hD hS dX9_fits_26
    · replace hf := ht_f c_16 hf
      refine lv_iload_n hx hb dX9_fits_15 rfl (lv_at hl 3 rfl) ?_
      refine lv_i2l hx hb dX9_fits_16 rfl ?_
      refine lv_lconst (v := 0) hx hb dX9_fits_17 (by decide) ?_
      refine lv_lconst (v := 1) hx hb dX9_fits_18 (by decide) ?_
      obtain ⟨o_17, ho_17, hf⟩ := ht_bn_ob hf
      refine ht_callSi (r := o_17) (rest := []) (As := [.long p2.toInt64, .long (0 : Int64), .long (1 : Int64)]) (wc := []) (wr := (wMo K jM aM RM.s RM.held RM.aside RM.before RM.isHeld RM.tape RM.taped RM.token RM.frm RM.to RM.value RM.isWrong RM.unpaired RM.bestSound RM.bestWay RM.rows RM.rowN RM.sortOf RM.sizeOf RM.numbers RM.holdsWhat RM.holdsWhich RM.holdsMany RM.bodies RM.ran RM.actKind RM.actN RM.actA RM.isParted)) (w1 := []) (w2 := (wMo K jM aM RM.s RM.held RM.aside RM.before RM.isHeld RM.tape RM.taped RM.token RM.frm RM.to RM.value RM.isWrong RM.unpaired RM.bestSound RM.bestWay RM.rows RM.rowN RM.sortOf RM.sizeOf RM.numbers RM.holdsWhat RM.holdsWhich RM.holdsMany RM.bodies RM.ran RM.actKind RM.actN RM.actA RM.isParted)) hF (ctX9_isIn l D K p2.toInt64 (0 : Int64) (1 : Int64) o_17 ho_17 H.size) (va_cwS 3 hts gX9_fits_X9_isIn rfl rfl rfl hdX9_isIn ⟨Nat.le_of_ble_eq_true rfl, Nat.le_of_ble_eq_true rfl⟩) hK hP hD hS hA [] [0, 1, 2, 3, 4, 5, 6, 7, 8, 9, 10, 11, 12, 13, 14, 15] rfl rfl (by decide) (by decide) (by decide) [0, 1, 2, 3, 4, 5, 6, 7, 8, 9, 10, 11, 12, 13, 14, 15] rfl (by decide) rfl hl.1 rfl (Nat.le_of_ble_eq_true rfl) dX9_fits_19 ⟨Nat.zero_le _, Nat.zero_le _⟩ (fun H locs hP hD hS => ?_)
      refine lv_if_ne (tgt := 27) hx hb dX9_fits_22 (by decide) (fun c_18 => ?_) (fun c_18 => ?_)
      · replace hf := ht_f c_18 hf
        refine lv_aload_n hx hb dX9_fits_27 rfl (lv_at hl 0 rfl) ?_
        refine va_get (D := D) (ci := 9) (v := .ref (aM 8)) (C := RX9) (T := TX9) (N := 29) hx hb hts iw9 hown hK hP 0 rfl rfl 17 (by decide) kw2 (fun _ h9 => h9) rfl dX9_fits_28 ?_
        refine lv_iload_n hx hb dX9_fits_31 rfl (lv_at hl 1 rfl) ?_
        obtain ⟨g_19, hf⟩ := ht_gd_ob hf
        refine va_iald hx hb hK hP 9 1 rfl rfl (ht_ix_in g_19) dX9_fits_32 ?_
        refine lv_if_ge (tgt := 39) hx hb dX9_fits_33 (by decide) (fun c_20 => ?_) (fun c_20 => ?_)
        · replace hf := ht_t c_20 hf
          refine lv_bipush (v := 9) hx hb dX9_fits_39 (by decide) ?_
          refine lv_bipush (v := 6) hx hb dX9_fits_41 (by decide) ?_
          refine lv_iload_n hx hb dX9_fits_43 rfl (lv_at hl 2 rfl) ?_
          refine lv_imul hx hb dX9_fits_44 ?_
          refine lv_iadd hx hb dX9_fits_45 ?_
          refine lv_iconst (v := 3) hx hb dX9_fits_46 (by decide) ?_
          refine lv_iadd hx hb dX9_fits_47 ?_
          obtain ⟨x4_21, ex4_21, hf⟩ := ht_nm_ob hf
          rw [← ex4_21]
          refine lv_istore (lv' := [(4, .int x4_21), (0, .ref jM), (1, .int p0), (2, .int p1), (3, .int p2)]) hx hb dX9_fits_48 hl (by decide) rfl (fun ls hl => ?_)
          refine lv_aload_n hx hb dX9_fits_50 rfl (lv_at hl 1 rfl) ?_
          refine va_get (D := D) (ci := 9) (v := .ref (aM 0)) (C := RX9) (T := TX9) (N := 29) hx hb hts iw9 hown hK hP 0 rfl rfl 0 (by decide) kw1 (fun _ h9 => h9) rfl dX9_fits_51 ?_
          refine lv_iload hx hb dX9_fits_54 (lv_at hl 0 rfl) ?_
          obtain ⟨g_22, hf⟩ := ht_gd_ob hf
          refine va_iald hx hb hK hP 1 1 rfl rfl (ht_ix_in g_22) dX9_fits_56 ?_
          obtain ⟨x5_23, ex5_23, hf⟩ := ht_nm_ob hf
          rw [← ex5_23]
          refine lv_istore (lv' := [(5, .int x5_23), (4, .int x4_21), (0, .ref jM), (1, .int p0), (2, .int p1), (3, .int p2)]) hx hb dX9_fits_57 hl (by decide) rfl (fun ls hl => ?_)
          refine lv_iconst (v := 0) hx hb dX9_fits_59 (by decide) ?_
          refine lv_istore (lv' := [(6, .int (0 : Int32)), (5, .int x5_23), (4, .int x4_21), (0, .ref jM), (1, .int p0), (2, .int p1), (3, .int p2)]) hx hb dX9_fits_60 hl (by decide) rfl (fun ls hl => ?_)
          refine lv_bipush (v := -3) hx hb dX9_fits_62 (by decide) ?_
          refine lv_istore (lv' := [(7, .int (-3 : Int32)), (6, .int (0 : Int32)), (5, .int x5_23), (4, .int x4_21), (0, .ref jM), (1, .int p0), (2, .int p1), (3, .int p2)]) hx hb dX9_fits_64 hl (by decide) rfl (fun ls hl => ?_)
          refine lv_bipush (v := 9) hx hb dX9_fits_66 (by decide) ?_
          refine lv_istore (lv' := [(8, .int (9 : Int32)), (7, .int (-3 : Int32)), (6, .int (0 : Int32)), (5, .int x5_23), (4, .int x4_21), (0, .ref jM), (1, .int p0), (2, .int p1), (3, .int p2)]) hx hb dX9_fits_68 hl (by decide) rfl (fun ls hl => ?_)
          exact b70  FU p0 p1 p2 x4_21 x5_23 (0 : Int32) (-3 : Int32) (9 : Int32) RM.s RM.aside _ _ _ hf hP hD hS (lv_sub hl [5, 6, 7, 8, 4, 3, 2, 1, 0] rfl)
        · replace hf := ht_f c_20 hf
          refine lv_bipush (v := -11) hx hb dX9_fits_36 (by decide) ?_
          have ho := Option.some.inj hf
          subst ho; subst hQ
          exact ht_iret hx hb hr hlk rfl hK hP hD hS dX9_fits_38
      · replace hf := ht_t c_18 hf
        refine lv_iconst (v := -1) hx hb dX9_fits_25 (by decide) ?_
        have ho := Option.some.inj hf
        subst ho; subst hQ
        exact ht_iret hx hb hr hlk rfl hK hP hD hS dX9_fits_26
abbrev rmX9_odds : Room := { frames := 1, cells := 0, slots := 0, locals := 30 }
theorem hdX9_odds : yX9_odds.cls = RX9 ∧ yX9_odds.cls ≠ "java/lang/invoke/MethodHandle" ∧ yX9_odds.cls ≠ "java/lang/invoke/VarHandle" ∧ (parseMethodDescriptor yX9_odds.desc).map (fun d => d.parameters.length) = some 3 := by decide +kernel
def fX9_odds_b114 (RM : ModV) (x3 : Int32) (x4 : Int64) (x6 : Int64) : Option Int64 := ht_bn (fX9_partOf x4 x6 x3) (fun o_1 => some o_1)
def fX9_odds_b97 (RM : ModV) (k61 : Int32 → Int32 → Int32 → Int64 → Int64 → Int32 → Option Int64) (x1 : Int32) (x2 : Int32) (x3 : Int32) (x6 : Int64) (x8 : Int32) (t0 : Int64) (t1 : Int64) : Option Int64 := ht_nm (t0 * t1) (fun x4_2 => ht_nm (x6 * (100 : Int64)) (fun x6_3 => ht_nm (x8 + (1 : Int32)) (fun x8_4 => k61 x1 x2 x3 x4_2 x6_3 x8_4)))
def fX9_odds_b61 (RM : ModV) (k61 : Int32 → Int32 → Int32 → Int64 → Int64 → Int32 → Option Int64) (x1 : Int32) (x2 : Int32) (x3 : Int32) (x4 : Int64) (x6 : Int64) (x8 : Int32) : Option Int64 := if x1 ≤ x8 then (fX9_odds_b114 RM x3 x4 x6) else (if x2 ≤ x8 then (ht_gd (ht_ix (8 : Int32) 57) (fX9_odds_b97 RM k61 x1 x2 x3 x6 x8 x4 (((100 : Int32) - (RM.s (8 : Int32).toNatClampNeg)).toInt64))) else (ht_gd (ht_ix (8 : Int32) 57) (fX9_odds_b97 RM k61 x1 x2 x3 x6 x8 x4 ((RM.s (8 : Int32).toNatClampNeg).toInt64))))
def fX9_odds (RM : ModV) (p0 : Int32) (p1 : Int32) (p2 : Int32) : Option Int64 := ht_bn (fX9_isIn p0.toInt64 (0 : Int64) (8 : Int64)) (fun o_9 => if o_9 = 0 then (some (-1 : Int64)) else (ht_bn (fX9_isIn p1.toInt64 (0 : Int64) p0.toInt64) (fun o_11 => if o_11 = 0 then (some (-1 : Int64)) else (ht_bn (fX9_isIn p2.toInt64 (0 : Int64) (1 : Int64)) (fun o_13 => if o_13 = 0 then (some (-1 : Int64)) else (ht_bn (fX9_product p0) (fun o_15 => ht_bn (fX9_product p1) (fun o_16 => ht_gd (ht_nzL o_16) (ht_bn (fX9_product (p0 - p1)) (fun o_18 => ht_gd (ht_nzL o_18) (ht_nm ((o_15 / o_16) / o_18) (fun x4_20 => ht_lp6 (fX9_odds_b61 RM) FU p0 p1 p2 x4_20 (1 : Int64) (0 : Int32)))))))))))))
set_option maxHeartbeats 1000000 in
set_option maxRecDepth 100000 in
theorem ctX9_odds (l : Launch) (D : va_G) (K : Nat → ClassId) (jM : Nat) (aM : Nat → Nat) (RM : ModV) (p0 : Int32) (p1 : Int32) (p2 : Int32) (o : Int64) (hf : fX9_odds RM p0 p1 p2 = some o) (sz : Nat) : Met l yX9_odds wsX9_odds rmX9_odds (ht_Pre D K [.ref jM, .int p0, .int p1, .int p2] (wMo K jM aM RM.s RM.held RM.aside RM.before RM.isHeld RM.tape RM.taped RM.token RM.frm RM.to RM.value RM.isWrong RM.unpaired RM.bestSound RM.bestWay RM.rows RM.rowN RM.sortOf RM.sizeOf RM.numbers RM.holdsWhat RM.holdsWhich RM.holdsMany RM.bodies RM.ran RM.actKind RM.actN RM.actA RM.isParted) sz) (ht_Ql D K (wMo K jM aM RM.s RM.held RM.aside RM.before RM.isHeld RM.tape RM.taped RM.token RM.frm RM.to RM.value RM.isWrong RM.unpaired RM.bestSound RM.bestWay RM.rows RM.rowN RM.sortOf RM.sizeOf RM.numbers RM.holdsWhat RM.holdsWhich RM.holdsMany RM.bodies RM.ran RM.actKind RM.actN RM.actA RM.isParted) o (va_A (wMo K jM aM RM.s RM.held RM.aside RM.before RM.isHeld RM.tape RM.taped RM.token RM.frm RM.to RM.value RM.isWrong RM.unpaired RM.bestSound RM.bestWay RM.rows RM.rowN RM.sortOf RM.sizeOf RM.numbers RM.holdsWhat RM.holdsWhich RM.holdsMany RM.bodies RM.ran RM.actKind RM.actN RM.actA RM.isParted) sz)) 0 0 (va_A (wMo K jM aM RM.s RM.held RM.aside RM.before RM.isHeld RM.tape RM.taped RM.token RM.frm RM.to RM.value RM.isWrong RM.unpaired RM.bestSound RM.bestWay RM.rows RM.rowN RM.sortOf RM.sizeOf RM.numbers RM.holdsWhat RM.holdsWhich RM.holdsMany RM.bodies RM.ran RM.actKind RM.actN RM.actA RM.isParted) sz) := by
  refine ht_enter (Qf := ht_Ql D K (wMo K jM aM RM.s RM.held RM.aside RM.before RM.isHeld RM.tape RM.taped RM.token RM.frm RM.to RM.value RM.isWrong RM.unpaired RM.bestSound RM.bestWay RM.rows RM.rowN RM.sortOf RM.sizeOf RM.numbers RM.holdsWhat RM.holdsWhich RM.holdsMany RM.bodies RM.ran RM.actKind RM.actN RM.actA RM.isParted) o) (cc := cX9_odds) (maxL := 9) (rt := (some .long)) (by decide) rfl (Nat.le_of_ble_eq_true rfl) ?_ sz
  intro p e s m below meth c A Q H locs ls hQ hx hb hr hlk hmn hml hown hts hA hK hP hD hS hl
  have hown : s.vm.findClass RX9 = some m.cls := hown
  have hF : CallFix p m c cX9_odds 9 s ([.ref jM, .int p0, .int p1, .int p2] : List Value).toArray wsX9_odds RX9 := ⟨hx, hb, hml, hown, hts⟩
  have hl : lv_has ls 9 [(0, .ref jM), (1, .int p0), (2, .int p1), (3, .int p2)] := hl
  have kw0 := hts (.constantLong RX9 264 (100)) (by decide +kernel)
  have iw9 : ∀ w ∈ u_ws RX9 TX9 29, w ∈ wsX9_odds := by decide +kernel
  have kw2 := hts (.fieldLink RX9 7 "HeldTonguesModel" "s" "[I") (by decide +kernel)
  have kw3 := hts (.constantLong RX9 58 (8)) (by decide +kernel)
  have kw4 := hts (.constantLong RX9 258 (-1)) (by decide +kernel)
  have b114 : ∀ (x3 : Int32) (x4 : Int64) (x6 : Int64) (H : Heap) (locs : List Loc) (ls : Array Slot), fX9_odds_b114 RM x3 x4 x6 = some o → va_P D vwCl (wMo K jM aM RM.s RM.held RM.aside RM.before RM.isHeld RM.tape RM.taped RM.token RM.frm RM.to RM.value RM.isWrong RM.unpaired RM.bestSound RM.bestWay RM.rows RM.rowN RM.sortOf RM.sizeOf RM.numbers RM.holdsWhat RM.holdsWhich RM.holdsMany RM.bodies RM.ran RM.actKind RM.actN RM.actA RM.isParted) H → va_D A (wMo K jM aM RM.s RM.held RM.aside RM.before RM.isHeld RM.tape RM.taped RM.token RM.frm RM.to RM.value RM.isWrong RM.unpaired RM.bestSound RM.bestWay RM.rows RM.rowN RM.sortOf RM.sizeOf RM.numbers RM.holdsWhat RM.holdsWhich RM.holdsMany RM.bodies RM.ran RM.actKind RM.actN RM.actA RM.isParted) → va_S A s.heap H locs → lv_has ls 9 [(3, .int x3), (4, .long x4), (6, .long x6)] → W p l e (headSpec wsX9_odds rmX9_odds).room s m ([.ref jM, .int p0, .int p1, .int p2] : List Value).toArray below meth c H locs 0 0 Q (F0 m 114 ls []) := by
    intro x3 x4 x6 H locs ls hf hP hD hS hl
    delta fX9_odds_b114 at hf
    refine lv_lload hx hb dX9_odds_114 (lv_at hl 1 rfl) ?_
    refine lv_lload hx hb dX9_odds_116 (lv_at hl 2 rfl) ?_
    refine lv_iload_n hx hb dX9_odds_118 rfl (lv_at hl 0 rfl) ?_
    obtain ⟨o_1, ho_1, hf⟩ := ht_bn_ob hf
    refine ht_callSl (r := o_1) (rest := []) (As := [.long x4, .long x6, .int x3]) (wc := []) (wr := (wMo K jM aM RM.s RM.held RM.aside RM.before RM.isHeld RM.tape RM.taped RM.token RM.frm RM.to RM.value RM.isWrong RM.unpaired RM.bestSound RM.bestWay RM.rows RM.rowN RM.sortOf RM.sizeOf RM.numbers RM.holdsWhat RM.holdsWhich RM.holdsMany RM.bodies RM.ran RM.actKind RM.actN RM.actA RM.isParted)) (w1 := []) (w2 := (wMo K jM aM RM.s RM.held RM.aside RM.before RM.isHeld RM.tape RM.taped RM.token RM.frm RM.to RM.value RM.isWrong RM.unpaired RM.bestSound RM.bestWay RM.rows RM.rowN RM.sortOf RM.sizeOf RM.numbers RM.holdsWhat RM.holdsWhich RM.holdsMany RM.bodies RM.ran RM.actKind RM.actN RM.actA RM.isParted)) hF (ctX9_partOf l D K x4 x6 x3 o_1 ho_1 H.size) (va_cwS 3 hts gX9_odds_X9_partOf rfl rfl rfl hdX9_partOf ⟨Nat.le_of_ble_eq_true rfl, Nat.le_of_ble_eq_true rfl⟩) hK hP hD hS hA [] [0, 1, 2, 3, 4, 5, 6, 7, 8, 9, 10, 11, 12, 13, 14, 15] rfl rfl (by decide) (by decide) (by decide) [0, 1, 2, 3, 4, 5, 6, 7, 8, 9, 10, 11, 12, 13, 14, 15] rfl (by decide) rfl hl.1 rfl (Nat.le_of_ble_eq_true rfl) dX9_odds_119 ⟨Nat.zero_le _, Nat.zero_le _⟩ (fun H locs hP hD hS => ?_)
    have ho := Option.some.inj hf
    subst ho; subst hQ
    exact ht_lret hx hb hr hlk hK hP hD hS dX9_odds_122
  have b97 : ∀ (k61 : Int32 → Int32 → Int32 → Int64 → Int64 → Int32 → Option Int64) (hk61 : ∀ (x1 : Int32) (x2 : Int32) (x3 : Int32) (x4 : Int64) (x6 : Int64) (x8 : Int32) (H : Heap) (locs : List Loc) (ls : Array Slot), k61 x1 x2 x3 x4 x6 x8 = some o → va_P D vwCl (wMo K jM aM RM.s RM.held RM.aside RM.before RM.isHeld RM.tape RM.taped RM.token RM.frm RM.to RM.value RM.isWrong RM.unpaired RM.bestSound RM.bestWay RM.rows RM.rowN RM.sortOf RM.sizeOf RM.numbers RM.holdsWhat RM.holdsWhich RM.holdsMany RM.bodies RM.ran RM.actKind RM.actN RM.actA RM.isParted) H → va_D A (wMo K jM aM RM.s RM.held RM.aside RM.before RM.isHeld RM.tape RM.taped RM.token RM.frm RM.to RM.value RM.isWrong RM.unpaired RM.bestSound RM.bestWay RM.rows RM.rowN RM.sortOf RM.sizeOf RM.numbers RM.holdsWhat RM.holdsWhich RM.holdsMany RM.bodies RM.ran RM.actKind RM.actN RM.actA RM.isParted) → va_S A s.heap H locs → lv_has ls 9 [(0, .ref jM), (1, .int x1), (2, .int x2), (3, .int x3), (4, .long x4), (6, .long x6), (8, .int x8)] → W p l e (headSpec wsX9_odds rmX9_odds).room s m ([.ref jM, .int p0, .int p1, .int p2] : List Value).toArray below meth c H locs 0 0 Q (F0 m 61 ls [])) (x1 : Int32) (x2 : Int32) (x3 : Int32) (x6 : Int64) (x8 : Int32) (t0 : Int64) (t1 : Int64) (H : Heap) (locs : List Loc) (ls : Array Slot), fX9_odds_b97 RM k61 x1 x2 x3 x6 x8 t0 t1 = some o → va_P D vwCl (wMo K jM aM RM.s RM.held RM.aside RM.before RM.isHeld RM.tape RM.taped RM.token RM.frm RM.to RM.value RM.isWrong RM.unpaired RM.bestSound RM.bestWay RM.rows RM.rowN RM.sortOf RM.sizeOf RM.numbers RM.holdsWhat RM.holdsWhich RM.holdsMany RM.bodies RM.ran RM.actKind RM.actN RM.actA RM.isParted) H → va_D A (wMo K jM aM RM.s RM.held RM.aside RM.before RM.isHeld RM.tape RM.taped RM.token RM.frm RM.to RM.value RM.isWrong RM.unpaired RM.bestSound RM.bestWay RM.rows RM.rowN RM.sortOf RM.sizeOf RM.numbers RM.holdsWhat RM.holdsWhich RM.holdsMany RM.bodies RM.ran RM.actKind RM.actN RM.actA RM.isParted) → va_S A s.heap H locs → lv_has ls 9 [(0, .ref jM), (1, .int x1), (2, .int x2), (3, .int x3), (6, .long x6), (8, .int x8)] → W p l e (headSpec wsX9_odds rmX9_odds).room s m ([.ref jM, .int p0, .int p1, .int p2] : List Value).toArray below meth c H locs 0 0 Q (F0 m 97 ls [.long t1, .long t0]) := by
    intro k61 hk61 x1 x2 x3 x6 x8 t0 t1 H locs ls hf hP hD hS hl
    delta fX9_odds_b97 at hf
    refine lv_lmul hx hb dX9_odds_97 ?_
    obtain ⟨x4_2, ex4_2, hf⟩ := ht_nm_ob hf
    rw [← ex4_2]
    refine lv_lstore (lv' := [(4, .long x4_2), (0, .ref jM), (1, .int x1), (2, .int x2), (3, .int x3), (6, .long x6), (8, .int x8)]) hx hb dX9_odds_98 hl (by decide) rfl (fun ls hl => ?_)
    refine lv_lload hx hb dX9_odds_100 (lv_at hl 5 rfl) ?_
    refine lv_ldc2 hx hb hown kw0 dX9_odds_102 ?_
    refine lv_lmul hx hb dX9_odds_105 ?_
    obtain ⟨x6_3, ex6_3, hf⟩ := ht_nm_ob hf
    rw [← ex6_3]
    refine lv_lstore (lv' := [(6, .long x6_3), (4, .long x4_2), (0, .ref jM), (1, .int x1), (2, .int x2), (3, .int x3), (8, .int x8)]) hx hb dX9_odds_106 hl (by decide) rfl (fun ls hl => ?_)
    obtain ⟨x8_4, ex8_4, hf⟩ := ht_nm_ob hf
    refine lv_iinc (v := x8_4) (lv' := [(8, .int x8_4), (6, .long x6_3), (4, .long x4_2), (0, .ref jM), (1, .int x1), (2, .int x2), (3, .int x3)]) hx hb dX9_odds_108 hl (k := 6) rfl (by rw [ex8_4]; rfl) (by decide) rfl (fun ls hl => ?_)
    refine lv_goto (tgt := 61) hx hb dX9_odds_111 (by decide) ?_
    exact hk61 x1 x2 x3 x4_2 x6_3 x8_4 _ _ _ hf hP hD hS (lv_sub hl [3, 4, 5, 6, 2, 1, 0] rfl)
  have b61 : ∀ (n : Nat) (x1 : Int32) (x2 : Int32) (x3 : Int32) (x4 : Int64) (x6 : Int64) (x8 : Int32) (H : Heap) (locs : List Loc) (ls : Array Slot), ht_lp6 (fX9_odds_b61 RM) n x1 x2 x3 x4 x6 x8 = some o → va_P D vwCl (wMo K jM aM RM.s RM.held RM.aside RM.before RM.isHeld RM.tape RM.taped RM.token RM.frm RM.to RM.value RM.isWrong RM.unpaired RM.bestSound RM.bestWay RM.rows RM.rowN RM.sortOf RM.sizeOf RM.numbers RM.holdsWhat RM.holdsWhich RM.holdsMany RM.bodies RM.ran RM.actKind RM.actN RM.actA RM.isParted) H → va_D A (wMo K jM aM RM.s RM.held RM.aside RM.before RM.isHeld RM.tape RM.taped RM.token RM.frm RM.to RM.value RM.isWrong RM.unpaired RM.bestSound RM.bestWay RM.rows RM.rowN RM.sortOf RM.sizeOf RM.numbers RM.holdsWhat RM.holdsWhich RM.holdsMany RM.bodies RM.ran RM.actKind RM.actN RM.actA RM.isParted) → va_S A s.heap H locs → lv_has ls 9 [(0, .ref jM), (1, .int x1), (2, .int x2), (3, .int x3), (4, .long x4), (6, .long x6), (8, .int x8)] → W p l e (headSpec wsX9_odds rmX9_odds).room s m ([.ref jM, .int p0, .int p1, .int p2] : List Value).toArray below meth c H locs 0 0 Q (F0 m 61 ls []) := by
    intro n
    induction n with
    | zero =>
      intro x1 x2 x3 x4 x6 x8 H locs ls hf hP hD hS hl
      cases (show (none : Option Int64) = some o from hf)
    | succ n hk61 =>
      intro x1 x2 x3 x4 x6 x8 H locs ls hf hP hD hS hl
      replace hf : fX9_odds_b61 RM (ht_lp6 (fX9_odds_b61 RM) n) x1 x2 x3 x4 x6 x8 = some o := hf
      delta fX9_odds_b61 at hf
      refine lv_iload hx hb dX9_odds_61 (lv_at hl 6 rfl) ?_
      refine lv_iload_n hx hb dX9_odds_63 rfl (lv_at hl 1 rfl) ?_
      refine lv_icmp_ge (tgt := 114) hx hb dX9_odds_64 (by decide) (fun c_5 => ?_) (fun c_5 => ?_)
      · replace hf := ht_t c_5 hf
        exact b114  x3 x4 x6 _ _ _ hf hP hD hS (lv_sub hl [3, 4, 5] rfl)
      · replace hf := ht_f c_5 hf
        refine lv_lload hx hb dX9_odds_67 (lv_at hl 4 rfl) ?_
        refine lv_iload hx hb dX9_odds_69 (lv_at hl 6 rfl) ?_
        refine lv_iload_n hx hb dX9_odds_71 rfl (lv_at hl 2 rfl) ?_
        refine lv_icmp_ge (tgt := 86) hx hb dX9_odds_72 (by decide) (fun c_6 => ?_) (fun c_6 => ?_)
        · replace hf := ht_t c_6 hf
          refine lv_bipush (v := 100) hx hb dX9_odds_86 (by decide) ?_
          refine lv_aload_n hx hb dX9_odds_88 rfl (lv_at hl 0 rfl) ?_
          refine va_get (D := D) (ci := 9) (v := .ref (aM 0)) (C := RX9) (T := TX9) (N := 29) hx hb hts iw9 hown hK hP 0 rfl rfl 0 (by decide) kw2 (fun _ h9 => h9) rfl dX9_odds_89 ?_
          refine lv_bipush (v := 8) hx hb dX9_odds_92 (by decide) ?_
          obtain ⟨g_7, hf⟩ := ht_gd_ob hf
          refine va_iald hx hb hK hP 1 1 rfl rfl (ht_ix_in g_7) dX9_odds_94 ?_
          refine lv_isub hx hb dX9_odds_95 ?_
          refine lv_i2l hx hb dX9_odds_96 rfl ?_
          exact b97 _ hk61 x1 x2 x3 x6 x8 x4 (((100 : Int32) - (RM.s (8 : Int32).toNatClampNeg)).toInt64) _ _ _ hf hP hD hS (lv_sub hl [0, 1, 2, 3, 5, 6] rfl)
        · replace hf := ht_f c_6 hf
          refine lv_aload_n hx hb dX9_odds_75 rfl (lv_at hl 0 rfl) ?_
          refine va_get (D := D) (ci := 9) (v := .ref (aM 0)) (C := RX9) (T := TX9) (N := 29) hx hb hts iw9 hown hK hP 0 rfl rfl 0 (by decide) kw2 (fun _ h9 => h9) rfl dX9_odds_76 ?_
          refine lv_bipush (v := 8) hx hb dX9_odds_79 (by decide) ?_
          obtain ⟨g_8, hf⟩ := ht_gd_ob hf
          refine va_iald hx hb hK hP 1 1 rfl rfl (ht_ix_in g_8) dX9_odds_81 ?_
          refine lv_i2l hx hb dX9_odds_82 rfl ?_
          refine lv_goto (tgt := 97) hx hb dX9_odds_83 (by decide) ?_
          exact b97 _ hk61 x1 x2 x3 x6 x8 x4 ((RM.s (8 : Int32).toNatClampNeg).toInt64) _ _ _ hf hP hD hS (lv_sub hl [0, 1, 2, 3, 5, 6] rfl)
  delta fX9_odds at hf
  refine lv_iload_n hx hb dX9_odds_0 rfl (lv_at hl 1 rfl) ?_
  refine lv_i2l hx hb dX9_odds_1 rfl ?_
  refine lv_lconst (v := 0) hx hb dX9_odds_2 (by decide) ?_
  refine lv_ldc2 hx hb hown kw3 dX9_odds_3 ?_
  obtain ⟨o_9, ho_9, hf⟩ := ht_bn_ob hf
  refine ht_callSi (r := o_9) (rest := []) (As := [.long p0.toInt64, .long (0 : Int64), .long (8 : Int64)]) (wc := []) (wr := (wMo K jM aM RM.s RM.held RM.aside RM.before RM.isHeld RM.tape RM.taped RM.token RM.frm RM.to RM.value RM.isWrong RM.unpaired RM.bestSound RM.bestWay RM.rows RM.rowN RM.sortOf RM.sizeOf RM.numbers RM.holdsWhat RM.holdsWhich RM.holdsMany RM.bodies RM.ran RM.actKind RM.actN RM.actA RM.isParted)) (w1 := []) (w2 := (wMo K jM aM RM.s RM.held RM.aside RM.before RM.isHeld RM.tape RM.taped RM.token RM.frm RM.to RM.value RM.isWrong RM.unpaired RM.bestSound RM.bestWay RM.rows RM.rowN RM.sortOf RM.sizeOf RM.numbers RM.holdsWhat RM.holdsWhich RM.holdsMany RM.bodies RM.ran RM.actKind RM.actN RM.actA RM.isParted)) hF (ctX9_isIn l D K p0.toInt64 (0 : Int64) (8 : Int64) o_9 ho_9 H.size) (va_cwS 3 hts gX9_odds_X9_isIn rfl rfl rfl hdX9_isIn ⟨Nat.le_of_ble_eq_true rfl, Nat.le_of_ble_eq_true rfl⟩) hK hP hD hS hA [] [0, 1, 2, 3, 4, 5, 6, 7, 8, 9, 10, 11, 12, 13, 14, 15] rfl rfl (by decide) (by decide) (by decide) [0, 1, 2, 3, 4, 5, 6, 7, 8, 9, 10, 11, 12, 13, 14, 15] rfl (by decide) rfl hl.1 rfl (Nat.le_of_ble_eq_true rfl) dX9_odds_6 ⟨Nat.zero_le _, Nat.zero_le _⟩ (fun H locs hP hD hS => ?_)
  refine lv_if_eq (tgt := 33) hx hb dX9_odds_9 (by decide) (fun c_10 => ?_) (fun c_10 => ?_)
  · replace hf := ht_t c_10 hf
    refine lv_ldc2 hx hb hown kw4 dX9_odds_33 ?_
    have ho := Option.some.inj hf
    subst ho; subst hQ
    exact ht_lret hx hb hr hlk hK hP hD hS dX9_odds_36
  · replace hf := ht_f c_10 hf
    refine lv_iload_n hx hb dX9_odds_12 rfl (lv_at hl 2 rfl) ?_
    refine lv_i2l hx hb dX9_odds_13 rfl ?_
    refine lv_lconst (v := 0) hx hb dX9_odds_14 (by decide) ?_
    refine lv_iload_n hx hb dX9_odds_15 rfl (lv_at hl 1 rfl) ?_
    refine lv_i2l hx hb dX9_odds_16 rfl ?_
    obtain ⟨o_11, ho_11, hf⟩ := ht_bn_ob hf
    refine ht_callSi (r := o_11) (rest := []) (As := [.long p1.toInt64, .long (0 : Int64), .long p0.toInt64]) (wc := []) (wr := (wMo K jM aM RM.s RM.held RM.aside RM.before RM.isHeld RM.tape RM.taped RM.token RM.frm RM.to RM.value RM.isWrong RM.unpaired RM.bestSound RM.bestWay RM.rows RM.rowN RM.sortOf RM.sizeOf RM.numbers RM.holdsWhat RM.holdsWhich RM.holdsMany RM.bodies RM.ran RM.actKind RM.actN RM.actA RM.isParted)) (w1 := []) (w2 := (wMo K jM aM RM.s RM.held RM.aside RM.before RM.isHeld RM.tape RM.taped RM.token RM.frm RM.to RM.value RM.isWrong RM.unpaired RM.bestSound RM.bestWay RM.rows RM.rowN RM.sortOf RM.sizeOf RM.numbers RM.holdsWhat RM.holdsWhich RM.holdsMany RM.bodies RM.ran RM.actKind RM.actN RM.actA RM.isParted)) hF (ctX9_isIn l D K p1.toInt64 (0 : Int64) p0.toInt64 o_11 ho_11 H.size) (va_cwS 3 hts gX9_odds_X9_isIn rfl rfl rfl hdX9_isIn ⟨Nat.le_of_ble_eq_true rfl, Nat.le_of_ble_eq_true rfl⟩) hK hP hD hS hA [] [0, 1, 2, 3, 4, 5, 6, 7, 8, 9, 10, 11, 12, 13, 14, 15] rfl rfl (by decide) (by decide) (by decide) [0, 1, 2, 3, 4, 5, 6, 7, 8, 9, 10, 11, 12, 13, 14, 15] rfl (by decide) rfl hl.1 rfl (Nat.le_of_ble_eq_true rfl) dX9_odds_17 ⟨Nat.zero_le _, Nat.zero_le _⟩ (fun H locs hP hD hS => ?_)
    refine lv_if_eq (tgt := 33) hx hb dX9_odds_20 (by decide) (fun c_12 => ?_) (fun c_12 => ?_)
    · replace hf := ht_t c_12 hf
      refine lv_ldc2 hx hb hown kw4 dX9_odds_33 ?_
      have ho := Option.some.inj hf
      subst ho; subst hQ
      exact ht_lret hx hb hr hlk hK hP hD hS dX9_odds_36
    · replace hf := ht_f c_12 hf
      refine lv_iload_n hx hb dX9_odds_23 rfl (lv_at hl 3 rfl) ?_
      refine lv_i2l hx hb dX9_odds_24 rfl ?_
      refine lv_lconst (v := 0) hx hb dX9_odds_25 (by decide) ?_
      refine lv_lconst (v := 1) hx hb dX9_odds_26 (by decide) ?_
      obtain ⟨o_13, ho_13, hf⟩ := ht_bn_ob hf
      refine ht_callSi (r := o_13) (rest := []) (As := [.long p2.toInt64, .long (0 : Int64), .long (1 : Int64)]) (wc := []) (wr := (wMo K jM aM RM.s RM.held RM.aside RM.before RM.isHeld RM.tape RM.taped RM.token RM.frm RM.to RM.value RM.isWrong RM.unpaired RM.bestSound RM.bestWay RM.rows RM.rowN RM.sortOf RM.sizeOf RM.numbers RM.holdsWhat RM.holdsWhich RM.holdsMany RM.bodies RM.ran RM.actKind RM.actN RM.actA RM.isParted)) (w1 := []) (w2 := (wMo K jM aM RM.s RM.held RM.aside RM.before RM.isHeld RM.tape RM.taped RM.token RM.frm RM.to RM.value RM.isWrong RM.unpaired RM.bestSound RM.bestWay RM.rows RM.rowN RM.sortOf RM.sizeOf RM.numbers RM.holdsWhat RM.holdsWhich RM.holdsMany RM.bodies RM.ran RM.actKind RM.actN RM.actA RM.isParted)) hF (ctX9_isIn l D K p2.toInt64 (0 : Int64) (1 : Int64) o_13 ho_13 H.size) (va_cwS 3 hts gX9_odds_X9_isIn rfl rfl rfl hdX9_isIn ⟨Nat.le_of_ble_eq_true rfl, Nat.le_of_ble_eq_true rfl⟩) hK hP hD hS hA [] [0, 1, 2, 3, 4, 5, 6, 7, 8, 9, 10, 11, 12, 13, 14, 15] rfl rfl (by decide) (by decide) (by decide) [0, 1, 2, 3, 4, 5, 6, 7, 8, 9, 10, 11, 12, 13, 14, 15] rfl (by decide) rfl hl.1 rfl (Nat.le_of_ble_eq_true rfl) dX9_odds_27 ⟨Nat.zero_le _, Nat.zero_le _⟩ (fun H locs hP hD hS => ?_)
      refine lv_if_ne (tgt := 37) hx hb dX9_odds_30 (by decide) (fun c_14 => ?_) (fun c_14 => ?_)
      · replace hf := ht_f c_14 hf
        refine lv_iload_n hx hb dX9_odds_37 rfl (lv_at hl 1 rfl) ?_
        obtain ⟨o_15, ho_15, hf⟩ := ht_bn_ob hf
        refine ht_callSl (r := o_15) (rest := []) (As := [.int p0]) (wc := []) (wr := (wMo K jM aM RM.s RM.held RM.aside RM.before RM.isHeld RM.tape RM.taped RM.token RM.frm RM.to RM.value RM.isWrong RM.unpaired RM.bestSound RM.bestWay RM.rows RM.rowN RM.sortOf RM.sizeOf RM.numbers RM.holdsWhat RM.holdsWhich RM.holdsMany RM.bodies RM.ran RM.actKind RM.actN RM.actA RM.isParted)) (w1 := []) (w2 := (wMo K jM aM RM.s RM.held RM.aside RM.before RM.isHeld RM.tape RM.taped RM.token RM.frm RM.to RM.value RM.isWrong RM.unpaired RM.bestSound RM.bestWay RM.rows RM.rowN RM.sortOf RM.sizeOf RM.numbers RM.holdsWhat RM.holdsWhich RM.holdsMany RM.bodies RM.ran RM.actKind RM.actN RM.actA RM.isParted)) hF (ctX9_product l D K p0 o_15 ho_15 H.size) (va_cwS 1 hts gX9_odds_X9_product rfl rfl rfl hdX9_product ⟨Nat.le_of_ble_eq_true rfl, Nat.le_of_ble_eq_true rfl⟩) hK hP hD hS hA [] [0, 1, 2, 3, 4, 5, 6, 7, 8, 9, 10, 11, 12, 13, 14, 15] rfl rfl (by decide) (by decide) (by decide) [0, 1, 2, 3, 4, 5, 6, 7, 8, 9, 10, 11, 12, 13, 14, 15] rfl (by decide) rfl hl.1 rfl (Nat.le_of_ble_eq_true rfl) dX9_odds_38 ⟨Nat.zero_le _, Nat.zero_le _⟩ (fun H locs hP hD hS => ?_)
        refine lv_iload_n hx hb dX9_odds_41 rfl (lv_at hl 2 rfl) ?_
        obtain ⟨o_16, ho_16, hf⟩ := ht_bn_ob hf
        refine ht_callSl (r := o_16) (rest := [.long o_15]) (As := [.int p1]) (wc := []) (wr := (wMo K jM aM RM.s RM.held RM.aside RM.before RM.isHeld RM.tape RM.taped RM.token RM.frm RM.to RM.value RM.isWrong RM.unpaired RM.bestSound RM.bestWay RM.rows RM.rowN RM.sortOf RM.sizeOf RM.numbers RM.holdsWhat RM.holdsWhich RM.holdsMany RM.bodies RM.ran RM.actKind RM.actN RM.actA RM.isParted)) (w1 := []) (w2 := (wMo K jM aM RM.s RM.held RM.aside RM.before RM.isHeld RM.tape RM.taped RM.token RM.frm RM.to RM.value RM.isWrong RM.unpaired RM.bestSound RM.bestWay RM.rows RM.rowN RM.sortOf RM.sizeOf RM.numbers RM.holdsWhat RM.holdsWhich RM.holdsMany RM.bodies RM.ran RM.actKind RM.actN RM.actA RM.isParted)) hF (ctX9_product l D K p1 o_16 ho_16 H.size) (va_cwS 1 hts gX9_odds_X9_product rfl rfl rfl hdX9_product ⟨Nat.le_of_ble_eq_true rfl, Nat.le_of_ble_eq_true rfl⟩) hK hP hD hS hA [] [0, 1, 2, 3, 4, 5, 6, 7, 8, 9, 10, 11, 12, 13, 14, 15] rfl rfl (by decide) (by decide) (by decide) [0, 1, 2, 3, 4, 5, 6, 7, 8, 9, 10, 11, 12, 13, 14, 15] rfl (by decide) rfl hl.1 rfl (Nat.le_of_ble_eq_true rfl) dX9_odds_42 ⟨Nat.zero_le _, Nat.zero_le _⟩ (fun H locs hP hD hS => ?_)
        obtain ⟨g_17, hf⟩ := ht_gd_ob hf
        refine lv_ldiv hx hb dX9_odds_45 (ht_nzL_ne g_17) ?_
        refine lv_iload_n hx hb dX9_odds_46 rfl (lv_at hl 1 rfl) ?_
        refine lv_iload_n hx hb dX9_odds_47 rfl (lv_at hl 2 rfl) ?_
        refine lv_isub hx hb dX9_odds_48 ?_
        obtain ⟨o_18, ho_18, hf⟩ := ht_bn_ob hf
        refine ht_callSl (r := o_18) (rest := [.long (o_15 / o_16)]) (As := [.int (p0 - p1)]) (wc := []) (wr := (wMo K jM aM RM.s RM.held RM.aside RM.before RM.isHeld RM.tape RM.taped RM.token RM.frm RM.to RM.value RM.isWrong RM.unpaired RM.bestSound RM.bestWay RM.rows RM.rowN RM.sortOf RM.sizeOf RM.numbers RM.holdsWhat RM.holdsWhich RM.holdsMany RM.bodies RM.ran RM.actKind RM.actN RM.actA RM.isParted)) (w1 := []) (w2 := (wMo K jM aM RM.s RM.held RM.aside RM.before RM.isHeld RM.tape RM.taped RM.token RM.frm RM.to RM.value RM.isWrong RM.unpaired RM.bestSound RM.bestWay RM.rows RM.rowN RM.sortOf RM.sizeOf RM.numbers RM.holdsWhat RM.holdsWhich RM.holdsMany RM.bodies RM.ran RM.actKind RM.actN RM.actA RM.isParted)) hF (ctX9_product l D K (p0 - p1) o_18 ho_18 H.size) (va_cwS 1 hts gX9_odds_X9_product rfl rfl rfl hdX9_product ⟨Nat.le_of_ble_eq_true rfl, Nat.le_of_ble_eq_true rfl⟩) hK hP hD hS hA [] [0, 1, 2, 3, 4, 5, 6, 7, 8, 9, 10, 11, 12, 13, 14, 15] rfl rfl (by decide) (by decide) (by decide) [0, 1, 2, 3, 4, 5, 6, 7, 8, 9, 10, 11, 12, 13, 14, 15] rfl (by decide) rfl hl.1 rfl (Nat.le_of_ble_eq_true rfl) dX9_odds_49 ⟨Nat.zero_le _, Nat.zero_le _⟩ (fun H locs hP hD hS => ?_)
        obtain ⟨g_19, hf⟩ := ht_gd_ob hf
        refine lv_ldiv hx hb dX9_odds_52 (ht_nzL_ne g_19) ?_
        obtain ⟨x4_20, ex4_20, hf⟩ := ht_nm_ob hf
        rw [← ex4_20]
        refine lv_lstore (lv' := [(4, .long x4_20), (0, .ref jM), (1, .int p0), (2, .int p1), (3, .int p2)]) hx hb dX9_odds_53 hl (by decide) rfl (fun ls hl => ?_)
        refine lv_lconst (v := 1) hx hb dX9_odds_55 (by decide) ?_
        refine lv_lstore (lv' := [(6, .long (1 : Int64)), (4, .long x4_20), (0, .ref jM), (1, .int p0), (2, .int p1), (3, .int p2)]) hx hb dX9_odds_56 hl (by decide) rfl (fun ls hl => ?_)
        refine lv_iconst (v := 0) hx hb dX9_odds_58 (by decide) ?_
        refine lv_istore (lv' := [(8, .int (0 : Int32)), (6, .long (1 : Int64)), (4, .long x4_20), (0, .ref jM), (1, .int p0), (2, .int p1), (3, .int p2)]) hx hb dX9_odds_59 hl (by decide) rfl (fun ls hl => ?_)
        exact b61  FU p0 p1 p2 x4_20 (1 : Int64) (0 : Int32) _ _ _ hf hP hD hS (lv_sub hl [3, 4, 5, 6, 2, 1, 0] rfl)
      · replace hf := ht_t c_14 hf
        refine lv_ldc2 hx hb hown kw4 dX9_odds_33 ?_
        have ho := Option.some.inj hf
        subst ho; subst hQ
        exact ht_lret hx hb hr hlk hK hP hD hS dX9_odds_36
abbrev rmX9_hope : Room := { frames := 1, cells := 0, slots := 0, locals := 30 }
theorem hdX9_hope : yX9_hope.cls = RX9 ∧ yX9_hope.cls ≠ "java/lang/invoke/MethodHandle" ∧ yX9_hope.cls ≠ "java/lang/invoke/VarHandle" ∧ (parseMethodDescriptor yX9_hope.desc).map (fun d => d.parameters.length) = some 2 := by decide +kernel
def fX9_hope_b46 (RM : ModV) (t0 : Int64) : Option Int64 := some t0
def fX9_hope (RM : ModV) (p0 : Int32) (p1 : Int32) : Option Int64 := ht_bn (fX9_isIn p0.toInt64 (0 : Int64) (99 : Int64)) (fun o_1 => if o_1 = 0 then (fX9_hope_b46 RM (-1 : Int64)) else (ht_bn (fX9_isIn p1.toInt64 (0 : Int64) (1 : Int64)) (fun o_3 => if o_3 = 0 then (fX9_hope_b46 RM (-1 : Int64)) else (ht_gd (ht_ix (8 : Int32) 57) (ht_bn (fX9_partOf (p0.toInt64 * (RM.s (8 : Int32).toNatClampNeg).toInt64) (100 : Int64) p1) (fun o_6 => fX9_hope_b46 RM o_6))))))
set_option maxHeartbeats 1000000 in
set_option maxRecDepth 100000 in
theorem ctX9_hope (l : Launch) (D : va_G) (K : Nat → ClassId) (jM : Nat) (aM : Nat → Nat) (RM : ModV) (p0 : Int32) (p1 : Int32) (o : Int64) (hf : fX9_hope RM p0 p1 = some o) (sz : Nat) : Met l yX9_hope wsX9_hope rmX9_hope (ht_Pre D K [.ref jM, .int p0, .int p1] (wMo K jM aM RM.s RM.held RM.aside RM.before RM.isHeld RM.tape RM.taped RM.token RM.frm RM.to RM.value RM.isWrong RM.unpaired RM.bestSound RM.bestWay RM.rows RM.rowN RM.sortOf RM.sizeOf RM.numbers RM.holdsWhat RM.holdsWhich RM.holdsMany RM.bodies RM.ran RM.actKind RM.actN RM.actA RM.isParted) sz) (ht_Ql D K (wMo K jM aM RM.s RM.held RM.aside RM.before RM.isHeld RM.tape RM.taped RM.token RM.frm RM.to RM.value RM.isWrong RM.unpaired RM.bestSound RM.bestWay RM.rows RM.rowN RM.sortOf RM.sizeOf RM.numbers RM.holdsWhat RM.holdsWhich RM.holdsMany RM.bodies RM.ran RM.actKind RM.actN RM.actA RM.isParted) o (va_A (wMo K jM aM RM.s RM.held RM.aside RM.before RM.isHeld RM.tape RM.taped RM.token RM.frm RM.to RM.value RM.isWrong RM.unpaired RM.bestSound RM.bestWay RM.rows RM.rowN RM.sortOf RM.sizeOf RM.numbers RM.holdsWhat RM.holdsWhich RM.holdsMany RM.bodies RM.ran RM.actKind RM.actN RM.actA RM.isParted) sz)) 0 0 (va_A (wMo K jM aM RM.s RM.held RM.aside RM.before RM.isHeld RM.tape RM.taped RM.token RM.frm RM.to RM.value RM.isWrong RM.unpaired RM.bestSound RM.bestWay RM.rows RM.rowN RM.sortOf RM.sizeOf RM.numbers RM.holdsWhat RM.holdsWhich RM.holdsMany RM.bodies RM.ran RM.actKind RM.actN RM.actA RM.isParted) sz) := by
  refine ht_enter (Qf := ht_Ql D K (wMo K jM aM RM.s RM.held RM.aside RM.before RM.isHeld RM.tape RM.taped RM.token RM.frm RM.to RM.value RM.isWrong RM.unpaired RM.bestSound RM.bestWay RM.rows RM.rowN RM.sortOf RM.sizeOf RM.numbers RM.holdsWhat RM.holdsWhich RM.holdsMany RM.bodies RM.ran RM.actKind RM.actN RM.actA RM.isParted) o) (cc := cX9_hope) (maxL := 3) (rt := (some .long)) (by decide) rfl (Nat.le_of_ble_eq_true rfl) ?_ sz
  intro p e s m below meth c A Q H locs ls hQ hx hb hr hlk hmn hml hown hts hA hK hP hD hS hl
  have hown : s.vm.findClass RX9 = some m.cls := hown
  have hF : CallFix p m c cX9_hope 3 s ([.ref jM, .int p0, .int p1] : List Value).toArray wsX9_hope RX9 := ⟨hx, hb, hml, hown, hts⟩
  have hl : lv_has ls 3 [(0, .ref jM), (1, .int p0), (2, .int p1)] := hl
  have kw0 := hts (.constantLong RX9 162 (99)) (by decide +kernel)
  have kw1 := hts (.constantLong RX9 258 (-1)) (by decide +kernel)
  have iw9 : ∀ w ∈ u_ws RX9 TX9 29, w ∈ wsX9_hope := by decide +kernel
  have kw3 := hts (.fieldLink RX9 7 "HeldTonguesModel" "s" "[I") (by decide +kernel)
  have kw4 := hts (.constantLong RX9 264 (100)) (by decide +kernel)
  have b46 : ∀ (t0 : Int64) (H : Heap) (locs : List Loc) (ls : Array Slot), fX9_hope_b46 RM t0 = some o → va_P D vwCl (wMo K jM aM RM.s RM.held RM.aside RM.before RM.isHeld RM.tape RM.taped RM.token RM.frm RM.to RM.value RM.isWrong RM.unpaired RM.bestSound RM.bestWay RM.rows RM.rowN RM.sortOf RM.sizeOf RM.numbers RM.holdsWhat RM.holdsWhich RM.holdsMany RM.bodies RM.ran RM.actKind RM.actN RM.actA RM.isParted) H → va_D A (wMo K jM aM RM.s RM.held RM.aside RM.before RM.isHeld RM.tape RM.taped RM.token RM.frm RM.to RM.value RM.isWrong RM.unpaired RM.bestSound RM.bestWay RM.rows RM.rowN RM.sortOf RM.sizeOf RM.numbers RM.holdsWhat RM.holdsWhich RM.holdsMany RM.bodies RM.ran RM.actKind RM.actN RM.actA RM.isParted) → va_S A s.heap H locs → lv_has ls 3 [] → W p l e (headSpec wsX9_hope rmX9_hope).room s m ([.ref jM, .int p0, .int p1] : List Value).toArray below meth c H locs 0 0 Q (F0 m 46 ls [.long t0]) := by
    intro t0 H locs ls hf hP hD hS hl
    delta fX9_hope_b46 at hf
    have ho := Option.some.inj hf
    subst ho; subst hQ
    exact ht_lret hx hb hr hlk hK hP hD hS dX9_hope_46
  delta fX9_hope at hf
  refine lv_iload_n hx hb dX9_hope_0 rfl (lv_at hl 1 rfl) ?_
  refine lv_i2l hx hb dX9_hope_1 rfl ?_
  refine lv_lconst (v := 0) hx hb dX9_hope_2 (by decide) ?_
  refine lv_ldc2 hx hb hown kw0 dX9_hope_3 ?_
  obtain ⟨o_1, ho_1, hf⟩ := ht_bn_ob hf
  refine ht_callSi (r := o_1) (rest := []) (As := [.long p0.toInt64, .long (0 : Int64), .long (99 : Int64)]) (wc := []) (wr := (wMo K jM aM RM.s RM.held RM.aside RM.before RM.isHeld RM.tape RM.taped RM.token RM.frm RM.to RM.value RM.isWrong RM.unpaired RM.bestSound RM.bestWay RM.rows RM.rowN RM.sortOf RM.sizeOf RM.numbers RM.holdsWhat RM.holdsWhich RM.holdsMany RM.bodies RM.ran RM.actKind RM.actN RM.actA RM.isParted)) (w1 := []) (w2 := (wMo K jM aM RM.s RM.held RM.aside RM.before RM.isHeld RM.tape RM.taped RM.token RM.frm RM.to RM.value RM.isWrong RM.unpaired RM.bestSound RM.bestWay RM.rows RM.rowN RM.sortOf RM.sizeOf RM.numbers RM.holdsWhat RM.holdsWhich RM.holdsMany RM.bodies RM.ran RM.actKind RM.actN RM.actA RM.isParted)) hF (ctX9_isIn l D K p0.toInt64 (0 : Int64) (99 : Int64) o_1 ho_1 H.size) (va_cwS 3 hts gX9_hope_X9_isIn rfl rfl rfl hdX9_isIn ⟨Nat.le_of_ble_eq_true rfl, Nat.le_of_ble_eq_true rfl⟩) hK hP hD hS hA [] [0, 1, 2, 3, 4, 5, 6, 7, 8, 9, 10, 11, 12, 13, 14, 15] rfl rfl (by decide) (by decide) (by decide) [0, 1, 2, 3, 4, 5, 6, 7, 8, 9, 10, 11, 12, 13, 14, 15] rfl (by decide) rfl hl.1 rfl (Nat.le_of_ble_eq_true rfl) dX9_hope_6 ⟨Nat.zero_le _, Nat.zero_le _⟩ (fun H locs hP hD hS => ?_)
  refine lv_if_eq (tgt := 43) hx hb dX9_hope_9 (by decide) (fun c_2 => ?_) (fun c_2 => ?_)
  · replace hf := ht_t c_2 hf
    refine lv_ldc2 hx hb hown kw1 dX9_hope_43 ?_
    exact b46  (-1 : Int64) _ _ _ hf hP hD hS (lv_sub hl [] rfl)
  · replace hf := ht_f c_2 hf
    refine lv_iload_n hx hb dX9_hope_12 rfl (lv_at hl 2 rfl) ?_
    refine lv_i2l hx hb dX9_hope_13 rfl ?_
    refine lv_lconst (v := 0) hx hb dX9_hope_14 (by decide) ?_
    refine lv_lconst (v := 1) hx hb dX9_hope_15 (by decide) ?_
    obtain ⟨o_3, ho_3, hf⟩ := ht_bn_ob hf
    refine ht_callSi (r := o_3) (rest := []) (As := [.long p1.toInt64, .long (0 : Int64), .long (1 : Int64)]) (wc := []) (wr := (wMo K jM aM RM.s RM.held RM.aside RM.before RM.isHeld RM.tape RM.taped RM.token RM.frm RM.to RM.value RM.isWrong RM.unpaired RM.bestSound RM.bestWay RM.rows RM.rowN RM.sortOf RM.sizeOf RM.numbers RM.holdsWhat RM.holdsWhich RM.holdsMany RM.bodies RM.ran RM.actKind RM.actN RM.actA RM.isParted)) (w1 := []) (w2 := (wMo K jM aM RM.s RM.held RM.aside RM.before RM.isHeld RM.tape RM.taped RM.token RM.frm RM.to RM.value RM.isWrong RM.unpaired RM.bestSound RM.bestWay RM.rows RM.rowN RM.sortOf RM.sizeOf RM.numbers RM.holdsWhat RM.holdsWhich RM.holdsMany RM.bodies RM.ran RM.actKind RM.actN RM.actA RM.isParted)) hF (ctX9_isIn l D K p1.toInt64 (0 : Int64) (1 : Int64) o_3 ho_3 H.size) (va_cwS 3 hts gX9_hope_X9_isIn rfl rfl rfl hdX9_isIn ⟨Nat.le_of_ble_eq_true rfl, Nat.le_of_ble_eq_true rfl⟩) hK hP hD hS hA [] [0, 1, 2, 3, 4, 5, 6, 7, 8, 9, 10, 11, 12, 13, 14, 15] rfl rfl (by decide) (by decide) (by decide) [0, 1, 2, 3, 4, 5, 6, 7, 8, 9, 10, 11, 12, 13, 14, 15] rfl (by decide) rfl hl.1 rfl (Nat.le_of_ble_eq_true rfl) dX9_hope_16 ⟨Nat.zero_le _, Nat.zero_le _⟩ (fun H locs hP hD hS => ?_)
    refine lv_if_eq (tgt := 43) hx hb dX9_hope_19 (by decide) (fun c_4 => ?_) (fun c_4 => ?_)
    · replace hf := ht_t c_4 hf
      refine lv_ldc2 hx hb hown kw1 dX9_hope_43 ?_
      exact b46  (-1 : Int64) _ _ _ hf hP hD hS (lv_sub hl [] rfl)
    · replace hf := ht_f c_4 hf
      refine lv_iload_n hx hb dX9_hope_22 rfl (lv_at hl 1 rfl) ?_
      refine lv_i2l hx hb dX9_hope_23 rfl ?_
      refine lv_aload_n hx hb dX9_hope_24 rfl (lv_at hl 0 rfl) ?_
      refine va_get (D := D) (ci := 9) (v := .ref (aM 0)) (C := RX9) (T := TX9) (N := 29) hx hb hts iw9 hown hK hP 0 rfl rfl 0 (by decide) kw3 (fun _ h9 => h9) rfl dX9_hope_25 ?_
      refine lv_bipush (v := 8) hx hb dX9_hope_28 (by decide) ?_
      obtain ⟨g_5, hf⟩ := ht_gd_ob hf
      refine va_iald hx hb hK hP 1 1 rfl rfl (ht_ix_in g_5) dX9_hope_30 ?_
      refine lv_i2l hx hb dX9_hope_31 rfl ?_
      refine lv_lmul hx hb dX9_hope_32 ?_
      refine lv_ldc2 hx hb hown kw4 dX9_hope_33 ?_
      refine lv_iload_n hx hb dX9_hope_36 rfl (lv_at hl 2 rfl) ?_
      obtain ⟨o_6, ho_6, hf⟩ := ht_bn_ob hf
      refine ht_callSl (r := o_6) (rest := []) (As := [.long (p0.toInt64 * (RM.s (8 : Int32).toNatClampNeg).toInt64), .long (100 : Int64), .int p1]) (wc := []) (wr := (wMo K jM aM RM.s RM.held RM.aside RM.before RM.isHeld RM.tape RM.taped RM.token RM.frm RM.to RM.value RM.isWrong RM.unpaired RM.bestSound RM.bestWay RM.rows RM.rowN RM.sortOf RM.sizeOf RM.numbers RM.holdsWhat RM.holdsWhich RM.holdsMany RM.bodies RM.ran RM.actKind RM.actN RM.actA RM.isParted)) (w1 := []) (w2 := (wMo K jM aM RM.s RM.held RM.aside RM.before RM.isHeld RM.tape RM.taped RM.token RM.frm RM.to RM.value RM.isWrong RM.unpaired RM.bestSound RM.bestWay RM.rows RM.rowN RM.sortOf RM.sizeOf RM.numbers RM.holdsWhat RM.holdsWhich RM.holdsMany RM.bodies RM.ran RM.actKind RM.actN RM.actA RM.isParted)) hF (ctX9_partOf l D K (p0.toInt64 * (RM.s (8 : Int32).toNatClampNeg).toInt64) (100 : Int64) p1 o_6 ho_6 H.size) (va_cwS 3 hts gX9_hope_X9_partOf rfl rfl rfl hdX9_partOf ⟨Nat.le_of_ble_eq_true rfl, Nat.le_of_ble_eq_true rfl⟩) hK hP hD hS hA [] [0, 1, 2, 3, 4, 5, 6, 7, 8, 9, 10, 11, 12, 13, 14, 15] rfl rfl (by decide) (by decide) (by decide) [0, 1, 2, 3, 4, 5, 6, 7, 8, 9, 10, 11, 12, 13, 14, 15] rfl (by decide) rfl hl.1 rfl (Nat.le_of_ble_eq_true rfl) dX9_hope_37 ⟨Nat.zero_le _, Nat.zero_le _⟩ (fun H locs hP hD hS => ?_)
      refine lv_goto (tgt := 46) hx hb dX9_hope_40 (by decide) ?_
      exact b46  o_6 _ _ _ hf hP hD hS (lv_sub hl [] rfl)
abbrev rmX9_prove : Room := { frames := 4, cells := 0, slots := 0, locals := 93 }
theorem hdX9_prove : yX9_prove.cls = RX9 ∧ yX9_prove.cls ≠ "java/lang/invoke/MethodHandle" ∧ yX9_prove.cls ≠ "java/lang/invoke/VarHandle" ∧ (parseMethodDescriptor yX9_prove.desc).map (fun d => d.parameters.length) = some 2 := by decide +kernel
def fX9_prove_b90 (RM : ModV) (x2 : Int32) (vM_s : AI) (vM_aside : AI) (vM_rows : AI) (vM_rowN : Int32) : Option (Int32 × AI × AI × AI × Int32) := ht_bn (fX9_copyRow vM_aside vM_s) (fun o_1 => some (x2, o_1, vM_aside, vM_rows, x2))
def fX9_prove_b35 (RM : ModV) (k35 : Int32 → Int32 → Int32 → AI → AI → AI → Int32 → Option (Int32 × AI × AI × AI × Int32)) (x1 : Int32) (x2 : Int32) (x3 : Int32) (vM_s : AI) (vM_aside : AI) (vM_rows : AI) (vM_rowN : Int32) : Option (Int32 × AI × AI × AI × Int32) := if x2 ≤ x3 then (fX9_prove_b90 RM x2 vM_s vM_aside vM_rows vM_rowN) else (ht_bn (fX9_goesOn (vM_s, RM.held, vM_aside, RM.before, RM.isHeld, RM.tape, RM.taped, RM.token, RM.frm, RM.to, RM.value, RM.isWrong, RM.unpaired, RM.bestSound, RM.bestWay, vM_rows, vM_rowN, RM.sortOf, RM.sizeOf, RM.numbers, RM.holdsWhat, RM.holdsWhich, RM.holdsMany, RM.bodies, RM.ran, RM.actKind, RM.actN, RM.actA, RM.isParted)) (fun o_3 => ht_gd (ht_ix (((3 : Int32) * x3) + (2 : Int32)) 30) (ht_nm (upd vM_rows (((3 : Int32) * x3) + (2 : Int32)).toNatClampNeg o_3.1) (fun vM_rows_5 => ht_bn (fX9_its (o_3.2, RM.held, vM_aside, RM.before, RM.isHeld, RM.tape, RM.taped, RM.token, RM.frm, RM.to, RM.value, RM.isWrong, RM.unpaired, RM.bestSound, RM.bestWay, vM_rows_5, vM_rowN, RM.sortOf, RM.sizeOf, RM.numbers, RM.holdsWhat, RM.holdsWhich, RM.holdsMany, RM.bodies, RM.ran, RM.actKind, RM.actN, RM.actA, RM.isParted) x1 (1 : Int32)) (fun o_6 => ht_gd (ht_ix ((3 : Int32) * x3) 30) (ht_nm (upd vM_rows_5 ((3 : Int32) * x3).toNatClampNeg o_6) (fun vM_rows_8 => ht_bn (fX9_its (o_3.2, RM.held, vM_aside, RM.before, RM.isHeld, RM.tape, RM.taped, RM.token, RM.frm, RM.to, RM.value, RM.isWrong, RM.unpaired, RM.bestSound, RM.bestWay, vM_rows_8, vM_rowN, RM.sortOf, RM.sizeOf, RM.numbers, RM.holdsWhat, RM.holdsWhich, RM.holdsMany, RM.bodies, RM.ran, RM.actKind, RM.actN, RM.actA, RM.isParted) x1 (2 : Int32)) (fun o_9 => ht_gd (ht_ix (((3 : Int32) * x3) + (1 : Int32)) 30) (ht_nm (upd vM_rows_8 (((3 : Int32) * x3) + (1 : Int32)).toNatClampNeg o_9) (fun vM_rows_11 => ht_nm (x3 + (1 : Int32)) (fun x3_12 => k35 x1 x2 x3_12 o_3.2 vM_aside vM_rows_11 vM_rowN)))))))))))
def fX9_prove (RM : ModV) (p0 : Int32) (p1 : Int32) : Option (Int32 × AI × AI × AI × Int32) := ht_bn (fX9_isOne RM p0) (fun o_13 => if o_13 = 0 then (some ((-1 : Int32), RM.s, RM.aside, RM.rows, RM.rowN)) else (ht_bn (fX9_isIn p1.toInt64 (1 : Int64) (10 : Int64)) (fun o_15 => if o_15 = 0 then (some ((-1 : Int32), RM.s, RM.aside, RM.rows, RM.rowN)) else (ht_bn (fX9_copyRow RM.s RM.aside) (fun o_17 => ht_lp7 (fX9_prove_b35 RM) FU p0 p1 (0 : Int32) RM.s o_17 RM.rows RM.rowN)))))
set_option maxHeartbeats 1000000 in
set_option maxRecDepth 100000 in
theorem ctX9_prove (l : Launch) (D : va_G) (K : Nat → ClassId) (jM : Nat) (aM : Nat → Nat) (RM : ModV) (p0 : Int32) (p1 : Int32) (o : (Int32 × AI × AI × AI × Int32)) (hf : fX9_prove RM p0 p1 = some o) (sz : Nat) : Met l yX9_prove wsX9_prove rmX9_prove (ht_Pre D K [.ref jM, .int p0, .int p1] (wMo K jM aM RM.s RM.held RM.aside RM.before RM.isHeld RM.tape RM.taped RM.token RM.frm RM.to RM.value RM.isWrong RM.unpaired RM.bestSound RM.bestWay RM.rows RM.rowN RM.sortOf RM.sizeOf RM.numbers RM.holdsWhat RM.holdsWhich RM.holdsMany RM.bodies RM.ran RM.actKind RM.actN RM.actA RM.isParted) sz) (ht_Qi D K (wMo K jM aM o.2.1 RM.held o.2.2.1 RM.before RM.isHeld RM.tape RM.taped RM.token RM.frm RM.to RM.value RM.isWrong RM.unpaired RM.bestSound RM.bestWay o.2.2.2.1 o.2.2.2.2 RM.sortOf RM.sizeOf RM.numbers RM.holdsWhat RM.holdsWhich RM.holdsMany RM.bodies RM.ran RM.actKind RM.actN RM.actA RM.isParted) o.1 (va_A (wMo K jM aM RM.s RM.held RM.aside RM.before RM.isHeld RM.tape RM.taped RM.token RM.frm RM.to RM.value RM.isWrong RM.unpaired RM.bestSound RM.bestWay RM.rows RM.rowN RM.sortOf RM.sizeOf RM.numbers RM.holdsWhat RM.holdsWhich RM.holdsMany RM.bodies RM.ran RM.actKind RM.actN RM.actA RM.isParted) sz)) 0 0 (va_A (wMo K jM aM RM.s RM.held RM.aside RM.before RM.isHeld RM.tape RM.taped RM.token RM.frm RM.to RM.value RM.isWrong RM.unpaired RM.bestSound RM.bestWay RM.rows RM.rowN RM.sortOf RM.sizeOf RM.numbers RM.holdsWhat RM.holdsWhich RM.holdsMany RM.bodies RM.ran RM.actKind RM.actN RM.actA RM.isParted) sz) := by
  refine ht_enter (Qf := ht_Qi D K (wMo K jM aM o.2.1 RM.held o.2.2.1 RM.before RM.isHeld RM.tape RM.taped RM.token RM.frm RM.to RM.value RM.isWrong RM.unpaired RM.bestSound RM.bestWay o.2.2.2.1 o.2.2.2.2 RM.sortOf RM.sizeOf RM.numbers RM.holdsWhat RM.holdsWhich RM.holdsMany RM.bodies RM.ran RM.actKind RM.actN RM.actA RM.isParted) o.1) (cc := cX9_prove) (maxL := 4) (rt := (some .int)) (by decide) rfl (Nat.le_of_ble_eq_true rfl) ?_ sz
  intro p e s m below meth c A Q H locs ls hQ hx hb hr hlk hmn hml hown hts hA hK hP hD hS hl
  have hown : s.vm.findClass RX9 = some m.cls := hown
  have hF : CallFix p m c cX9_prove 4 s ([.ref jM, .int p0, .int p1] : List Value).toArray wsX9_prove RX9 := ⟨hx, hb, hml, hown, hts⟩
  have hl : lv_has ls 4 [(0, .ref jM), (1, .int p0), (2, .int p1)] := hl
  have iw9 : ∀ w ∈ u_ws RX9 TX9 29, w ∈ wsX9_prove := by decide +kernel
  have kw1 := hts (.fieldLink RX9 16 "HeldTonguesModel" "aside" "[I") (by decide +kernel)
  have kw2 := hts (.fieldLink RX9 7 "HeldTonguesModel" "s" "[I") (by decide +kernel)
  have kw3 := hts (.fieldLink RX9 157 "HeldTonguesModel" "rowN" "I") (by decide +kernel)
  have kw4 := hts (.fieldLink RX9 31 "HeldTonguesModel" "rows" "[I") (by decide +kernel)
  have kw5 := hts (.constantLong RX9 270 (10)) (by decide +kernel)
  have b90 : ∀ (x2 : Int32) (vM_s : AI) (vM_aside : AI) (vM_rows : AI) (vM_rowN : Int32) (H : Heap) (locs : List Loc) (ls : Array Slot), fX9_prove_b90 RM x2 vM_s vM_aside vM_rows vM_rowN = some o → va_P D vwCl (wMo K jM aM vM_s RM.held vM_aside RM.before RM.isHeld RM.tape RM.taped RM.token RM.frm RM.to RM.value RM.isWrong RM.unpaired RM.bestSound RM.bestWay vM_rows vM_rowN RM.sortOf RM.sizeOf RM.numbers RM.holdsWhat RM.holdsWhich RM.holdsMany RM.bodies RM.ran RM.actKind RM.actN RM.actA RM.isParted) H → va_D A (wMo K jM aM vM_s RM.held vM_aside RM.before RM.isHeld RM.tape RM.taped RM.token RM.frm RM.to RM.value RM.isWrong RM.unpaired RM.bestSound RM.bestWay vM_rows vM_rowN RM.sortOf RM.sizeOf RM.numbers RM.holdsWhat RM.holdsWhich RM.holdsMany RM.bodies RM.ran RM.actKind RM.actN RM.actA RM.isParted) → va_S A s.heap H locs → lv_has ls 4 [(0, .ref jM), (2, .int x2)] → W p l e (headSpec wsX9_prove rmX9_prove).room s m ([.ref jM, .int p0, .int p1] : List Value).toArray below meth c H locs 0 0 Q (F0 m 90 ls []) := by
    intro x2 vM_s vM_aside vM_rows vM_rowN H locs ls hf hP hD hS hl
    delta fX9_prove_b90 at hf
    refine lv_aload_n hx hb dX9_prove_90 rfl (lv_at hl 0 rfl) ?_
    refine va_get (D := D) (ci := 9) (v := .ref (aM 2)) (C := RX9) (T := TX9) (N := 29) hx hb hts iw9 hown hK hP 0 rfl rfl 2 (by decide) kw1 (fun _ h9 => h9) rfl dX9_prove_91 ?_
    refine lv_aload_n hx hb dX9_prove_94 rfl (lv_at hl 0 rfl) ?_
    refine va_get (D := D) (ci := 9) (v := .ref (aM 0)) (C := RX9) (T := TX9) (N := 29) hx hb hts iw9 hown hK hP 0 rfl rfl 0 (by decide) kw2 (fun _ h9 => h9) rfl dX9_prove_95 ?_
    obtain ⟨o_1, ho_1, hf⟩ := ht_bn_ob hf
    refine ht_callSv (rest := []) (As := [.ref (aM 2), .ref (aM 0)]) (wc := (wAr K 57 (aM 2) vM_aside ++ (wAr K 57 (aM 0) vM_s))) (wr := ([(jM, .inr (9, [.ref (aM 0), .ref (aM 1), .ref (aM 2), .ref (aM 3), .int RM.isHeld, .ref (aM 4), .int RM.taped, .int RM.token, .int RM.frm, .int RM.to, .int RM.value, .int RM.isWrong, .ref (aM 5), .int RM.bestSound, .ref (aM 6), .ref (aM 7), .int vM_rowN, .ref (aM 8), .ref (aM 9), .ref (aM 10), .ref (aM 11), .ref (aM 12), .ref (aM 13), .ref (aM 14), .int RM.ran, .int RM.actKind, .int RM.actN, .int RM.actA, .int RM.isParted]))] ++ ([(aM 1, .inl (K 1, 57, .inl RM.held))] ++ ([(aM 3, .inl (K 1, 57, .inl RM.before))] ++ ([(aM 4, .inl (K 1, 200, .inl RM.tape))] ++ ([(aM 5, .inl (K 1, 57, .inl RM.unpaired))] ++ ([(aM 6, .inl (K 1, 8, .inl RM.bestWay))] ++ ([(aM 7, .inl (K 1, 30, .inl vM_rows))] ++ ([(aM 8, .inl (K 1, 4, .inl RM.sortOf))] ++ ([(aM 9, .inl (K 1, 4, .inl RM.sizeOf))] ++ ([(aM 10, .inl (K 1, 160, .inl RM.numbers))] ++ ([(aM 11, .inl (K 1, 4, .inl RM.holdsWhat))] ++ ([(aM 12, .inl (K 1, 4, .inl RM.holdsWhich))] ++ ([(aM 13, .inl (K 1, 4, .inl RM.holdsMany))] ++ ([(aM 14, .inl (K 1, 30, .inl RM.bodies))]))))))))))))))) (w1 := (wAr K 57 (aM 2) vM_aside ++ (wAr K 57 (aM 0) o_1))) (w2 := (wMo K jM aM o_1 RM.held vM_aside RM.before RM.isHeld RM.tape RM.taped RM.token RM.frm RM.to RM.value RM.isWrong RM.unpaired RM.bestSound RM.bestWay vM_rows vM_rowN RM.sortOf RM.sizeOf RM.numbers RM.holdsWhat RM.holdsWhich RM.holdsMany RM.bodies RM.ran RM.actKind RM.actN RM.actA RM.isParted)) hF (ctX9_copyRow l D K (aM 2) (aM 0) vM_aside vM_s o_1 ho_1 H.size) (va_cwS 2 hts gX9_prove_X9_copyRow rfl rfl rfl hdX9_copyRow ⟨Nat.le_of_ble_eq_true rfl, Nat.le_of_ble_eq_true rfl⟩) hK hP hD hS hA [3, 1] [0, 2, 4, 5, 6, 7, 8, 9, 10, 11, 12, 13, 14, 15] rfl rfl (by decide) (by decide) (by decide) [0, 15, 1, 14, 2, 3, 4, 5, 6, 7, 8, 9, 10, 11, 12, 13] rfl (by decide) rfl hl.1 rfl (Nat.le_of_ble_eq_true rfl) dX9_prove_98 ⟨Nat.zero_le _, Nat.zero_le _⟩ (fun H locs hP hD hS => ?_)
    refine lv_aload_n hx hb dX9_prove_101 rfl (lv_at hl 0 rfl) ?_
    refine lv_iload_n hx hb dX9_prove_102 rfl (lv_at hl 1 rfl) ?_
    refine ht_put (ci := 9) (v := .int x2) (ty := .int) (C := RX9) (T := TX9) (N := 29) (w2 := (wMo K jM aM o_1 RM.held vM_aside RM.before RM.isHeld RM.tape RM.taped RM.token RM.frm RM.to RM.value RM.isWrong RM.unpaired RM.bestSound RM.bestWay vM_rows x2 RM.sortOf RM.sizeOf RM.numbers RM.holdsWhat RM.holdsWhich RM.holdsMany RM.bodies RM.ran RM.actKind RM.actN RM.actA RM.isParted)) hx hb hts iw9 tyX9 tyX9_ok nmX9 hown hK hP hD hS 0 rfl rfl 16 (by decide) kw3 (fun _ h9 => h9) rfl (by decide +kernel) rfl rfl (Nat.le_of_ble_eq_true rfl) dX9_prove_103 rfl (fun H locs hP hD hS => ?_)
    refine lv_iload_n hx hb dX9_prove_106 rfl (lv_at hl 1 rfl) ?_
    have ho := Option.some.inj hf
    subst ho; subst hQ
    exact ht_iret hx hb hr hlk rfl hK hP hD hS dX9_prove_107
  have b35 : ∀ (n : Nat) (x1 : Int32) (x2 : Int32) (x3 : Int32) (vM_s : AI) (vM_aside : AI) (vM_rows : AI) (vM_rowN : Int32) (H : Heap) (locs : List Loc) (ls : Array Slot), ht_lp7 (fX9_prove_b35 RM) n x1 x2 x3 vM_s vM_aside vM_rows vM_rowN = some o → va_P D vwCl (wMo K jM aM vM_s RM.held vM_aside RM.before RM.isHeld RM.tape RM.taped RM.token RM.frm RM.to RM.value RM.isWrong RM.unpaired RM.bestSound RM.bestWay vM_rows vM_rowN RM.sortOf RM.sizeOf RM.numbers RM.holdsWhat RM.holdsWhich RM.holdsMany RM.bodies RM.ran RM.actKind RM.actN RM.actA RM.isParted) H → va_D A (wMo K jM aM vM_s RM.held vM_aside RM.before RM.isHeld RM.tape RM.taped RM.token RM.frm RM.to RM.value RM.isWrong RM.unpaired RM.bestSound RM.bestWay vM_rows vM_rowN RM.sortOf RM.sizeOf RM.numbers RM.holdsWhat RM.holdsWhich RM.holdsMany RM.bodies RM.ran RM.actKind RM.actN RM.actA RM.isParted) → va_S A s.heap H locs → lv_has ls 4 [(0, .ref jM), (1, .int x1), (2, .int x2), (3, .int x3)] → W p l e (headSpec wsX9_prove rmX9_prove).room s m ([.ref jM, .int p0, .int p1] : List Value).toArray below meth c H locs 0 0 Q (F0 m 35 ls []) := by
    intro n
    induction n with
    | zero =>
      intro x1 x2 x3 vM_s vM_aside vM_rows vM_rowN H locs ls hf hP hD hS hl
      cases (show (none : Option (Int32 × AI × AI × AI × Int32)) = some o from hf)
    | succ n hk35 =>
      intro x1 x2 x3 vM_s vM_aside vM_rows vM_rowN H locs ls hf hP hD hS hl
      replace hf : fX9_prove_b35 RM (ht_lp7 (fX9_prove_b35 RM) n) x1 x2 x3 vM_s vM_aside vM_rows vM_rowN = some o := hf
      delta fX9_prove_b35 at hf
      refine lv_iload_n hx hb dX9_prove_35 rfl (lv_at hl 3 rfl) ?_
      refine lv_iload_n hx hb dX9_prove_36 rfl (lv_at hl 2 rfl) ?_
      refine lv_icmp_ge (tgt := 90) hx hb dX9_prove_37 (by decide) (fun c_2 => ?_) (fun c_2 => ?_)
      · replace hf := ht_t c_2 hf
        exact b90  x2 vM_s vM_aside vM_rows vM_rowN _ _ _ hf hP hD hS (lv_sub hl [0, 2] rfl)
      · replace hf := ht_f c_2 hf
        refine lv_aload_n hx hb dX9_prove_40 rfl (lv_at hl 0 rfl) ?_
        refine va_get (D := D) (ci := 9) (v := .ref (aM 7)) (C := RX9) (T := TX9) (N := 29) hx hb hts iw9 hown hK hP 0 rfl rfl 15 (by decide) kw4 (fun _ h9 => h9) rfl dX9_prove_41 ?_
        refine lv_iconst (v := 3) hx hb dX9_prove_44 (by decide) ?_
        refine lv_iload_n hx hb dX9_prove_45 rfl (lv_at hl 3 rfl) ?_
        refine lv_imul hx hb dX9_prove_46 ?_
        refine lv_iconst (v := 2) hx hb dX9_prove_47 (by decide) ?_
        refine lv_iadd hx hb dX9_prove_48 ?_
        refine lv_aload_n hx hb dX9_prove_49 rfl (lv_at hl 0 rfl) ?_
        obtain ⟨o_3, ho_3, hf⟩ := ht_bn_ob hf
        refine ht_callVi (r := o_3.1) (rest := [.int (((3 : Int32) * x3) + (2 : Int32)), .ref (aM 7)]) (As := []) (wc := (wMo K jM aM vM_s RM.held vM_aside RM.before RM.isHeld RM.tape RM.taped RM.token RM.frm RM.to RM.value RM.isWrong RM.unpaired RM.bestSound RM.bestWay vM_rows vM_rowN RM.sortOf RM.sizeOf RM.numbers RM.holdsWhat RM.holdsWhich RM.holdsMany RM.bodies RM.ran RM.actKind RM.actN RM.actA RM.isParted)) (wr := []) (w1 := (wMo K jM aM o_3.2 RM.held vM_aside RM.before RM.isHeld RM.tape RM.taped RM.token RM.frm RM.to RM.value RM.isWrong RM.unpaired RM.bestSound RM.bestWay vM_rows vM_rowN RM.sortOf RM.sizeOf RM.numbers RM.holdsWhat RM.holdsWhich RM.holdsMany RM.bodies RM.ran RM.actKind RM.actN RM.actA RM.isParted)) (w2 := (wMo K jM aM o_3.2 RM.held vM_aside RM.before RM.isHeld RM.tape RM.taped RM.token RM.frm RM.to RM.value RM.isWrong RM.unpaired RM.bestSound RM.bestWay vM_rows vM_rowN RM.sortOf RM.sizeOf RM.numbers RM.holdsWhat RM.holdsWhich RM.holdsMany RM.bodies RM.ran RM.actKind RM.actN RM.actA RM.isParted)) hF (ctX9_goesOn l D K jM aM (vM_s, RM.held, vM_aside, RM.before, RM.isHeld, RM.tape, RM.taped, RM.token, RM.frm, RM.to, RM.value, RM.isWrong, RM.unpaired, RM.bestSound, RM.bestWay, vM_rows, vM_rowN, RM.sortOf, RM.sizeOf, RM.numbers, RM.holdsWhat, RM.holdsWhich, RM.holdsMany, RM.bodies, RM.ran, RM.actKind, RM.actN, RM.actA, RM.isParted) o_3 ho_3 H.size) (cwV 0 hts gX9_prove_X9_goesOn rfl rfl rfl hdX9_goesOn ⟨Nat.le_of_ble_eq_true rfl, Nat.le_of_ble_eq_true rfl⟩) hK hP hD hS hA [0, 1, 2, 3, 4, 5, 6, 7, 8, 9, 10, 11, 12, 13, 14, 15] [] rfl rfl (by decide) (by decide) (by decide) [0, 1, 2, 3, 4, 5, 6, 7, 8, 9, 10, 11, 12, 13, 14, 15] rfl (by decide) (va_recv hK hP (ci := 9) (q0 := 0) rfl rfl) rfl hl.1 rfl (Nat.le_of_ble_eq_true rfl) dX9_prove_50 ⟨Nat.zero_le _, Nat.zero_le _⟩ (fun H locs hP hD hS => ?_)
        obtain ⟨g_4, hf⟩ := ht_gd_ob hf
        obtain ⟨vM_rows_5, evM_rows_5, hf⟩ := ht_nm_ob hf
        refine ht_iast (w2 := (wMo K jM aM o_3.2 RM.held vM_aside RM.before RM.isHeld RM.tape RM.taped RM.token RM.frm RM.to RM.value RM.isWrong RM.unpaired RM.bestSound RM.bestWay vM_rows_5 vM_rowN RM.sortOf RM.sizeOf RM.numbers RM.holdsWhat RM.holdsWhich RM.holdsMany RM.bodies RM.ran RM.actKind RM.actN RM.actA RM.isParted)) hx hb hK hP hD hS 8 1 rfl rfl g_4 dX9_prove_53 evM_rows_5 rfl (fun H locs hP hD hS => ?_)
        refine lv_aload_n hx hb dX9_prove_54 rfl (lv_at hl 0 rfl) ?_
        refine va_get (D := D) (ci := 9) (v := .ref (aM 7)) (C := RX9) (T := TX9) (N := 29) hx hb hts iw9 hown hK hP 0 rfl rfl 15 (by decide) kw4 (fun _ h9 => h9) rfl dX9_prove_55 ?_
        refine lv_iconst (v := 3) hx hb dX9_prove_58 (by decide) ?_
        refine lv_iload_n hx hb dX9_prove_59 rfl (lv_at hl 3 rfl) ?_
        refine lv_imul hx hb dX9_prove_60 ?_
        refine lv_aload_n hx hb dX9_prove_61 rfl (lv_at hl 0 rfl) ?_
        refine lv_iload_n hx hb dX9_prove_62 rfl (lv_at hl 1 rfl) ?_
        refine lv_iconst (v := 1) hx hb dX9_prove_63 (by decide) ?_
        obtain ⟨o_6, ho_6, hf⟩ := ht_bn_ob hf
        refine ht_callVi (r := o_6) (rest := [.int ((3 : Int32) * x3), .ref (aM 7)]) (As := [.int x1, .int (1 : Int32)]) (wc := (wMo K jM aM o_3.2 RM.held vM_aside RM.before RM.isHeld RM.tape RM.taped RM.token RM.frm RM.to RM.value RM.isWrong RM.unpaired RM.bestSound RM.bestWay vM_rows_5 vM_rowN RM.sortOf RM.sizeOf RM.numbers RM.holdsWhat RM.holdsWhich RM.holdsMany RM.bodies RM.ran RM.actKind RM.actN RM.actA RM.isParted)) (wr := []) (w1 := (wMo K jM aM o_3.2 RM.held vM_aside RM.before RM.isHeld RM.tape RM.taped RM.token RM.frm RM.to RM.value RM.isWrong RM.unpaired RM.bestSound RM.bestWay vM_rows_5 vM_rowN RM.sortOf RM.sizeOf RM.numbers RM.holdsWhat RM.holdsWhich RM.holdsMany RM.bodies RM.ran RM.actKind RM.actN RM.actA RM.isParted)) (w2 := (wMo K jM aM o_3.2 RM.held vM_aside RM.before RM.isHeld RM.tape RM.taped RM.token RM.frm RM.to RM.value RM.isWrong RM.unpaired RM.bestSound RM.bestWay vM_rows_5 vM_rowN RM.sortOf RM.sizeOf RM.numbers RM.holdsWhat RM.holdsWhich RM.holdsMany RM.bodies RM.ran RM.actKind RM.actN RM.actA RM.isParted)) hF (ctX9_its l D K jM aM (o_3.2, RM.held, vM_aside, RM.before, RM.isHeld, RM.tape, RM.taped, RM.token, RM.frm, RM.to, RM.value, RM.isWrong, RM.unpaired, RM.bestSound, RM.bestWay, vM_rows_5, vM_rowN, RM.sortOf, RM.sizeOf, RM.numbers, RM.holdsWhat, RM.holdsWhich, RM.holdsMany, RM.bodies, RM.ran, RM.actKind, RM.actN, RM.actA, RM.isParted) x1 (1 : Int32) o_6 ho_6 H.size) (cwV 2 hts gX9_prove_X9_its rfl rfl rfl hdX9_its ⟨Nat.le_of_ble_eq_true rfl, Nat.le_of_ble_eq_true rfl⟩) hK hP hD hS hA [0, 1, 2, 3, 4, 5, 6, 7, 8, 9, 10, 11, 12, 13, 14, 15] [] rfl rfl (by decide) (by decide) (by decide) [0, 1, 2, 3, 4, 5, 6, 7, 8, 9, 10, 11, 12, 13, 14, 15] rfl (by decide) (va_recv hK hP (ci := 9) (q0 := 0) rfl rfl) rfl hl.1 rfl (Nat.le_of_ble_eq_true rfl) dX9_prove_64 ⟨Nat.zero_le _, Nat.zero_le _⟩ (fun H locs hP hD hS => ?_)
        obtain ⟨g_7, hf⟩ := ht_gd_ob hf
        obtain ⟨vM_rows_8, evM_rows_8, hf⟩ := ht_nm_ob hf
        refine ht_iast (w2 := (wMo K jM aM o_3.2 RM.held vM_aside RM.before RM.isHeld RM.tape RM.taped RM.token RM.frm RM.to RM.value RM.isWrong RM.unpaired RM.bestSound RM.bestWay vM_rows_8 vM_rowN RM.sortOf RM.sizeOf RM.numbers RM.holdsWhat RM.holdsWhich RM.holdsMany RM.bodies RM.ran RM.actKind RM.actN RM.actA RM.isParted)) hx hb hK hP hD hS 8 1 rfl rfl g_7 dX9_prove_67 evM_rows_8 rfl (fun H locs hP hD hS => ?_)
        refine lv_aload_n hx hb dX9_prove_68 rfl (lv_at hl 0 rfl) ?_
        refine va_get (D := D) (ci := 9) (v := .ref (aM 7)) (C := RX9) (T := TX9) (N := 29) hx hb hts iw9 hown hK hP 0 rfl rfl 15 (by decide) kw4 (fun _ h9 => h9) rfl dX9_prove_69 ?_
        refine lv_iconst (v := 3) hx hb dX9_prove_72 (by decide) ?_
        refine lv_iload_n hx hb dX9_prove_73 rfl (lv_at hl 3 rfl) ?_
        refine lv_imul hx hb dX9_prove_74 ?_
        refine lv_iconst (v := 1) hx hb dX9_prove_75 (by decide) ?_
        refine lv_iadd hx hb dX9_prove_76 ?_
        refine lv_aload_n hx hb dX9_prove_77 rfl (lv_at hl 0 rfl) ?_
        refine lv_iload_n hx hb dX9_prove_78 rfl (lv_at hl 1 rfl) ?_
        refine lv_iconst (v := 2) hx hb dX9_prove_79 (by decide) ?_
        obtain ⟨o_9, ho_9, hf⟩ := ht_bn_ob hf
        refine ht_callVi (r := o_9) (rest := [.int (((3 : Int32) * x3) + (1 : Int32)), .ref (aM 7)]) (As := [.int x1, .int (2 : Int32)]) (wc := (wMo K jM aM o_3.2 RM.held vM_aside RM.before RM.isHeld RM.tape RM.taped RM.token RM.frm RM.to RM.value RM.isWrong RM.unpaired RM.bestSound RM.bestWay vM_rows_8 vM_rowN RM.sortOf RM.sizeOf RM.numbers RM.holdsWhat RM.holdsWhich RM.holdsMany RM.bodies RM.ran RM.actKind RM.actN RM.actA RM.isParted)) (wr := []) (w1 := (wMo K jM aM o_3.2 RM.held vM_aside RM.before RM.isHeld RM.tape RM.taped RM.token RM.frm RM.to RM.value RM.isWrong RM.unpaired RM.bestSound RM.bestWay vM_rows_8 vM_rowN RM.sortOf RM.sizeOf RM.numbers RM.holdsWhat RM.holdsWhich RM.holdsMany RM.bodies RM.ran RM.actKind RM.actN RM.actA RM.isParted)) (w2 := (wMo K jM aM o_3.2 RM.held vM_aside RM.before RM.isHeld RM.tape RM.taped RM.token RM.frm RM.to RM.value RM.isWrong RM.unpaired RM.bestSound RM.bestWay vM_rows_8 vM_rowN RM.sortOf RM.sizeOf RM.numbers RM.holdsWhat RM.holdsWhich RM.holdsMany RM.bodies RM.ran RM.actKind RM.actN RM.actA RM.isParted)) hF (ctX9_its l D K jM aM (o_3.2, RM.held, vM_aside, RM.before, RM.isHeld, RM.tape, RM.taped, RM.token, RM.frm, RM.to, RM.value, RM.isWrong, RM.unpaired, RM.bestSound, RM.bestWay, vM_rows_8, vM_rowN, RM.sortOf, RM.sizeOf, RM.numbers, RM.holdsWhat, RM.holdsWhich, RM.holdsMany, RM.bodies, RM.ran, RM.actKind, RM.actN, RM.actA, RM.isParted) x1 (2 : Int32) o_9 ho_9 H.size) (cwV 2 hts gX9_prove_X9_its rfl rfl rfl hdX9_its ⟨Nat.le_of_ble_eq_true rfl, Nat.le_of_ble_eq_true rfl⟩) hK hP hD hS hA [0, 1, 2, 3, 4, 5, 6, 7, 8, 9, 10, 11, 12, 13, 14, 15] [] rfl rfl (by decide) (by decide) (by decide) [0, 1, 2, 3, 4, 5, 6, 7, 8, 9, 10, 11, 12, 13, 14, 15] rfl (by decide) (va_recv hK hP (ci := 9) (q0 := 0) rfl rfl) rfl hl.1 rfl (Nat.le_of_ble_eq_true rfl) dX9_prove_80 ⟨Nat.zero_le _, Nat.zero_le _⟩ (fun H locs hP hD hS => ?_)
        obtain ⟨g_10, hf⟩ := ht_gd_ob hf
        obtain ⟨vM_rows_11, evM_rows_11, hf⟩ := ht_nm_ob hf
        refine ht_iast (w2 := (wMo K jM aM o_3.2 RM.held vM_aside RM.before RM.isHeld RM.tape RM.taped RM.token RM.frm RM.to RM.value RM.isWrong RM.unpaired RM.bestSound RM.bestWay vM_rows_11 vM_rowN RM.sortOf RM.sizeOf RM.numbers RM.holdsWhat RM.holdsWhich RM.holdsMany RM.bodies RM.ran RM.actKind RM.actN RM.actA RM.isParted)) hx hb hK hP hD hS 8 1 rfl rfl g_10 dX9_prove_83 evM_rows_11 rfl (fun H locs hP hD hS => ?_)
        obtain ⟨x3_12, ex3_12, hf⟩ := ht_nm_ob hf
        refine lv_iinc (v := x3_12) (lv' := [(3, .int x3_12), (0, .ref jM), (1, .int x1), (2, .int x2)]) hx hb dX9_prove_84 hl (k := 3) rfl (by rw [ex3_12]; rfl) (by decide) rfl (fun ls hl => ?_)
        refine lv_goto (tgt := 35) hx hb dX9_prove_87 (by decide) ?_
        exact hk35 x1 x2 x3_12 o_3.2 vM_aside vM_rows_11 vM_rowN _ _ _ hf hP hD hS (lv_sub hl [1, 2, 3, 0] rfl)
  delta fX9_prove at hf
  refine lv_aload_n hx hb dX9_prove_0 rfl (lv_at hl 0 rfl) ?_
  refine lv_iload_n hx hb dX9_prove_1 rfl (lv_at hl 1 rfl) ?_
  obtain ⟨o_13, ho_13, hf⟩ := ht_bn_ob hf
  refine ht_callVi (r := o_13) (rest := []) (As := [.int p0]) (wc := (wMo K jM aM RM.s RM.held RM.aside RM.before RM.isHeld RM.tape RM.taped RM.token RM.frm RM.to RM.value RM.isWrong RM.unpaired RM.bestSound RM.bestWay RM.rows RM.rowN RM.sortOf RM.sizeOf RM.numbers RM.holdsWhat RM.holdsWhich RM.holdsMany RM.bodies RM.ran RM.actKind RM.actN RM.actA RM.isParted)) (wr := []) (w1 := (wMo K jM aM RM.s RM.held RM.aside RM.before RM.isHeld RM.tape RM.taped RM.token RM.frm RM.to RM.value RM.isWrong RM.unpaired RM.bestSound RM.bestWay RM.rows RM.rowN RM.sortOf RM.sizeOf RM.numbers RM.holdsWhat RM.holdsWhich RM.holdsMany RM.bodies RM.ran RM.actKind RM.actN RM.actA RM.isParted)) (w2 := (wMo K jM aM RM.s RM.held RM.aside RM.before RM.isHeld RM.tape RM.taped RM.token RM.frm RM.to RM.value RM.isWrong RM.unpaired RM.bestSound RM.bestWay RM.rows RM.rowN RM.sortOf RM.sizeOf RM.numbers RM.holdsWhat RM.holdsWhich RM.holdsMany RM.bodies RM.ran RM.actKind RM.actN RM.actA RM.isParted)) hF (ctX9_isOne l D K jM aM RM p0 o_13 ho_13 H.size) (cwV 1 hts gX9_prove_X9_isOne rfl rfl rfl hdX9_isOne ⟨Nat.le_of_ble_eq_true rfl, Nat.le_of_ble_eq_true rfl⟩) hK hP hD hS hA [0, 1, 2, 3, 4, 5, 6, 7, 8, 9, 10, 11, 12, 13, 14, 15] [] rfl rfl (by decide) (by decide) (by decide) [0, 1, 2, 3, 4, 5, 6, 7, 8, 9, 10, 11, 12, 13, 14, 15] rfl (by decide) (va_recv hK hP (ci := 9) (q0 := 0) rfl rfl) rfl hl.1 rfl (Nat.le_of_ble_eq_true rfl) dX9_prove_2 ⟨Nat.zero_le _, Nat.zero_le _⟩ (fun H locs hP hD hS => ?_)
  refine lv_if_eq (tgt := 20) hx hb dX9_prove_5 (by decide) (fun c_14 => ?_) (fun c_14 => ?_)
  · replace hf := ht_t c_14 hf
    refine lv_iconst (v := -1) hx hb dX9_prove_20 (by decide) ?_
    have ho := Option.some.inj hf
    subst ho; subst hQ
    exact ht_iret hx hb hr hlk rfl hK hP hD hS dX9_prove_21
  · replace hf := ht_f c_14 hf
    refine lv_iload_n hx hb dX9_prove_8 rfl (lv_at hl 2 rfl) ?_
    refine lv_i2l hx hb dX9_prove_9 rfl ?_
    refine lv_lconst (v := 1) hx hb dX9_prove_10 (by decide) ?_
    refine lv_ldc2 hx hb hown kw5 dX9_prove_11 ?_
    obtain ⟨o_15, ho_15, hf⟩ := ht_bn_ob hf
    refine ht_callSi (r := o_15) (rest := []) (As := [.long p1.toInt64, .long (1 : Int64), .long (10 : Int64)]) (wc := []) (wr := (wMo K jM aM RM.s RM.held RM.aside RM.before RM.isHeld RM.tape RM.taped RM.token RM.frm RM.to RM.value RM.isWrong RM.unpaired RM.bestSound RM.bestWay RM.rows RM.rowN RM.sortOf RM.sizeOf RM.numbers RM.holdsWhat RM.holdsWhich RM.holdsMany RM.bodies RM.ran RM.actKind RM.actN RM.actA RM.isParted)) (w1 := []) (w2 := (wMo K jM aM RM.s RM.held RM.aside RM.before RM.isHeld RM.tape RM.taped RM.token RM.frm RM.to RM.value RM.isWrong RM.unpaired RM.bestSound RM.bestWay RM.rows RM.rowN RM.sortOf RM.sizeOf RM.numbers RM.holdsWhat RM.holdsWhich RM.holdsMany RM.bodies RM.ran RM.actKind RM.actN RM.actA RM.isParted)) hF (ctX9_isIn l D K p1.toInt64 (1 : Int64) (10 : Int64) o_15 ho_15 H.size) (va_cwS 3 hts gX9_prove_X9_isIn rfl rfl rfl hdX9_isIn ⟨Nat.le_of_ble_eq_true rfl, Nat.le_of_ble_eq_true rfl⟩) hK hP hD hS hA [] [0, 1, 2, 3, 4, 5, 6, 7, 8, 9, 10, 11, 12, 13, 14, 15] rfl rfl (by decide) (by decide) (by decide) [0, 1, 2, 3, 4, 5, 6, 7, 8, 9, 10, 11, 12, 13, 14, 15] rfl (by decide) rfl hl.1 rfl (Nat.le_of_ble_eq_true rfl) dX9_prove_14 ⟨Nat.zero_le _, Nat.zero_le _⟩ (fun H locs hP hD hS => ?_)
    refine lv_if_ne (tgt := 22) hx hb dX9_prove_17 (by decide) (fun c_16 => ?_) (fun c_16 => ?_)
    · replace hf := ht_f c_16 hf
      refine lv_aload_n hx hb dX9_prove_22 rfl (lv_at hl 0 rfl) ?_
      refine va_get (D := D) (ci := 9) (v := .ref (aM 0)) (C := RX9) (T := TX9) (N := 29) hx hb hts iw9 hown hK hP 0 rfl rfl 0 (by decide) kw2 (fun _ h9 => h9) rfl dX9_prove_23 ?_
      refine lv_aload_n hx hb dX9_prove_26 rfl (lv_at hl 0 rfl) ?_
      refine va_get (D := D) (ci := 9) (v := .ref (aM 2)) (C := RX9) (T := TX9) (N := 29) hx hb hts iw9 hown hK hP 0 rfl rfl 2 (by decide) kw1 (fun _ h9 => h9) rfl dX9_prove_27 ?_
      obtain ⟨o_17, ho_17, hf⟩ := ht_bn_ob hf
      refine ht_callSv (rest := []) (As := [.ref (aM 0), .ref (aM 2)]) (wc := (wAr K 57 (aM 0) RM.s ++ (wAr K 57 (aM 2) RM.aside))) (wr := ([(jM, .inr (9, [.ref (aM 0), .ref (aM 1), .ref (aM 2), .ref (aM 3), .int RM.isHeld, .ref (aM 4), .int RM.taped, .int RM.token, .int RM.frm, .int RM.to, .int RM.value, .int RM.isWrong, .ref (aM 5), .int RM.bestSound, .ref (aM 6), .ref (aM 7), .int RM.rowN, .ref (aM 8), .ref (aM 9), .ref (aM 10), .ref (aM 11), .ref (aM 12), .ref (aM 13), .ref (aM 14), .int RM.ran, .int RM.actKind, .int RM.actN, .int RM.actA, .int RM.isParted]))] ++ ([(aM 1, .inl (K 1, 57, .inl RM.held))] ++ ([(aM 3, .inl (K 1, 57, .inl RM.before))] ++ ([(aM 4, .inl (K 1, 200, .inl RM.tape))] ++ ([(aM 5, .inl (K 1, 57, .inl RM.unpaired))] ++ ([(aM 6, .inl (K 1, 8, .inl RM.bestWay))] ++ ([(aM 7, .inl (K 1, 30, .inl RM.rows))] ++ ([(aM 8, .inl (K 1, 4, .inl RM.sortOf))] ++ ([(aM 9, .inl (K 1, 4, .inl RM.sizeOf))] ++ ([(aM 10, .inl (K 1, 160, .inl RM.numbers))] ++ ([(aM 11, .inl (K 1, 4, .inl RM.holdsWhat))] ++ ([(aM 12, .inl (K 1, 4, .inl RM.holdsWhich))] ++ ([(aM 13, .inl (K 1, 4, .inl RM.holdsMany))] ++ ([(aM 14, .inl (K 1, 30, .inl RM.bodies))]))))))))))))))) (w1 := (wAr K 57 (aM 0) RM.s ++ (wAr K 57 (aM 2) o_17))) (w2 := (wMo K jM aM RM.s RM.held o_17 RM.before RM.isHeld RM.tape RM.taped RM.token RM.frm RM.to RM.value RM.isWrong RM.unpaired RM.bestSound RM.bestWay RM.rows RM.rowN RM.sortOf RM.sizeOf RM.numbers RM.holdsWhat RM.holdsWhich RM.holdsMany RM.bodies RM.ran RM.actKind RM.actN RM.actA RM.isParted)) hF (ctX9_copyRow l D K (aM 0) (aM 2) RM.s RM.aside o_17 ho_17 H.size) (va_cwS 2 hts gX9_prove_X9_copyRow rfl rfl rfl hdX9_copyRow ⟨Nat.le_of_ble_eq_true rfl, Nat.le_of_ble_eq_true rfl⟩) hK hP hD hS hA [1, 3] [0, 2, 4, 5, 6, 7, 8, 9, 10, 11, 12, 13, 14, 15] rfl rfl (by decide) (by decide) (by decide) [0, 14, 1, 15, 2, 3, 4, 5, 6, 7, 8, 9, 10, 11, 12, 13] rfl (by decide) rfl hl.1 rfl (Nat.le_of_ble_eq_true rfl) dX9_prove_30 ⟨Nat.zero_le _, Nat.zero_le _⟩ (fun H locs hP hD hS => ?_)
      refine lv_iconst (v := 0) hx hb dX9_prove_33 (by decide) ?_
      refine lv_istore_n (lv' := [(3, .int (0 : Int32)), (0, .ref jM), (1, .int p0), (2, .int p1)]) hx hb dX9_prove_34 rfl hl (by decide) rfl (fun ls hl => ?_)
      exact b35  FU p0 p1 (0 : Int32) RM.s o_17 RM.rows RM.rowN _ _ _ hf hP hD hS (lv_sub hl [1, 2, 3, 0] rfl)
    · replace hf := ht_t c_16 hf
      refine lv_iconst (v := -1) hx hb dX9_prove_20 (by decide) ?_
      have ho := Option.some.inj hf
      subst ho; subst hQ
      exact ht_iret hx hb hr hlk rfl hK hP hD hS dX9_prove_21
abbrev rmX9_isRow : Room := { frames := 1, cells := 0, slots := 0, locals := 25 }
theorem hdX9_isRow : yX9_isRow.cls = RX9 ∧ yX9_isRow.cls ≠ "java/lang/invoke/MethodHandle" ∧ yX9_isRow.cls ≠ "java/lang/invoke/VarHandle" ∧ (parseMethodDescriptor yX9_isRow.desc).map (fun d => d.parameters.length) = some 2 := by decide +kernel
def fX9_isRow (RM : ModV) (p0 : Int32) (p1 : Int32) : Option Int32 := ht_bn (fX9_isIn p0.toInt64 (0 : Int64) ((RM.rowN - (1 : Int32)).toInt64)) (fun o_1 => if o_1 = 0 then (some (0 : Int32)) else (ht_bn (fX9_isIn p1.toInt64 (0 : Int64) (2 : Int64)) (fun o_3 => if o_3 = 0 then (some (0 : Int32)) else (some (1 : Int32)))))
set_option maxHeartbeats 1000000 in
set_option maxRecDepth 100000 in
theorem ctX9_isRow (l : Launch) (D : va_G) (K : Nat → ClassId) (jM : Nat) (aM : Nat → Nat) (RM : ModV) (p0 : Int32) (p1 : Int32) (o : Int32) (hf : fX9_isRow RM p0 p1 = some o) (sz : Nat) : Met l yX9_isRow wsX9_isRow rmX9_isRow (ht_Pre D K [.ref jM, .int p0, .int p1] (wMo K jM aM RM.s RM.held RM.aside RM.before RM.isHeld RM.tape RM.taped RM.token RM.frm RM.to RM.value RM.isWrong RM.unpaired RM.bestSound RM.bestWay RM.rows RM.rowN RM.sortOf RM.sizeOf RM.numbers RM.holdsWhat RM.holdsWhich RM.holdsMany RM.bodies RM.ran RM.actKind RM.actN RM.actA RM.isParted) sz) (ht_Qi D K (wMo K jM aM RM.s RM.held RM.aside RM.before RM.isHeld RM.tape RM.taped RM.token RM.frm RM.to RM.value RM.isWrong RM.unpaired RM.bestSound RM.bestWay RM.rows RM.rowN RM.sortOf RM.sizeOf RM.numbers RM.holdsWhat RM.holdsWhich RM.holdsMany RM.bodies RM.ran RM.actKind RM.actN RM.actA RM.isParted) o (va_A (wMo K jM aM RM.s RM.held RM.aside RM.before RM.isHeld RM.tape RM.taped RM.token RM.frm RM.to RM.value RM.isWrong RM.unpaired RM.bestSound RM.bestWay RM.rows RM.rowN RM.sortOf RM.sizeOf RM.numbers RM.holdsWhat RM.holdsWhich RM.holdsMany RM.bodies RM.ran RM.actKind RM.actN RM.actA RM.isParted) sz)) 0 0 (va_A (wMo K jM aM RM.s RM.held RM.aside RM.before RM.isHeld RM.tape RM.taped RM.token RM.frm RM.to RM.value RM.isWrong RM.unpaired RM.bestSound RM.bestWay RM.rows RM.rowN RM.sortOf RM.sizeOf RM.numbers RM.holdsWhat RM.holdsWhich RM.holdsMany RM.bodies RM.ran RM.actKind RM.actN RM.actA RM.isParted) sz) := by
  refine ht_enter (Qf := ht_Qi D K (wMo K jM aM RM.s RM.held RM.aside RM.before RM.isHeld RM.tape RM.taped RM.token RM.frm RM.to RM.value RM.isWrong RM.unpaired RM.bestSound RM.bestWay RM.rows RM.rowN RM.sortOf RM.sizeOf RM.numbers RM.holdsWhat RM.holdsWhich RM.holdsMany RM.bodies RM.ran RM.actKind RM.actN RM.actA RM.isParted) o) (cc := cX9_isRow) (maxL := 3) (rt := (some .boolean)) (by decide) rfl (Nat.le_of_ble_eq_true rfl) ?_ sz
  intro p e s m below meth c A Q H locs ls hQ hx hb hr hlk hmn hml hown hts hA hK hP hD hS hl
  have hown : s.vm.findClass RX9 = some m.cls := hown
  have hF : CallFix p m c cX9_isRow 3 s ([.ref jM, .int p0, .int p1] : List Value).toArray wsX9_isRow RX9 := ⟨hx, hb, hml, hown, hts⟩
  have hl : lv_has ls 3 [(0, .ref jM), (1, .int p0), (2, .int p1)] := hl
  have iw9 : ∀ w ∈ u_ws RX9 TX9 29, w ∈ wsX9_isRow := by decide +kernel
  have kw1 := hts (.fieldLink RX9 157 "HeldTonguesModel" "rowN" "I") (by decide +kernel)
  have kw2 := hts (.constantLong RX9 178 (2)) (by decide +kernel)
  delta fX9_isRow at hf
  refine lv_iload_n hx hb dX9_isRow_0 rfl (lv_at hl 1 rfl) ?_
  refine lv_i2l hx hb dX9_isRow_1 rfl ?_
  refine lv_lconst (v := 0) hx hb dX9_isRow_2 (by decide) ?_
  refine lv_aload_n hx hb dX9_isRow_3 rfl (lv_at hl 0 rfl) ?_
  refine va_get (D := D) (ci := 9) (v := .int RM.rowN) (C := RX9) (T := TX9) (N := 29) hx hb hts iw9 hown hK hP 0 rfl rfl 16 (by decide) kw1 (fun _ h9 => h9) rfl dX9_isRow_4 ?_
  refine lv_iconst (v := 1) hx hb dX9_isRow_7 (by decide) ?_
  refine lv_isub hx hb dX9_isRow_8 ?_
  refine lv_i2l hx hb dX9_isRow_9 rfl ?_
  obtain ⟨o_1, ho_1, hf⟩ := ht_bn_ob hf
  refine ht_callSi (r := o_1) (rest := []) (As := [.long p0.toInt64, .long (0 : Int64), .long ((RM.rowN - (1 : Int32)).toInt64)]) (wc := []) (wr := (wMo K jM aM RM.s RM.held RM.aside RM.before RM.isHeld RM.tape RM.taped RM.token RM.frm RM.to RM.value RM.isWrong RM.unpaired RM.bestSound RM.bestWay RM.rows RM.rowN RM.sortOf RM.sizeOf RM.numbers RM.holdsWhat RM.holdsWhich RM.holdsMany RM.bodies RM.ran RM.actKind RM.actN RM.actA RM.isParted)) (w1 := []) (w2 := (wMo K jM aM RM.s RM.held RM.aside RM.before RM.isHeld RM.tape RM.taped RM.token RM.frm RM.to RM.value RM.isWrong RM.unpaired RM.bestSound RM.bestWay RM.rows RM.rowN RM.sortOf RM.sizeOf RM.numbers RM.holdsWhat RM.holdsWhich RM.holdsMany RM.bodies RM.ran RM.actKind RM.actN RM.actA RM.isParted)) hF (ctX9_isIn l D K p0.toInt64 (0 : Int64) ((RM.rowN - (1 : Int32)).toInt64) o_1 ho_1 H.size) (va_cwS 3 hts gX9_isRow_X9_isIn rfl rfl rfl hdX9_isIn ⟨Nat.le_of_ble_eq_true rfl, Nat.le_of_ble_eq_true rfl⟩) hK hP hD hS hA [] [0, 1, 2, 3, 4, 5, 6, 7, 8, 9, 10, 11, 12, 13, 14, 15] rfl rfl (by decide) (by decide) (by decide) [0, 1, 2, 3, 4, 5, 6, 7, 8, 9, 10, 11, 12, 13, 14, 15] rfl (by decide) rfl hl.1 rfl (Nat.le_of_ble_eq_true rfl) dX9_isRow_10 ⟨Nat.zero_le _, Nat.zero_le _⟩ (fun H locs hP hD hS => ?_)
  refine lv_if_eq (tgt := 32) hx hb dX9_isRow_13 (by decide) (fun c_2 => ?_) (fun c_2 => ?_)
  · replace hf := ht_t c_2 hf
    refine lv_iconst (v := 0) hx hb dX9_isRow_32 (by decide) ?_
    have ho := Option.some.inj hf
    subst ho; subst hQ
    exact ht_iret hx hb hr hlk (show narrow .boolean (.int (0 : Int32)) = .int (0 : Int32) from rfl) hK hP hD hS dX9_isRow_33
  · replace hf := ht_f c_2 hf
    refine lv_iload_n hx hb dX9_isRow_16 rfl (lv_at hl 2 rfl) ?_
    refine lv_i2l hx hb dX9_isRow_17 rfl ?_
    refine lv_lconst (v := 0) hx hb dX9_isRow_18 (by decide) ?_
    refine lv_ldc2 hx hb hown kw2 dX9_isRow_19 ?_
    obtain ⟨o_3, ho_3, hf⟩ := ht_bn_ob hf
    refine ht_callSi (r := o_3) (rest := []) (As := [.long p1.toInt64, .long (0 : Int64), .long (2 : Int64)]) (wc := []) (wr := (wMo K jM aM RM.s RM.held RM.aside RM.before RM.isHeld RM.tape RM.taped RM.token RM.frm RM.to RM.value RM.isWrong RM.unpaired RM.bestSound RM.bestWay RM.rows RM.rowN RM.sortOf RM.sizeOf RM.numbers RM.holdsWhat RM.holdsWhich RM.holdsMany RM.bodies RM.ran RM.actKind RM.actN RM.actA RM.isParted)) (w1 := []) (w2 := (wMo K jM aM RM.s RM.held RM.aside RM.before RM.isHeld RM.tape RM.taped RM.token RM.frm RM.to RM.value RM.isWrong RM.unpaired RM.bestSound RM.bestWay RM.rows RM.rowN RM.sortOf RM.sizeOf RM.numbers RM.holdsWhat RM.holdsWhich RM.holdsMany RM.bodies RM.ran RM.actKind RM.actN RM.actA RM.isParted)) hF (ctX9_isIn l D K p1.toInt64 (0 : Int64) (2 : Int64) o_3 ho_3 H.size) (va_cwS 3 hts gX9_isRow_X9_isIn rfl rfl rfl hdX9_isIn ⟨Nat.le_of_ble_eq_true rfl, Nat.le_of_ble_eq_true rfl⟩) hK hP hD hS hA [] [0, 1, 2, 3, 4, 5, 6, 7, 8, 9, 10, 11, 12, 13, 14, 15] rfl rfl (by decide) (by decide) (by decide) [0, 1, 2, 3, 4, 5, 6, 7, 8, 9, 10, 11, 12, 13, 14, 15] rfl (by decide) rfl hl.1 rfl (Nat.le_of_ble_eq_true rfl) dX9_isRow_22 ⟨Nat.zero_le _, Nat.zero_le _⟩ (fun H locs hP hD hS => ?_)
    refine lv_if_eq (tgt := 32) hx hb dX9_isRow_25 (by decide) (fun c_4 => ?_) (fun c_4 => ?_)
    · replace hf := ht_t c_4 hf
      refine lv_iconst (v := 0) hx hb dX9_isRow_32 (by decide) ?_
      have ho := Option.some.inj hf
      subst ho; subst hQ
      exact ht_iret hx hb hr hlk (show narrow .boolean (.int (0 : Int32)) = .int (0 : Int32) from rfl) hK hP hD hS dX9_isRow_33
    · replace hf := ht_f c_4 hf
      refine lv_iconst (v := 1) hx hb dX9_isRow_28 (by decide) ?_
      refine lv_goto (tgt := 33) hx hb dX9_isRow_29 (by decide) ?_
      have ho := Option.some.inj hf
      subst ho; subst hQ
      exact ht_iret hx hb hr hlk (show narrow .boolean (.int (1 : Int32)) = .int (1 : Int32) from rfl) hK hP hD hS dX9_isRow_33
abbrev rmX9_row : Room := { frames := 2, cells := 0, slots := 0, locals := 47 }
theorem hdX9_row : yX9_row.cls = RX9 ∧ yX9_row.cls ≠ "java/lang/invoke/MethodHandle" ∧ yX9_row.cls ≠ "java/lang/invoke/VarHandle" ∧ (parseMethodDescriptor yX9_row.desc).map (fun d => d.parameters.length) = some 2 := by decide +kernel
def fX9_row (RM : ModV) (p0 : Int32) (p1 : Int32) : Option Int32 := ht_bn (fX9_isRow RM p0 p1) (fun o_1 => if o_1 = 0 then (some (-9 : Int32)) else (ht_gd (ht_ix (((3 : Int32) * p0) + p1) 30) (some (RM.rows (((3 : Int32) * p0) + p1).toNatClampNeg))))
set_option maxHeartbeats 1000000 in
set_option maxRecDepth 100000 in
theorem ctX9_row (l : Launch) (D : va_G) (K : Nat → ClassId) (jM : Nat) (aM : Nat → Nat) (RM : ModV) (p0 : Int32) (p1 : Int32) (o : Int32) (hf : fX9_row RM p0 p1 = some o) (sz : Nat) : Met l yX9_row wsX9_row rmX9_row (ht_Pre D K [.ref jM, .int p0, .int p1] (wMo K jM aM RM.s RM.held RM.aside RM.before RM.isHeld RM.tape RM.taped RM.token RM.frm RM.to RM.value RM.isWrong RM.unpaired RM.bestSound RM.bestWay RM.rows RM.rowN RM.sortOf RM.sizeOf RM.numbers RM.holdsWhat RM.holdsWhich RM.holdsMany RM.bodies RM.ran RM.actKind RM.actN RM.actA RM.isParted) sz) (ht_Qi D K (wMo K jM aM RM.s RM.held RM.aside RM.before RM.isHeld RM.tape RM.taped RM.token RM.frm RM.to RM.value RM.isWrong RM.unpaired RM.bestSound RM.bestWay RM.rows RM.rowN RM.sortOf RM.sizeOf RM.numbers RM.holdsWhat RM.holdsWhich RM.holdsMany RM.bodies RM.ran RM.actKind RM.actN RM.actA RM.isParted) o (va_A (wMo K jM aM RM.s RM.held RM.aside RM.before RM.isHeld RM.tape RM.taped RM.token RM.frm RM.to RM.value RM.isWrong RM.unpaired RM.bestSound RM.bestWay RM.rows RM.rowN RM.sortOf RM.sizeOf RM.numbers RM.holdsWhat RM.holdsWhich RM.holdsMany RM.bodies RM.ran RM.actKind RM.actN RM.actA RM.isParted) sz)) 0 0 (va_A (wMo K jM aM RM.s RM.held RM.aside RM.before RM.isHeld RM.tape RM.taped RM.token RM.frm RM.to RM.value RM.isWrong RM.unpaired RM.bestSound RM.bestWay RM.rows RM.rowN RM.sortOf RM.sizeOf RM.numbers RM.holdsWhat RM.holdsWhich RM.holdsMany RM.bodies RM.ran RM.actKind RM.actN RM.actA RM.isParted) sz) := by
  refine ht_enter (Qf := ht_Qi D K (wMo K jM aM RM.s RM.held RM.aside RM.before RM.isHeld RM.tape RM.taped RM.token RM.frm RM.to RM.value RM.isWrong RM.unpaired RM.bestSound RM.bestWay RM.rows RM.rowN RM.sortOf RM.sizeOf RM.numbers RM.holdsWhat RM.holdsWhich RM.holdsMany RM.bodies RM.ran RM.actKind RM.actN RM.actA RM.isParted) o) (cc := cX9_row) (maxL := 3) (rt := (some .int)) (by decide) rfl (Nat.le_of_ble_eq_true rfl) ?_ sz
  intro p e s m below meth c A Q H locs ls hQ hx hb hr hlk hmn hml hown hts hA hK hP hD hS hl
  have hown : s.vm.findClass RX9 = some m.cls := hown
  have hF : CallFix p m c cX9_row 3 s ([.ref jM, .int p0, .int p1] : List Value).toArray wsX9_row RX9 := ⟨hx, hb, hml, hown, hts⟩
  have hl : lv_has ls 3 [(0, .ref jM), (1, .int p0), (2, .int p1)] := hl
  have iw9 : ∀ w ∈ u_ws RX9 TX9 29, w ∈ wsX9_row := by decide +kernel
  have kw1 := hts (.fieldLink RX9 31 "HeldTonguesModel" "rows" "[I") (by decide +kernel)
  delta fX9_row at hf
  refine lv_aload_n hx hb dX9_row_0 rfl (lv_at hl 0 rfl) ?_
  refine lv_iload_n hx hb dX9_row_1 rfl (lv_at hl 1 rfl) ?_
  refine lv_iload_n hx hb dX9_row_2 rfl (lv_at hl 2 rfl) ?_
  obtain ⟨o_1, ho_1, hf⟩ := ht_bn_ob hf
  refine ht_callVi (r := o_1) (rest := []) (As := [.int p0, .int p1]) (wc := (wMo K jM aM RM.s RM.held RM.aside RM.before RM.isHeld RM.tape RM.taped RM.token RM.frm RM.to RM.value RM.isWrong RM.unpaired RM.bestSound RM.bestWay RM.rows RM.rowN RM.sortOf RM.sizeOf RM.numbers RM.holdsWhat RM.holdsWhich RM.holdsMany RM.bodies RM.ran RM.actKind RM.actN RM.actA RM.isParted)) (wr := []) (w1 := (wMo K jM aM RM.s RM.held RM.aside RM.before RM.isHeld RM.tape RM.taped RM.token RM.frm RM.to RM.value RM.isWrong RM.unpaired RM.bestSound RM.bestWay RM.rows RM.rowN RM.sortOf RM.sizeOf RM.numbers RM.holdsWhat RM.holdsWhich RM.holdsMany RM.bodies RM.ran RM.actKind RM.actN RM.actA RM.isParted)) (w2 := (wMo K jM aM RM.s RM.held RM.aside RM.before RM.isHeld RM.tape RM.taped RM.token RM.frm RM.to RM.value RM.isWrong RM.unpaired RM.bestSound RM.bestWay RM.rows RM.rowN RM.sortOf RM.sizeOf RM.numbers RM.holdsWhat RM.holdsWhich RM.holdsMany RM.bodies RM.ran RM.actKind RM.actN RM.actA RM.isParted)) hF (ctX9_isRow l D K jM aM RM p0 p1 o_1 ho_1 H.size) (cwV 2 hts gX9_row_X9_isRow rfl rfl rfl hdX9_isRow ⟨Nat.le_of_ble_eq_true rfl, Nat.le_of_ble_eq_true rfl⟩) hK hP hD hS hA [0, 1, 2, 3, 4, 5, 6, 7, 8, 9, 10, 11, 12, 13, 14, 15] [] rfl rfl (by decide) (by decide) (by decide) [0, 1, 2, 3, 4, 5, 6, 7, 8, 9, 10, 11, 12, 13, 14, 15] rfl (by decide) (va_recv hK hP (ci := 9) (q0 := 0) rfl rfl) rfl hl.1 rfl (Nat.le_of_ble_eq_true rfl) dX9_row_3 ⟨Nat.zero_le _, Nat.zero_le _⟩ (fun H locs hP hD hS => ?_)
  refine lv_if_eq (tgt := 22) hx hb dX9_row_6 (by decide) (fun c_2 => ?_) (fun c_2 => ?_)
  · replace hf := ht_t c_2 hf
    refine lv_bipush (v := -9) hx hb dX9_row_22 (by decide) ?_
    have ho := Option.some.inj hf
    subst ho; subst hQ
    exact ht_iret hx hb hr hlk rfl hK hP hD hS dX9_row_24
  · replace hf := ht_f c_2 hf
    refine lv_aload_n hx hb dX9_row_9 rfl (lv_at hl 0 rfl) ?_
    refine va_get (D := D) (ci := 9) (v := .ref (aM 7)) (C := RX9) (T := TX9) (N := 29) hx hb hts iw9 hown hK hP 0 rfl rfl 15 (by decide) kw1 (fun _ h9 => h9) rfl dX9_row_10 ?_
    refine lv_iconst (v := 3) hx hb dX9_row_13 (by decide) ?_
    refine lv_iload_n hx hb dX9_row_14 rfl (lv_at hl 1 rfl) ?_
    refine lv_imul hx hb dX9_row_15 ?_
    refine lv_iload_n hx hb dX9_row_16 rfl (lv_at hl 2 rfl) ?_
    refine lv_iadd hx hb dX9_row_17 ?_
    obtain ⟨g_3, hf⟩ := ht_gd_ob hf
    refine va_iald hx hb hK hP 8 1 rfl rfl (ht_ix_in g_3) dX9_row_18 ?_
    refine lv_goto (tgt := 24) hx hb dX9_row_19 (by decide) ?_
    have ho := Option.some.inj hf
    subst ho; subst hQ
    exact ht_iret hx hb hr hlk rfl hK hP hD hS dX9_row_24
abbrev rmX9_alterRow : Room := { frames := 2, cells := 0, slots := 0, locals := 47 }
theorem hdX9_alterRow : yX9_alterRow.cls = RX9 ∧ yX9_alterRow.cls ≠ "java/lang/invoke/MethodHandle" ∧ yX9_alterRow.cls ≠ "java/lang/invoke/VarHandle" ∧ (parseMethodDescriptor yX9_alterRow.desc).map (fun d => d.parameters.length) = some 3 := by decide +kernel
def fX9_alterRow (RM : ModV) (p0 : Int32) (p1 : Int32) (p2 : Int32) : Option (Int32 × AI) := ht_bn (fX9_isRow RM p0 p1) (fun o_1 => if o_1 = 0 then (some ((-9 : Int32), RM.rows)) else (ht_gd (ht_ix (((3 : Int32) * p0) + p1) 30) (ht_nm (RM.rows (((3 : Int32) * p0) + p1).toNatClampNeg) (fun x4_4 => ht_gd (ht_ix (((3 : Int32) * p0) + p1) 30) (ht_nm (upd RM.rows (((3 : Int32) * p0) + p1).toNatClampNeg p2) (fun vM_rows_6 => some (x4_4, vM_rows_6)))))))
set_option maxHeartbeats 1000000 in
set_option maxRecDepth 100000 in
theorem ctX9_alterRow (l : Launch) (D : va_G) (K : Nat → ClassId) (jM : Nat) (aM : Nat → Nat) (RM : ModV) (p0 : Int32) (p1 : Int32) (p2 : Int32) (o : (Int32 × AI)) (hf : fX9_alterRow RM p0 p1 p2 = some o) (sz : Nat) : Met l yX9_alterRow wsX9_alterRow rmX9_alterRow (ht_Pre D K [.ref jM, .int p0, .int p1, .int p2] (wMo K jM aM RM.s RM.held RM.aside RM.before RM.isHeld RM.tape RM.taped RM.token RM.frm RM.to RM.value RM.isWrong RM.unpaired RM.bestSound RM.bestWay RM.rows RM.rowN RM.sortOf RM.sizeOf RM.numbers RM.holdsWhat RM.holdsWhich RM.holdsMany RM.bodies RM.ran RM.actKind RM.actN RM.actA RM.isParted) sz) (ht_Qi D K (wMo K jM aM RM.s RM.held RM.aside RM.before RM.isHeld RM.tape RM.taped RM.token RM.frm RM.to RM.value RM.isWrong RM.unpaired RM.bestSound RM.bestWay o.2 RM.rowN RM.sortOf RM.sizeOf RM.numbers RM.holdsWhat RM.holdsWhich RM.holdsMany RM.bodies RM.ran RM.actKind RM.actN RM.actA RM.isParted) o.1 (va_A (wMo K jM aM RM.s RM.held RM.aside RM.before RM.isHeld RM.tape RM.taped RM.token RM.frm RM.to RM.value RM.isWrong RM.unpaired RM.bestSound RM.bestWay RM.rows RM.rowN RM.sortOf RM.sizeOf RM.numbers RM.holdsWhat RM.holdsWhich RM.holdsMany RM.bodies RM.ran RM.actKind RM.actN RM.actA RM.isParted) sz)) 0 0 (va_A (wMo K jM aM RM.s RM.held RM.aside RM.before RM.isHeld RM.tape RM.taped RM.token RM.frm RM.to RM.value RM.isWrong RM.unpaired RM.bestSound RM.bestWay RM.rows RM.rowN RM.sortOf RM.sizeOf RM.numbers RM.holdsWhat RM.holdsWhich RM.holdsMany RM.bodies RM.ran RM.actKind RM.actN RM.actA RM.isParted) sz) := by
  refine ht_enter (Qf := ht_Qi D K (wMo K jM aM RM.s RM.held RM.aside RM.before RM.isHeld RM.tape RM.taped RM.token RM.frm RM.to RM.value RM.isWrong RM.unpaired RM.bestSound RM.bestWay o.2 RM.rowN RM.sortOf RM.sizeOf RM.numbers RM.holdsWhat RM.holdsWhich RM.holdsMany RM.bodies RM.ran RM.actKind RM.actN RM.actA RM.isParted) o.1) (cc := cX9_alterRow) (maxL := 5) (rt := (some .int)) (by decide) rfl (Nat.le_of_ble_eq_true rfl) ?_ sz
  intro p e s m below meth c A Q H locs ls hQ hx hb hr hlk hmn hml hown hts hA hK hP hD hS hl
  have hown : s.vm.findClass RX9 = some m.cls := hown
  have hF : CallFix p m c cX9_alterRow 5 s ([.ref jM, .int p0, .int p1, .int p2] : List Value).toArray wsX9_alterRow RX9 := ⟨hx, hb, hml, hown, hts⟩
  have hl : lv_has ls 5 [(0, .ref jM), (1, .int p0), (2, .int p1), (3, .int p2)] := hl
  have iw9 : ∀ w ∈ u_ws RX9 TX9 29, w ∈ wsX9_alterRow := by decide +kernel
  have kw1 := hts (.fieldLink RX9 31 "HeldTonguesModel" "rows" "[I") (by decide +kernel)
  delta fX9_alterRow at hf
  refine lv_aload_n hx hb dX9_alterRow_0 rfl (lv_at hl 0 rfl) ?_
  refine lv_iload_n hx hb dX9_alterRow_1 rfl (lv_at hl 1 rfl) ?_
  refine lv_iload_n hx hb dX9_alterRow_2 rfl (lv_at hl 2 rfl) ?_
  obtain ⟨o_1, ho_1, hf⟩ := ht_bn_ob hf
  refine ht_callVi (r := o_1) (rest := []) (As := [.int p0, .int p1]) (wc := (wMo K jM aM RM.s RM.held RM.aside RM.before RM.isHeld RM.tape RM.taped RM.token RM.frm RM.to RM.value RM.isWrong RM.unpaired RM.bestSound RM.bestWay RM.rows RM.rowN RM.sortOf RM.sizeOf RM.numbers RM.holdsWhat RM.holdsWhich RM.holdsMany RM.bodies RM.ran RM.actKind RM.actN RM.actA RM.isParted)) (wr := []) (w1 := (wMo K jM aM RM.s RM.held RM.aside RM.before RM.isHeld RM.tape RM.taped RM.token RM.frm RM.to RM.value RM.isWrong RM.unpaired RM.bestSound RM.bestWay RM.rows RM.rowN RM.sortOf RM.sizeOf RM.numbers RM.holdsWhat RM.holdsWhich RM.holdsMany RM.bodies RM.ran RM.actKind RM.actN RM.actA RM.isParted)) (w2 := (wMo K jM aM RM.s RM.held RM.aside RM.before RM.isHeld RM.tape RM.taped RM.token RM.frm RM.to RM.value RM.isWrong RM.unpaired RM.bestSound RM.bestWay RM.rows RM.rowN RM.sortOf RM.sizeOf RM.numbers RM.holdsWhat RM.holdsWhich RM.holdsMany RM.bodies RM.ran RM.actKind RM.actN RM.actA RM.isParted)) hF (ctX9_isRow l D K jM aM RM p0 p1 o_1 ho_1 H.size) (cwV 2 hts gX9_alterRow_X9_isRow rfl rfl rfl hdX9_isRow ⟨Nat.le_of_ble_eq_true rfl, Nat.le_of_ble_eq_true rfl⟩) hK hP hD hS hA [0, 1, 2, 3, 4, 5, 6, 7, 8, 9, 10, 11, 12, 13, 14, 15] [] rfl rfl (by decide) (by decide) (by decide) [0, 1, 2, 3, 4, 5, 6, 7, 8, 9, 10, 11, 12, 13, 14, 15] rfl (by decide) (va_recv hK hP (ci := 9) (q0 := 0) rfl rfl) rfl hl.1 rfl (Nat.le_of_ble_eq_true rfl) dX9_alterRow_3 ⟨Nat.zero_le _, Nat.zero_le _⟩ (fun H locs hP hD hS => ?_)
  refine lv_if_ne (tgt := 12) hx hb dX9_alterRow_6 (by decide) (fun c_2 => ?_) (fun c_2 => ?_)
  · replace hf := ht_f c_2 hf
    refine lv_aload_n hx hb dX9_alterRow_12 rfl (lv_at hl 0 rfl) ?_
    refine va_get (D := D) (ci := 9) (v := .ref (aM 7)) (C := RX9) (T := TX9) (N := 29) hx hb hts iw9 hown hK hP 0 rfl rfl 15 (by decide) kw1 (fun _ h9 => h9) rfl dX9_alterRow_13 ?_
    refine lv_iconst (v := 3) hx hb dX9_alterRow_16 (by decide) ?_
    refine lv_iload_n hx hb dX9_alterRow_17 rfl (lv_at hl 1 rfl) ?_
    refine lv_imul hx hb dX9_alterRow_18 ?_
    refine lv_iload_n hx hb dX9_alterRow_19 rfl (lv_at hl 2 rfl) ?_
    refine lv_iadd hx hb dX9_alterRow_20 ?_
    obtain ⟨g_3, hf⟩ := ht_gd_ob hf
    refine va_iald hx hb hK hP 8 1 rfl rfl (ht_ix_in g_3) dX9_alterRow_21 ?_
    obtain ⟨x4_4, ex4_4, hf⟩ := ht_nm_ob hf
    rw [← ex4_4]
    refine lv_istore (lv' := [(4, .int x4_4), (0, .ref jM), (1, .int p0), (2, .int p1), (3, .int p2)]) hx hb dX9_alterRow_22 hl (by decide) rfl (fun ls hl => ?_)
    refine lv_aload_n hx hb dX9_alterRow_24 rfl (lv_at hl 1 rfl) ?_
    refine va_get (D := D) (ci := 9) (v := .ref (aM 7)) (C := RX9) (T := TX9) (N := 29) hx hb hts iw9 hown hK hP 0 rfl rfl 15 (by decide) kw1 (fun _ h9 => h9) rfl dX9_alterRow_25 ?_
    refine lv_iconst (v := 3) hx hb dX9_alterRow_28 (by decide) ?_
    refine lv_iload_n hx hb dX9_alterRow_29 rfl (lv_at hl 2 rfl) ?_
    refine lv_imul hx hb dX9_alterRow_30 ?_
    refine lv_iload_n hx hb dX9_alterRow_31 rfl (lv_at hl 3 rfl) ?_
    refine lv_iadd hx hb dX9_alterRow_32 ?_
    refine lv_iload_n hx hb dX9_alterRow_33 rfl (lv_at hl 4 rfl) ?_
    obtain ⟨g_5, hf⟩ := ht_gd_ob hf
    obtain ⟨vM_rows_6, evM_rows_6, hf⟩ := ht_nm_ob hf
    refine ht_iast (w2 := (wMo K jM aM RM.s RM.held RM.aside RM.before RM.isHeld RM.tape RM.taped RM.token RM.frm RM.to RM.value RM.isWrong RM.unpaired RM.bestSound RM.bestWay vM_rows_6 RM.rowN RM.sortOf RM.sizeOf RM.numbers RM.holdsWhat RM.holdsWhich RM.holdsMany RM.bodies RM.ran RM.actKind RM.actN RM.actA RM.isParted)) hx hb hK hP hD hS 8 1 rfl rfl g_5 dX9_alterRow_34 evM_rows_6 rfl (fun H locs hP hD hS => ?_)
    refine lv_iload hx hb dX9_alterRow_35 (lv_at hl 0 rfl) ?_
    have ho := Option.some.inj hf
    subst ho; subst hQ
    exact ht_iret hx hb hr hlk rfl hK hP hD hS dX9_alterRow_37
  · replace hf := ht_t c_2 hf
    refine lv_bipush (v := -9) hx hb dX9_alterRow_9 (by decide) ?_
    have ho := Option.some.inj hf
    subst ho; subst hQ
    exact ht_iret hx hb hr hlk rfl hK hP hD hS dX9_alterRow_11
abbrev rmX9_judge : Room := { frames := 4, cells := 0, slots := 0, locals := 93 }
theorem hdX9_judge : yX9_judge.cls = RX9 ∧ yX9_judge.cls ≠ "java/lang/invoke/MethodHandle" ∧ yX9_judge.cls ≠ "java/lang/invoke/VarHandle" ∧ (parseMethodDescriptor yX9_judge.desc).map (fun d => d.parameters.length) = some 1 := by decide +kernel
def fX9_judge_b102 (RM : ModV) (x2 : Int32) (x3 : Int32) (vM_s : AI) (vM_aside : AI) : Option (Int32 × AI × AI) := ht_bn (fX9_copyRow vM_aside vM_s) (fun o_1 => if x3 = 0 then (some (x2, o_1, vM_aside)) else (some ((0 : Int32), o_1, vM_aside)))
def fX9_judge_b95 (RM : ModV) (k25 : Int32 → Int32 → Int32 → AI → AI → Option (Int32 × AI × AI)) (x1 : Int32) (x2 : Int32) (t0 : Int32) (vM_s : AI) (vM_aside : AI) : Option (Int32 × AI × AI) := ht_nm (x2 + (1 : Int32)) (fun x2_3 => k25 x1 x2_3 t0 vM_s vM_aside)
def fX9_judge_b94 (RM : ModV) (k25 : Int32 → Int32 → Int32 → AI → AI → Option (Int32 × AI × AI)) (x1 : Int32) (x2 : Int32) (vM_s : AI) (vM_aside : AI) : Option (Int32 × AI × AI) := fX9_judge_b95 RM k25 x1 x2 (0 : Int32) vM_s vM_aside
def fX9_judge_b25 (RM : ModV) (k25 : Int32 → Int32 → Int32 → AI → AI → Option (Int32 × AI × AI)) (x1 : Int32) (x2 : Int32) (x3 : Int32) (vM_s : AI) (vM_aside : AI) : Option (Int32 × AI × AI) := if RM.rowN ≤ x2 then (fX9_judge_b102 RM x2 x3 vM_s vM_aside) else (if x3 = 0 then (fX9_judge_b102 RM x2 x3 vM_s vM_aside) else (ht_gd (ht_ix (((3 : Int32) * x2) + (2 : Int32)) 30) (ht_bn (fX9_goesOn (vM_s, RM.held, vM_aside, RM.before, RM.isHeld, RM.tape, RM.taped, RM.token, RM.frm, RM.to, RM.value, RM.isWrong, RM.unpaired, RM.bestSound, RM.bestWay, RM.rows, RM.rowN, RM.sortOf, RM.sizeOf, RM.numbers, RM.holdsWhat, RM.holdsWhich, RM.holdsMany, RM.bodies, RM.ran, RM.actKind, RM.actN, RM.actA, RM.isParted)) (fun o_7 => if (RM.rows (((3 : Int32) * x2) + (2 : Int32)).toNatClampNeg) = o_7.1 then (ht_gd (ht_ix ((3 : Int32) * x2) 30) (ht_bn (fX9_its (o_7.2, RM.held, vM_aside, RM.before, RM.isHeld, RM.tape, RM.taped, RM.token, RM.frm, RM.to, RM.value, RM.isWrong, RM.unpaired, RM.bestSound, RM.bestWay, RM.rows, RM.rowN, RM.sortOf, RM.sizeOf, RM.numbers, RM.holdsWhat, RM.holdsWhich, RM.holdsMany, RM.bodies, RM.ran, RM.actKind, RM.actN, RM.actA, RM.isParted) x1 (1 : Int32)) (fun o_10 => if (RM.rows ((3 : Int32) * x2).toNatClampNeg) = o_10 then (ht_gd (ht_ix (((3 : Int32) * x2) + (1 : Int32)) 30) (ht_bn (fX9_its (o_7.2, RM.held, vM_aside, RM.before, RM.isHeld, RM.tape, RM.taped, RM.token, RM.frm, RM.to, RM.value, RM.isWrong, RM.unpaired, RM.bestSound, RM.bestWay, RM.rows, RM.rowN, RM.sortOf, RM.sizeOf, RM.numbers, RM.holdsWhat, RM.holdsWhich, RM.holdsMany, RM.bodies, RM.ran, RM.actKind, RM.actN, RM.actA, RM.isParted) x1 (2 : Int32)) (fun o_13 => if (RM.rows (((3 : Int32) * x2) + (1 : Int32)).toNatClampNeg) = o_13 then (fX9_judge_b95 RM k25 x1 x2 (1 : Int32) o_7.2 vM_aside) else (fX9_judge_b94 RM k25 x1 x2 o_7.2 vM_aside)))) else (fX9_judge_b94 RM k25 x1 x2 o_7.2 vM_aside)))) else (fX9_judge_b94 RM k25 x1 x2 o_7.2 vM_aside)))))
def fX9_judge (RM : ModV) (p0 : Int32) : Option (Int32 × AI × AI) := ht_bn (fX9_isOne RM p0) (fun o_15 => if o_15 = 0 then (some ((-1 : Int32), RM.s, RM.aside)) else (ht_bn (fX9_copyRow RM.s RM.aside) (fun o_17 => ht_lp5 (fX9_judge_b25 RM) FU p0 (0 : Int32) (1 : Int32) RM.s o_17)))
set_option maxHeartbeats 1000000 in
set_option maxRecDepth 100000 in
theorem ctX9_judge (l : Launch) (D : va_G) (K : Nat → ClassId) (jM : Nat) (aM : Nat → Nat) (RM : ModV) (p0 : Int32) (o : (Int32 × AI × AI)) (hf : fX9_judge RM p0 = some o) (sz : Nat) : Met l yX9_judge wsX9_judge rmX9_judge (ht_Pre D K [.ref jM, .int p0] (wMo K jM aM RM.s RM.held RM.aside RM.before RM.isHeld RM.tape RM.taped RM.token RM.frm RM.to RM.value RM.isWrong RM.unpaired RM.bestSound RM.bestWay RM.rows RM.rowN RM.sortOf RM.sizeOf RM.numbers RM.holdsWhat RM.holdsWhich RM.holdsMany RM.bodies RM.ran RM.actKind RM.actN RM.actA RM.isParted) sz) (ht_Qi D K (wMo K jM aM o.2.1 RM.held o.2.2 RM.before RM.isHeld RM.tape RM.taped RM.token RM.frm RM.to RM.value RM.isWrong RM.unpaired RM.bestSound RM.bestWay RM.rows RM.rowN RM.sortOf RM.sizeOf RM.numbers RM.holdsWhat RM.holdsWhich RM.holdsMany RM.bodies RM.ran RM.actKind RM.actN RM.actA RM.isParted) o.1 (va_A (wMo K jM aM RM.s RM.held RM.aside RM.before RM.isHeld RM.tape RM.taped RM.token RM.frm RM.to RM.value RM.isWrong RM.unpaired RM.bestSound RM.bestWay RM.rows RM.rowN RM.sortOf RM.sizeOf RM.numbers RM.holdsWhat RM.holdsWhich RM.holdsMany RM.bodies RM.ran RM.actKind RM.actN RM.actA RM.isParted) sz)) 0 0 (va_A (wMo K jM aM RM.s RM.held RM.aside RM.before RM.isHeld RM.tape RM.taped RM.token RM.frm RM.to RM.value RM.isWrong RM.unpaired RM.bestSound RM.bestWay RM.rows RM.rowN RM.sortOf RM.sizeOf RM.numbers RM.holdsWhat RM.holdsWhich RM.holdsMany RM.bodies RM.ran RM.actKind RM.actN RM.actA RM.isParted) sz) := by
  refine ht_enter (Qf := ht_Qi D K (wMo K jM aM o.2.1 RM.held o.2.2 RM.before RM.isHeld RM.tape RM.taped RM.token RM.frm RM.to RM.value RM.isWrong RM.unpaired RM.bestSound RM.bestWay RM.rows RM.rowN RM.sortOf RM.sizeOf RM.numbers RM.holdsWhat RM.holdsWhich RM.holdsMany RM.bodies RM.ran RM.actKind RM.actN RM.actA RM.isParted) o.1) (cc := cX9_judge) (maxL := 4) (rt := (some .int)) (by decide) rfl (Nat.le_of_ble_eq_true rfl) ?_ sz
  intro p e s m below meth c A Q H locs ls hQ hx hb hr hlk hmn hml hown hts hA hK hP hD hS hl
  have hown : s.vm.findClass RX9 = some m.cls := hown
  have hF : CallFix p m c cX9_judge 4 s ([.ref jM, .int p0] : List Value).toArray wsX9_judge RX9 := ⟨hx, hb, hml, hown, hts⟩
  have hl : lv_has ls 4 [(0, .ref jM), (1, .int p0)] := hl
  have iw9 : ∀ w ∈ u_ws RX9 TX9 29, w ∈ wsX9_judge := by decide +kernel
  have kw1 := hts (.fieldLink RX9 16 "HeldTonguesModel" "aside" "[I") (by decide +kernel)
  have kw2 := hts (.fieldLink RX9 7 "HeldTonguesModel" "s" "[I") (by decide +kernel)
  have kw3 := hts (.fieldLink RX9 157 "HeldTonguesModel" "rowN" "I") (by decide +kernel)
  have kw4 := hts (.fieldLink RX9 31 "HeldTonguesModel" "rows" "[I") (by decide +kernel)
  have b102 : ∀ (x2 : Int32) (x3 : Int32) (vM_s : AI) (vM_aside : AI) (H : Heap) (locs : List Loc) (ls : Array Slot), fX9_judge_b102 RM x2 x3 vM_s vM_aside = some o → va_P D vwCl (wMo K jM aM vM_s RM.held vM_aside RM.before RM.isHeld RM.tape RM.taped RM.token RM.frm RM.to RM.value RM.isWrong RM.unpaired RM.bestSound RM.bestWay RM.rows RM.rowN RM.sortOf RM.sizeOf RM.numbers RM.holdsWhat RM.holdsWhich RM.holdsMany RM.bodies RM.ran RM.actKind RM.actN RM.actA RM.isParted) H → va_D A (wMo K jM aM vM_s RM.held vM_aside RM.before RM.isHeld RM.tape RM.taped RM.token RM.frm RM.to RM.value RM.isWrong RM.unpaired RM.bestSound RM.bestWay RM.rows RM.rowN RM.sortOf RM.sizeOf RM.numbers RM.holdsWhat RM.holdsWhich RM.holdsMany RM.bodies RM.ran RM.actKind RM.actN RM.actA RM.isParted) → va_S A s.heap H locs → lv_has ls 4 [(0, .ref jM), (2, .int x2), (3, .int x3)] → W p l e (headSpec wsX9_judge rmX9_judge).room s m ([.ref jM, .int p0] : List Value).toArray below meth c H locs 0 0 Q (F0 m 102 ls []) := by
    intro x2 x3 vM_s vM_aside H locs ls hf hP hD hS hl
    delta fX9_judge_b102 at hf
    refine lv_aload_n hx hb dX9_judge_102 rfl (lv_at hl 0 rfl) ?_
    refine va_get (D := D) (ci := 9) (v := .ref (aM 2)) (C := RX9) (T := TX9) (N := 29) hx hb hts iw9 hown hK hP 0 rfl rfl 2 (by decide) kw1 (fun _ h9 => h9) rfl dX9_judge_103 ?_
    refine lv_aload_n hx hb dX9_judge_106 rfl (lv_at hl 0 rfl) ?_
    refine va_get (D := D) (ci := 9) (v := .ref (aM 0)) (C := RX9) (T := TX9) (N := 29) hx hb hts iw9 hown hK hP 0 rfl rfl 0 (by decide) kw2 (fun _ h9 => h9) rfl dX9_judge_107 ?_
    obtain ⟨o_1, ho_1, hf⟩ := ht_bn_ob hf
    refine ht_callSv (rest := []) (As := [.ref (aM 2), .ref (aM 0)]) (wc := (wAr K 57 (aM 2) vM_aside ++ (wAr K 57 (aM 0) vM_s))) (wr := ([(jM, .inr (9, [.ref (aM 0), .ref (aM 1), .ref (aM 2), .ref (aM 3), .int RM.isHeld, .ref (aM 4), .int RM.taped, .int RM.token, .int RM.frm, .int RM.to, .int RM.value, .int RM.isWrong, .ref (aM 5), .int RM.bestSound, .ref (aM 6), .ref (aM 7), .int RM.rowN, .ref (aM 8), .ref (aM 9), .ref (aM 10), .ref (aM 11), .ref (aM 12), .ref (aM 13), .ref (aM 14), .int RM.ran, .int RM.actKind, .int RM.actN, .int RM.actA, .int RM.isParted]))] ++ ([(aM 1, .inl (K 1, 57, .inl RM.held))] ++ ([(aM 3, .inl (K 1, 57, .inl RM.before))] ++ ([(aM 4, .inl (K 1, 200, .inl RM.tape))] ++ ([(aM 5, .inl (K 1, 57, .inl RM.unpaired))] ++ ([(aM 6, .inl (K 1, 8, .inl RM.bestWay))] ++ ([(aM 7, .inl (K 1, 30, .inl RM.rows))] ++ ([(aM 8, .inl (K 1, 4, .inl RM.sortOf))] ++ ([(aM 9, .inl (K 1, 4, .inl RM.sizeOf))] ++ ([(aM 10, .inl (K 1, 160, .inl RM.numbers))] ++ ([(aM 11, .inl (K 1, 4, .inl RM.holdsWhat))] ++ ([(aM 12, .inl (K 1, 4, .inl RM.holdsWhich))] ++ ([(aM 13, .inl (K 1, 4, .inl RM.holdsMany))] ++ ([(aM 14, .inl (K 1, 30, .inl RM.bodies))]))))))))))))))) (w1 := (wAr K 57 (aM 2) vM_aside ++ (wAr K 57 (aM 0) o_1))) (w2 := (wMo K jM aM o_1 RM.held vM_aside RM.before RM.isHeld RM.tape RM.taped RM.token RM.frm RM.to RM.value RM.isWrong RM.unpaired RM.bestSound RM.bestWay RM.rows RM.rowN RM.sortOf RM.sizeOf RM.numbers RM.holdsWhat RM.holdsWhich RM.holdsMany RM.bodies RM.ran RM.actKind RM.actN RM.actA RM.isParted)) hF (ctX9_copyRow l D K (aM 2) (aM 0) vM_aside vM_s o_1 ho_1 H.size) (va_cwS 2 hts gX9_judge_X9_copyRow rfl rfl rfl hdX9_copyRow ⟨Nat.le_of_ble_eq_true rfl, Nat.le_of_ble_eq_true rfl⟩) hK hP hD hS hA [3, 1] [0, 2, 4, 5, 6, 7, 8, 9, 10, 11, 12, 13, 14, 15] rfl rfl (by decide) (by decide) (by decide) [0, 15, 1, 14, 2, 3, 4, 5, 6, 7, 8, 9, 10, 11, 12, 13] rfl (by decide) rfl hl.1 rfl (Nat.le_of_ble_eq_true rfl) dX9_judge_110 ⟨Nat.zero_le _, Nat.zero_le _⟩ (fun H locs hP hD hS => ?_)
    refine lv_iload_n hx hb dX9_judge_113 rfl (lv_at hl 2 rfl) ?_
    refine lv_if_eq (tgt := 121) hx hb dX9_judge_114 (by decide) (fun c_2 => ?_) (fun c_2 => ?_)
    · replace hf := ht_t c_2 hf
      refine lv_iload_n hx hb dX9_judge_121 rfl (lv_at hl 1 rfl) ?_
      have ho := Option.some.inj hf
      subst ho; subst hQ
      exact ht_iret hx hb hr hlk rfl hK hP hD hS dX9_judge_122
    · replace hf := ht_f c_2 hf
      refine lv_iconst (v := 0) hx hb dX9_judge_117 (by decide) ?_
      refine lv_goto (tgt := 122) hx hb dX9_judge_118 (by decide) ?_
      have ho := Option.some.inj hf
      subst ho; subst hQ
      exact ht_iret hx hb hr hlk rfl hK hP hD hS dX9_judge_122
  have b95 : ∀ (k25 : Int32 → Int32 → Int32 → AI → AI → Option (Int32 × AI × AI)) (hk25 : ∀ (x1 : Int32) (x2 : Int32) (x3 : Int32) (vM_s : AI) (vM_aside : AI) (H : Heap) (locs : List Loc) (ls : Array Slot), k25 x1 x2 x3 vM_s vM_aside = some o → va_P D vwCl (wMo K jM aM vM_s RM.held vM_aside RM.before RM.isHeld RM.tape RM.taped RM.token RM.frm RM.to RM.value RM.isWrong RM.unpaired RM.bestSound RM.bestWay RM.rows RM.rowN RM.sortOf RM.sizeOf RM.numbers RM.holdsWhat RM.holdsWhich RM.holdsMany RM.bodies RM.ran RM.actKind RM.actN RM.actA RM.isParted) H → va_D A (wMo K jM aM vM_s RM.held vM_aside RM.before RM.isHeld RM.tape RM.taped RM.token RM.frm RM.to RM.value RM.isWrong RM.unpaired RM.bestSound RM.bestWay RM.rows RM.rowN RM.sortOf RM.sizeOf RM.numbers RM.holdsWhat RM.holdsWhich RM.holdsMany RM.bodies RM.ran RM.actKind RM.actN RM.actA RM.isParted) → va_S A s.heap H locs → lv_has ls 4 [(0, .ref jM), (1, .int x1), (2, .int x2), (3, .int x3)] → W p l e (headSpec wsX9_judge rmX9_judge).room s m ([.ref jM, .int p0] : List Value).toArray below meth c H locs 0 0 Q (F0 m 25 ls [])) (x1 : Int32) (x2 : Int32) (t0 : Int32) (vM_s : AI) (vM_aside : AI) (H : Heap) (locs : List Loc) (ls : Array Slot), fX9_judge_b95 RM k25 x1 x2 t0 vM_s vM_aside = some o → va_P D vwCl (wMo K jM aM vM_s RM.held vM_aside RM.before RM.isHeld RM.tape RM.taped RM.token RM.frm RM.to RM.value RM.isWrong RM.unpaired RM.bestSound RM.bestWay RM.rows RM.rowN RM.sortOf RM.sizeOf RM.numbers RM.holdsWhat RM.holdsWhich RM.holdsMany RM.bodies RM.ran RM.actKind RM.actN RM.actA RM.isParted) H → va_D A (wMo K jM aM vM_s RM.held vM_aside RM.before RM.isHeld RM.tape RM.taped RM.token RM.frm RM.to RM.value RM.isWrong RM.unpaired RM.bestSound RM.bestWay RM.rows RM.rowN RM.sortOf RM.sizeOf RM.numbers RM.holdsWhat RM.holdsWhich RM.holdsMany RM.bodies RM.ran RM.actKind RM.actN RM.actA RM.isParted) → va_S A s.heap H locs → lv_has ls 4 [(0, .ref jM), (1, .int x1), (2, .int x2)] → W p l e (headSpec wsX9_judge rmX9_judge).room s m ([.ref jM, .int p0] : List Value).toArray below meth c H locs 0 0 Q (F0 m 95 ls [.int t0]) := by
    intro k25 hk25 x1 x2 t0 vM_s vM_aside H locs ls hf hP hD hS hl
    delta fX9_judge_b95 at hf
    refine lv_istore_n (lv' := [(3, .int t0), (0, .ref jM), (1, .int x1), (2, .int x2)]) hx hb dX9_judge_95 rfl hl (by decide) rfl (fun ls hl => ?_)
    obtain ⟨x2_3, ex2_3, hf⟩ := ht_nm_ob hf
    refine lv_iinc (v := x2_3) (lv' := [(2, .int x2_3), (3, .int t0), (0, .ref jM), (1, .int x1)]) hx hb dX9_judge_96 hl (k := 3) rfl (by rw [ex2_3]; rfl) (by decide) rfl (fun ls hl => ?_)
    refine lv_goto (tgt := 25) hx hb dX9_judge_99 (by decide) ?_
    exact hk25 x1 x2_3 t0 vM_s vM_aside _ _ _ hf hP hD hS (lv_sub hl [2, 3, 0, 1] rfl)
  have b94 : ∀ (k25 : Int32 → Int32 → Int32 → AI → AI → Option (Int32 × AI × AI)) (hk25 : ∀ (x1 : Int32) (x2 : Int32) (x3 : Int32) (vM_s : AI) (vM_aside : AI) (H : Heap) (locs : List Loc) (ls : Array Slot), k25 x1 x2 x3 vM_s vM_aside = some o → va_P D vwCl (wMo K jM aM vM_s RM.held vM_aside RM.before RM.isHeld RM.tape RM.taped RM.token RM.frm RM.to RM.value RM.isWrong RM.unpaired RM.bestSound RM.bestWay RM.rows RM.rowN RM.sortOf RM.sizeOf RM.numbers RM.holdsWhat RM.holdsWhich RM.holdsMany RM.bodies RM.ran RM.actKind RM.actN RM.actA RM.isParted) H → va_D A (wMo K jM aM vM_s RM.held vM_aside RM.before RM.isHeld RM.tape RM.taped RM.token RM.frm RM.to RM.value RM.isWrong RM.unpaired RM.bestSound RM.bestWay RM.rows RM.rowN RM.sortOf RM.sizeOf RM.numbers RM.holdsWhat RM.holdsWhich RM.holdsMany RM.bodies RM.ran RM.actKind RM.actN RM.actA RM.isParted) → va_S A s.heap H locs → lv_has ls 4 [(0, .ref jM), (1, .int x1), (2, .int x2), (3, .int x3)] → W p l e (headSpec wsX9_judge rmX9_judge).room s m ([.ref jM, .int p0] : List Value).toArray below meth c H locs 0 0 Q (F0 m 25 ls [])) (x1 : Int32) (x2 : Int32) (vM_s : AI) (vM_aside : AI) (H : Heap) (locs : List Loc) (ls : Array Slot), fX9_judge_b94 RM k25 x1 x2 vM_s vM_aside = some o → va_P D vwCl (wMo K jM aM vM_s RM.held vM_aside RM.before RM.isHeld RM.tape RM.taped RM.token RM.frm RM.to RM.value RM.isWrong RM.unpaired RM.bestSound RM.bestWay RM.rows RM.rowN RM.sortOf RM.sizeOf RM.numbers RM.holdsWhat RM.holdsWhich RM.holdsMany RM.bodies RM.ran RM.actKind RM.actN RM.actA RM.isParted) H → va_D A (wMo K jM aM vM_s RM.held vM_aside RM.before RM.isHeld RM.tape RM.taped RM.token RM.frm RM.to RM.value RM.isWrong RM.unpaired RM.bestSound RM.bestWay RM.rows RM.rowN RM.sortOf RM.sizeOf RM.numbers RM.holdsWhat RM.holdsWhich RM.holdsMany RM.bodies RM.ran RM.actKind RM.actN RM.actA RM.isParted) → va_S A s.heap H locs → lv_has ls 4 [(0, .ref jM), (1, .int x1), (2, .int x2)] → W p l e (headSpec wsX9_judge rmX9_judge).room s m ([.ref jM, .int p0] : List Value).toArray below meth c H locs 0 0 Q (F0 m 94 ls []) := by
    intro k25 hk25 x1 x2 vM_s vM_aside H locs ls hf hP hD hS hl
    delta fX9_judge_b94 at hf
    refine lv_iconst (v := 0) hx hb dX9_judge_94 (by decide) ?_
    exact b95 _ hk25 x1 x2 (0 : Int32) vM_s vM_aside _ _ _ hf hP hD hS hl
  have b25 : ∀ (n : Nat) (x1 : Int32) (x2 : Int32) (x3 : Int32) (vM_s : AI) (vM_aside : AI) (H : Heap) (locs : List Loc) (ls : Array Slot), ht_lp5 (fX9_judge_b25 RM) n x1 x2 x3 vM_s vM_aside = some o → va_P D vwCl (wMo K jM aM vM_s RM.held vM_aside RM.before RM.isHeld RM.tape RM.taped RM.token RM.frm RM.to RM.value RM.isWrong RM.unpaired RM.bestSound RM.bestWay RM.rows RM.rowN RM.sortOf RM.sizeOf RM.numbers RM.holdsWhat RM.holdsWhich RM.holdsMany RM.bodies RM.ran RM.actKind RM.actN RM.actA RM.isParted) H → va_D A (wMo K jM aM vM_s RM.held vM_aside RM.before RM.isHeld RM.tape RM.taped RM.token RM.frm RM.to RM.value RM.isWrong RM.unpaired RM.bestSound RM.bestWay RM.rows RM.rowN RM.sortOf RM.sizeOf RM.numbers RM.holdsWhat RM.holdsWhich RM.holdsMany RM.bodies RM.ran RM.actKind RM.actN RM.actA RM.isParted) → va_S A s.heap H locs → lv_has ls 4 [(0, .ref jM), (1, .int x1), (2, .int x2), (3, .int x3)] → W p l e (headSpec wsX9_judge rmX9_judge).room s m ([.ref jM, .int p0] : List Value).toArray below meth c H locs 0 0 Q (F0 m 25 ls []) := by
    intro n
    induction n with
    | zero =>
      intro x1 x2 x3 vM_s vM_aside H locs ls hf hP hD hS hl
      cases (show (none : Option (Int32 × AI × AI)) = some o from hf)
    | succ n hk25 =>
      intro x1 x2 x3 vM_s vM_aside H locs ls hf hP hD hS hl
      replace hf : fX9_judge_b25 RM (ht_lp5 (fX9_judge_b25 RM) n) x1 x2 x3 vM_s vM_aside = some o := hf
      delta fX9_judge_b25 at hf
      refine lv_iload_n hx hb dX9_judge_25 rfl (lv_at hl 2 rfl) ?_
      refine lv_aload_n hx hb dX9_judge_26 rfl (lv_at hl 0 rfl) ?_
      refine va_get (D := D) (ci := 9) (v := .int RM.rowN) (C := RX9) (T := TX9) (N := 29) hx hb hts iw9 hown hK hP 0 rfl rfl 16 (by decide) kw3 (fun _ h9 => h9) rfl dX9_judge_27 ?_
      refine lv_icmp_ge (tgt := 102) hx hb dX9_judge_30 (by decide) (fun c_4 => ?_) (fun c_4 => ?_)
      · replace hf := ht_t c_4 hf
        exact b102  x2 x3 vM_s vM_aside _ _ _ hf hP hD hS (lv_sub hl [0, 2, 3] rfl)
      · replace hf := ht_f c_4 hf
        refine lv_iload_n hx hb dX9_judge_33 rfl (lv_at hl 3 rfl) ?_
        refine lv_if_eq (tgt := 102) hx hb dX9_judge_34 (by decide) (fun c_5 => ?_) (fun c_5 => ?_)
        · replace hf := ht_t c_5 hf
          exact b102  x2 x3 vM_s vM_aside _ _ _ hf hP hD hS (lv_sub hl [0, 2, 3] rfl)
        · replace hf := ht_f c_5 hf
          refine lv_aload_n hx hb dX9_judge_37 rfl (lv_at hl 0 rfl) ?_
          refine va_get (D := D) (ci := 9) (v := .ref (aM 7)) (C := RX9) (T := TX9) (N := 29) hx hb hts iw9 hown hK hP 0 rfl rfl 15 (by decide) kw4 (fun _ h9 => h9) rfl dX9_judge_38 ?_
          refine lv_iconst (v := 3) hx hb dX9_judge_41 (by decide) ?_
          refine lv_iload_n hx hb dX9_judge_42 rfl (lv_at hl 2 rfl) ?_
          refine lv_imul hx hb dX9_judge_43 ?_
          refine lv_iconst (v := 2) hx hb dX9_judge_44 (by decide) ?_
          refine lv_iadd hx hb dX9_judge_45 ?_
          obtain ⟨g_6, hf⟩ := ht_gd_ob hf
          refine va_iald hx hb hK hP 8 1 rfl rfl (ht_ix_in g_6) dX9_judge_46 ?_
          refine lv_aload_n hx hb dX9_judge_47 rfl (lv_at hl 0 rfl) ?_
          obtain ⟨o_7, ho_7, hf⟩ := ht_bn_ob hf
          refine ht_callVi (r := o_7.1) (rest := [.int (RM.rows (((3 : Int32) * x2) + (2 : Int32)).toNatClampNeg)]) (As := []) (wc := (wMo K jM aM vM_s RM.held vM_aside RM.before RM.isHeld RM.tape RM.taped RM.token RM.frm RM.to RM.value RM.isWrong RM.unpaired RM.bestSound RM.bestWay RM.rows RM.rowN RM.sortOf RM.sizeOf RM.numbers RM.holdsWhat RM.holdsWhich RM.holdsMany RM.bodies RM.ran RM.actKind RM.actN RM.actA RM.isParted)) (wr := []) (w1 := (wMo K jM aM o_7.2 RM.held vM_aside RM.before RM.isHeld RM.tape RM.taped RM.token RM.frm RM.to RM.value RM.isWrong RM.unpaired RM.bestSound RM.bestWay RM.rows RM.rowN RM.sortOf RM.sizeOf RM.numbers RM.holdsWhat RM.holdsWhich RM.holdsMany RM.bodies RM.ran RM.actKind RM.actN RM.actA RM.isParted)) (w2 := (wMo K jM aM o_7.2 RM.held vM_aside RM.before RM.isHeld RM.tape RM.taped RM.token RM.frm RM.to RM.value RM.isWrong RM.unpaired RM.bestSound RM.bestWay RM.rows RM.rowN RM.sortOf RM.sizeOf RM.numbers RM.holdsWhat RM.holdsWhich RM.holdsMany RM.bodies RM.ran RM.actKind RM.actN RM.actA RM.isParted)) hF (ctX9_goesOn l D K jM aM (vM_s, RM.held, vM_aside, RM.before, RM.isHeld, RM.tape, RM.taped, RM.token, RM.frm, RM.to, RM.value, RM.isWrong, RM.unpaired, RM.bestSound, RM.bestWay, RM.rows, RM.rowN, RM.sortOf, RM.sizeOf, RM.numbers, RM.holdsWhat, RM.holdsWhich, RM.holdsMany, RM.bodies, RM.ran, RM.actKind, RM.actN, RM.actA, RM.isParted) o_7 ho_7 H.size) (cwV 0 hts gX9_judge_X9_goesOn rfl rfl rfl hdX9_goesOn ⟨Nat.le_of_ble_eq_true rfl, Nat.le_of_ble_eq_true rfl⟩) hK hP hD hS hA [0, 1, 2, 3, 4, 5, 6, 7, 8, 9, 10, 11, 12, 13, 14, 15] [] rfl rfl (by decide) (by decide) (by decide) [0, 1, 2, 3, 4, 5, 6, 7, 8, 9, 10, 11, 12, 13, 14, 15] rfl (by decide) (va_recv hK hP (ci := 9) (q0 := 0) rfl rfl) rfl hl.1 rfl (Nat.le_of_ble_eq_true rfl) dX9_judge_48 ⟨Nat.zero_le _, Nat.zero_le _⟩ (fun H locs hP hD hS => ?_)
          refine lv_icmp_ne (tgt := 94) hx hb dX9_judge_51 (by decide) (fun c_8 => ?_) (fun c_8 => ?_)
          · replace hf := ht_f c_8 hf
            exact b94 _ hk25 x1 x2 o_7.2 vM_aside _ _ _ hf hP hD hS (lv_sub hl [0, 1, 2] rfl)
          · replace hf := ht_t c_8 hf
            refine lv_aload_n hx hb dX9_judge_54 rfl (lv_at hl 0 rfl) ?_
            refine va_get (D := D) (ci := 9) (v := .ref (aM 7)) (C := RX9) (T := TX9) (N := 29) hx hb hts iw9 hown hK hP 0 rfl rfl 15 (by decide) kw4 (fun _ h9 => h9) rfl dX9_judge_55 ?_
            refine lv_iconst (v := 3) hx hb dX9_judge_58 (by decide) ?_
            refine lv_iload_n hx hb dX9_judge_59 rfl (lv_at hl 2 rfl) ?_
            refine lv_imul hx hb dX9_judge_60 ?_
            obtain ⟨g_9, hf⟩ := ht_gd_ob hf
            refine va_iald hx hb hK hP 8 1 rfl rfl (ht_ix_in g_9) dX9_judge_61 ?_
            refine lv_aload_n hx hb dX9_judge_62 rfl (lv_at hl 0 rfl) ?_
            refine lv_iload_n hx hb dX9_judge_63 rfl (lv_at hl 1 rfl) ?_
            refine lv_iconst (v := 1) hx hb dX9_judge_64 (by decide) ?_
            obtain ⟨o_10, ho_10, hf⟩ := ht_bn_ob hf
            refine ht_callVi (r := o_10) (rest := [.int (RM.rows ((3 : Int32) * x2).toNatClampNeg)]) (As := [.int x1, .int (1 : Int32)]) (wc := (wMo K jM aM o_7.2 RM.held vM_aside RM.before RM.isHeld RM.tape RM.taped RM.token RM.frm RM.to RM.value RM.isWrong RM.unpaired RM.bestSound RM.bestWay RM.rows RM.rowN RM.sortOf RM.sizeOf RM.numbers RM.holdsWhat RM.holdsWhich RM.holdsMany RM.bodies RM.ran RM.actKind RM.actN RM.actA RM.isParted)) (wr := []) (w1 := (wMo K jM aM o_7.2 RM.held vM_aside RM.before RM.isHeld RM.tape RM.taped RM.token RM.frm RM.to RM.value RM.isWrong RM.unpaired RM.bestSound RM.bestWay RM.rows RM.rowN RM.sortOf RM.sizeOf RM.numbers RM.holdsWhat RM.holdsWhich RM.holdsMany RM.bodies RM.ran RM.actKind RM.actN RM.actA RM.isParted)) (w2 := (wMo K jM aM o_7.2 RM.held vM_aside RM.before RM.isHeld RM.tape RM.taped RM.token RM.frm RM.to RM.value RM.isWrong RM.unpaired RM.bestSound RM.bestWay RM.rows RM.rowN RM.sortOf RM.sizeOf RM.numbers RM.holdsWhat RM.holdsWhich RM.holdsMany RM.bodies RM.ran RM.actKind RM.actN RM.actA RM.isParted)) hF (ctX9_its l D K jM aM (o_7.2, RM.held, vM_aside, RM.before, RM.isHeld, RM.tape, RM.taped, RM.token, RM.frm, RM.to, RM.value, RM.isWrong, RM.unpaired, RM.bestSound, RM.bestWay, RM.rows, RM.rowN, RM.sortOf, RM.sizeOf, RM.numbers, RM.holdsWhat, RM.holdsWhich, RM.holdsMany, RM.bodies, RM.ran, RM.actKind, RM.actN, RM.actA, RM.isParted) x1 (1 : Int32) o_10 ho_10 H.size) (cwV 2 hts gX9_judge_X9_its rfl rfl rfl hdX9_its ⟨Nat.le_of_ble_eq_true rfl, Nat.le_of_ble_eq_true rfl⟩) hK hP hD hS hA [0, 1, 2, 3, 4, 5, 6, 7, 8, 9, 10, 11, 12, 13, 14, 15] [] rfl rfl (by decide) (by decide) (by decide) [0, 1, 2, 3, 4, 5, 6, 7, 8, 9, 10, 11, 12, 13, 14, 15] rfl (by decide) (va_recv hK hP (ci := 9) (q0 := 0) rfl rfl) rfl hl.1 rfl (Nat.le_of_ble_eq_true rfl) dX9_judge_65 ⟨Nat.zero_le _, Nat.zero_le _⟩ (fun H locs hP hD hS => ?_)
            refine lv_icmp_ne (tgt := 94) hx hb dX9_judge_68 (by decide) (fun c_11 => ?_) (fun c_11 => ?_)
            · replace hf := ht_f c_11 hf
              exact b94 _ hk25 x1 x2 o_7.2 vM_aside _ _ _ hf hP hD hS (lv_sub hl [0, 1, 2] rfl)
            · replace hf := ht_t c_11 hf
              refine lv_aload_n hx hb dX9_judge_71 rfl (lv_at hl 0 rfl) ?_
              refine va_get (D := D) (ci := 9) (v := .ref (aM 7)) (C := RX9) (T := TX9) (N := 29) hx hb hts iw9 hown hK hP 0 rfl rfl 15 (by decide) kw4 (fun _ h9 => h9) rfl dX9_judge_72 ?_
              refine lv_iconst (v := 3) hx hb dX9_judge_75 (by decide) ?_
              refine lv_iload_n hx hb dX9_judge_76 rfl (lv_at hl 2 rfl) ?_
              refine lv_imul hx hb dX9_judge_77 ?_
              refine lv_iconst (v := 1) hx hb dX9_judge_78 (by decide) ?_
              refine lv_iadd hx hb dX9_judge_79 ?_
              obtain ⟨g_12, hf⟩ := ht_gd_ob hf
              refine va_iald hx hb hK hP 8 1 rfl rfl (ht_ix_in g_12) dX9_judge_80 ?_
              refine lv_aload_n hx hb dX9_judge_81 rfl (lv_at hl 0 rfl) ?_
              refine lv_iload_n hx hb dX9_judge_82 rfl (lv_at hl 1 rfl) ?_
              refine lv_iconst (v := 2) hx hb dX9_judge_83 (by decide) ?_
              obtain ⟨o_13, ho_13, hf⟩ := ht_bn_ob hf
              refine ht_callVi (r := o_13) (rest := [.int (RM.rows (((3 : Int32) * x2) + (1 : Int32)).toNatClampNeg)]) (As := [.int x1, .int (2 : Int32)]) (wc := (wMo K jM aM o_7.2 RM.held vM_aside RM.before RM.isHeld RM.tape RM.taped RM.token RM.frm RM.to RM.value RM.isWrong RM.unpaired RM.bestSound RM.bestWay RM.rows RM.rowN RM.sortOf RM.sizeOf RM.numbers RM.holdsWhat RM.holdsWhich RM.holdsMany RM.bodies RM.ran RM.actKind RM.actN RM.actA RM.isParted)) (wr := []) (w1 := (wMo K jM aM o_7.2 RM.held vM_aside RM.before RM.isHeld RM.tape RM.taped RM.token RM.frm RM.to RM.value RM.isWrong RM.unpaired RM.bestSound RM.bestWay RM.rows RM.rowN RM.sortOf RM.sizeOf RM.numbers RM.holdsWhat RM.holdsWhich RM.holdsMany RM.bodies RM.ran RM.actKind RM.actN RM.actA RM.isParted)) (w2 := (wMo K jM aM o_7.2 RM.held vM_aside RM.before RM.isHeld RM.tape RM.taped RM.token RM.frm RM.to RM.value RM.isWrong RM.unpaired RM.bestSound RM.bestWay RM.rows RM.rowN RM.sortOf RM.sizeOf RM.numbers RM.holdsWhat RM.holdsWhich RM.holdsMany RM.bodies RM.ran RM.actKind RM.actN RM.actA RM.isParted)) hF (ctX9_its l D K jM aM (o_7.2, RM.held, vM_aside, RM.before, RM.isHeld, RM.tape, RM.taped, RM.token, RM.frm, RM.to, RM.value, RM.isWrong, RM.unpaired, RM.bestSound, RM.bestWay, RM.rows, RM.rowN, RM.sortOf, RM.sizeOf, RM.numbers, RM.holdsWhat, RM.holdsWhich, RM.holdsMany, RM.bodies, RM.ran, RM.actKind, RM.actN, RM.actA, RM.isParted) x1 (2 : Int32) o_13 ho_13 H.size) (cwV 2 hts gX9_judge_X9_its rfl rfl rfl hdX9_its ⟨Nat.le_of_ble_eq_true rfl, Nat.le_of_ble_eq_true rfl⟩) hK hP hD hS hA [0, 1, 2, 3, 4, 5, 6, 7, 8, 9, 10, 11, 12, 13, 14, 15] [] rfl rfl (by decide) (by decide) (by decide) [0, 1, 2, 3, 4, 5, 6, 7, 8, 9, 10, 11, 12, 13, 14, 15] rfl (by decide) (va_recv hK hP (ci := 9) (q0 := 0) rfl rfl) rfl hl.1 rfl (Nat.le_of_ble_eq_true rfl) dX9_judge_84 ⟨Nat.zero_le _, Nat.zero_le _⟩ (fun H locs hP hD hS => ?_)
              refine lv_icmp_ne (tgt := 94) hx hb dX9_judge_87 (by decide) (fun c_14 => ?_) (fun c_14 => ?_)
              · replace hf := ht_f c_14 hf
                exact b94 _ hk25 x1 x2 o_7.2 vM_aside _ _ _ hf hP hD hS (lv_sub hl [0, 1, 2] rfl)
              · replace hf := ht_t c_14 hf
                refine lv_iconst (v := 1) hx hb dX9_judge_90 (by decide) ?_
                refine lv_goto (tgt := 95) hx hb dX9_judge_91 (by decide) ?_
                exact b95 _ hk25 x1 x2 (1 : Int32) o_7.2 vM_aside _ _ _ hf hP hD hS (lv_sub hl [0, 1, 2] rfl)
  delta fX9_judge at hf
  refine lv_aload_n hx hb dX9_judge_0 rfl (lv_at hl 0 rfl) ?_
  refine lv_iload_n hx hb dX9_judge_1 rfl (lv_at hl 1 rfl) ?_
  obtain ⟨o_15, ho_15, hf⟩ := ht_bn_ob hf
  refine ht_callVi (r := o_15) (rest := []) (As := [.int p0]) (wc := (wMo K jM aM RM.s RM.held RM.aside RM.before RM.isHeld RM.tape RM.taped RM.token RM.frm RM.to RM.value RM.isWrong RM.unpaired RM.bestSound RM.bestWay RM.rows RM.rowN RM.sortOf RM.sizeOf RM.numbers RM.holdsWhat RM.holdsWhich RM.holdsMany RM.bodies RM.ran RM.actKind RM.actN RM.actA RM.isParted)) (wr := []) (w1 := (wMo K jM aM RM.s RM.held RM.aside RM.before RM.isHeld RM.tape RM.taped RM.token RM.frm RM.to RM.value RM.isWrong RM.unpaired RM.bestSound RM.bestWay RM.rows RM.rowN RM.sortOf RM.sizeOf RM.numbers RM.holdsWhat RM.holdsWhich RM.holdsMany RM.bodies RM.ran RM.actKind RM.actN RM.actA RM.isParted)) (w2 := (wMo K jM aM RM.s RM.held RM.aside RM.before RM.isHeld RM.tape RM.taped RM.token RM.frm RM.to RM.value RM.isWrong RM.unpaired RM.bestSound RM.bestWay RM.rows RM.rowN RM.sortOf RM.sizeOf RM.numbers RM.holdsWhat RM.holdsWhich RM.holdsMany RM.bodies RM.ran RM.actKind RM.actN RM.actA RM.isParted)) hF (ctX9_isOne l D K jM aM RM p0 o_15 ho_15 H.size) (cwV 1 hts gX9_judge_X9_isOne rfl rfl rfl hdX9_isOne ⟨Nat.le_of_ble_eq_true rfl, Nat.le_of_ble_eq_true rfl⟩) hK hP hD hS hA [0, 1, 2, 3, 4, 5, 6, 7, 8, 9, 10, 11, 12, 13, 14, 15] [] rfl rfl (by decide) (by decide) (by decide) [0, 1, 2, 3, 4, 5, 6, 7, 8, 9, 10, 11, 12, 13, 14, 15] rfl (by decide) (va_recv hK hP (ci := 9) (q0 := 0) rfl rfl) rfl hl.1 rfl (Nat.le_of_ble_eq_true rfl) dX9_judge_2 ⟨Nat.zero_le _, Nat.zero_le _⟩ (fun H locs hP hD hS => ?_)
  refine lv_if_ne (tgt := 10) hx hb dX9_judge_5 (by decide) (fun c_16 => ?_) (fun c_16 => ?_)
  · replace hf := ht_f c_16 hf
    refine lv_aload_n hx hb dX9_judge_10 rfl (lv_at hl 0 rfl) ?_
    refine va_get (D := D) (ci := 9) (v := .ref (aM 0)) (C := RX9) (T := TX9) (N := 29) hx hb hts iw9 hown hK hP 0 rfl rfl 0 (by decide) kw2 (fun _ h9 => h9) rfl dX9_judge_11 ?_
    refine lv_aload_n hx hb dX9_judge_14 rfl (lv_at hl 0 rfl) ?_
    refine va_get (D := D) (ci := 9) (v := .ref (aM 2)) (C := RX9) (T := TX9) (N := 29) hx hb hts iw9 hown hK hP 0 rfl rfl 2 (by decide) kw1 (fun _ h9 => h9) rfl dX9_judge_15 ?_
    obtain ⟨o_17, ho_17, hf⟩ := ht_bn_ob hf
    refine ht_callSv (rest := []) (As := [.ref (aM 0), .ref (aM 2)]) (wc := (wAr K 57 (aM 0) RM.s ++ (wAr K 57 (aM 2) RM.aside))) (wr := ([(jM, .inr (9, [.ref (aM 0), .ref (aM 1), .ref (aM 2), .ref (aM 3), .int RM.isHeld, .ref (aM 4), .int RM.taped, .int RM.token, .int RM.frm, .int RM.to, .int RM.value, .int RM.isWrong, .ref (aM 5), .int RM.bestSound, .ref (aM 6), .ref (aM 7), .int RM.rowN, .ref (aM 8), .ref (aM 9), .ref (aM 10), .ref (aM 11), .ref (aM 12), .ref (aM 13), .ref (aM 14), .int RM.ran, .int RM.actKind, .int RM.actN, .int RM.actA, .int RM.isParted]))] ++ ([(aM 1, .inl (K 1, 57, .inl RM.held))] ++ ([(aM 3, .inl (K 1, 57, .inl RM.before))] ++ ([(aM 4, .inl (K 1, 200, .inl RM.tape))] ++ ([(aM 5, .inl (K 1, 57, .inl RM.unpaired))] ++ ([(aM 6, .inl (K 1, 8, .inl RM.bestWay))] ++ ([(aM 7, .inl (K 1, 30, .inl RM.rows))] ++ ([(aM 8, .inl (K 1, 4, .inl RM.sortOf))] ++ ([(aM 9, .inl (K 1, 4, .inl RM.sizeOf))] ++ ([(aM 10, .inl (K 1, 160, .inl RM.numbers))] ++ ([(aM 11, .inl (K 1, 4, .inl RM.holdsWhat))] ++ ([(aM 12, .inl (K 1, 4, .inl RM.holdsWhich))] ++ ([(aM 13, .inl (K 1, 4, .inl RM.holdsMany))] ++ ([(aM 14, .inl (K 1, 30, .inl RM.bodies))]))))))))))))))) (w1 := (wAr K 57 (aM 0) RM.s ++ (wAr K 57 (aM 2) o_17))) (w2 := (wMo K jM aM RM.s RM.held o_17 RM.before RM.isHeld RM.tape RM.taped RM.token RM.frm RM.to RM.value RM.isWrong RM.unpaired RM.bestSound RM.bestWay RM.rows RM.rowN RM.sortOf RM.sizeOf RM.numbers RM.holdsWhat RM.holdsWhich RM.holdsMany RM.bodies RM.ran RM.actKind RM.actN RM.actA RM.isParted)) hF (ctX9_copyRow l D K (aM 0) (aM 2) RM.s RM.aside o_17 ho_17 H.size) (va_cwS 2 hts gX9_judge_X9_copyRow rfl rfl rfl hdX9_copyRow ⟨Nat.le_of_ble_eq_true rfl, Nat.le_of_ble_eq_true rfl⟩) hK hP hD hS hA [1, 3] [0, 2, 4, 5, 6, 7, 8, 9, 10, 11, 12, 13, 14, 15] rfl rfl (by decide) (by decide) (by decide) [0, 14, 1, 15, 2, 3, 4, 5, 6, 7, 8, 9, 10, 11, 12, 13] rfl (by decide) rfl hl.1 rfl (Nat.le_of_ble_eq_true rfl) dX9_judge_18 ⟨Nat.zero_le _, Nat.zero_le _⟩ (fun H locs hP hD hS => ?_)
    refine lv_iconst (v := 0) hx hb dX9_judge_21 (by decide) ?_
    refine lv_istore_n (lv' := [(2, .int (0 : Int32)), (0, .ref jM), (1, .int p0)]) hx hb dX9_judge_22 rfl hl (by decide) rfl (fun ls hl => ?_)
    refine lv_iconst (v := 1) hx hb dX9_judge_23 (by decide) ?_
    refine lv_istore_n (lv' := [(3, .int (1 : Int32)), (2, .int (0 : Int32)), (0, .ref jM), (1, .int p0)]) hx hb dX9_judge_24 rfl hl (by decide) rfl (fun ls hl => ?_)
    exact b25  FU p0 (0 : Int32) (1 : Int32) RM.s o_17 _ _ _ hf hP hD hS (lv_sub hl [2, 3, 1, 0] rfl)
  · replace hf := ht_t c_16 hf
    refine lv_iconst (v := -1) hx hb dX9_judge_8 (by decide) ?_
    have ho := Option.some.inj hf
    subst ho; subst hQ
    exact ht_iret hx hb hr hlk rfl hK hP hD hS dX9_judge_9
abbrev rmX9_sheet : Room := { frames := 2, cells := 0, slots := 0, locals := 45 }
theorem hdX9_sheet : yX9_sheet.cls = RX9 ∧ yX9_sheet.cls ≠ "java/lang/invoke/MethodHandle" ∧ yX9_sheet.cls ≠ "java/lang/invoke/VarHandle" ∧ (parseMethodDescriptor yX9_sheet.desc).map (fun d => d.parameters.length) = some 3 := by decide +kernel
def fX9_sheet_b69 (RM : ModV) (k69 : Int32 → Int32 → AI → AI → AI → Option (Int32 × AI × AI × AI)) (x1 : Int32) (x4 : Int32) (vM_sortOf : AI) (vM_sizeOf : AI) (vM_numbers : AI) : Option (Int32 × AI × AI × AI) := if (40 : Int32) ≤ x4 then (some ((1 : Int32), vM_sortOf, vM_sizeOf, vM_numbers)) else (ht_gd (ht_ix (((40 : Int32) * x1) + x4) 160) (ht_nm (upd vM_numbers (((40 : Int32) * x1) + x4).toNatClampNeg (0 : Int32)) (fun vM_numbers_3 => ht_nm (x4 + (1 : Int32)) (fun x4_4 => k69 x1 x4_4 vM_sortOf vM_sizeOf vM_numbers_3))))
def fX9_sheet_b65 (RM : ModV) (x1 : Int32) (t1 : Int32) (t2 : Int32) (vM_sortOf : AI) (vM_sizeOf : AI) (vM_numbers : AI) : Option (Int32 × AI × AI × AI) := ht_gd (ht_ix t1 4) (ht_nm (upd vM_sizeOf t1.toNatClampNeg t2) (fun vM_sizeOf_6 => ht_lp5 (fX9_sheet_b69 RM) FU x1 (0 : Int32) vM_sortOf vM_sizeOf_6 vM_numbers))
def fX9_sheet_b44 (RM : ModV) (x1 : Int32) (x2 : Int32) (x3 : Int32) (vM_sortOf : AI) (vM_sizeOf : AI) (vM_numbers : AI) : Option (Int32 × AI × AI × AI) := ht_gd (ht_ix x1 4) (ht_nm (upd vM_sortOf x1.toNatClampNeg x2) (fun vM_sortOf_8 => if 0 ≤ x2 then (fX9_sheet_b65 RM x1 x1 x3 vM_sortOf_8 vM_sizeOf vM_numbers) else (fX9_sheet_b65 RM x1 x1 (0 : Int32) vM_sortOf_8 vM_sizeOf vM_numbers)))
def fX9_sheet_b33 (RM : ModV) (x1 : Int32) (x2 : Int32) (x3 : Int32) (vM_sortOf : AI) (vM_sizeOf : AI) (vM_numbers : AI) : Option (Int32 × AI × AI × AI) := if x2 < 0 then (fX9_sheet_b44 RM x1 x2 x3 vM_sortOf vM_sizeOf vM_numbers) else (if 0 ≤ x3 then (fX9_sheet_b44 RM x1 x2 x3 vM_sortOf vM_sizeOf vM_numbers) else (some ((-14 : Int32), vM_sortOf, vM_sizeOf, vM_numbers)))
def fX9_sheet (RM : ModV) (p0 : Int32) (p1 : Int32) (p2 : Int32) : Option (Int32 × AI × AI × AI) := ht_bn (fX9_isSheet p0) (fun o_12 => if o_12 = 0 then (some ((-1 : Int32), RM.sortOf, RM.sizeOf, RM.numbers)) else (ht_bn (fX9_isIn p1.toInt64 (-1 : Int64) (3 : Int64)) (fun o_14 => if o_14 = 0 then (some ((-1 : Int32), RM.sortOf, RM.sizeOf, RM.numbers)) else (if p1 < 0 then (fX9_sheet_b33 RM p0 p1 p2 RM.sortOf RM.sizeOf RM.numbers) else (if p2 ≤ (40 : Int32) then (fX9_sheet_b33 RM p0 p1 p2 RM.sortOf RM.sizeOf RM.numbers) else (some ((-1 : Int32), RM.sortOf, RM.sizeOf, RM.numbers)))))))
set_option maxHeartbeats 1000000 in
set_option maxRecDepth 100000 in
theorem ctX9_sheet (l : Launch) (D : va_G) (K : Nat → ClassId) (jM : Nat) (aM : Nat → Nat) (RM : ModV) (p0 : Int32) (p1 : Int32) (p2 : Int32) (o : (Int32 × AI × AI × AI)) (hf : fX9_sheet RM p0 p1 p2 = some o) (sz : Nat) : Met l yX9_sheet wsX9_sheet rmX9_sheet (ht_Pre D K [.ref jM, .int p0, .int p1, .int p2] (wMo K jM aM RM.s RM.held RM.aside RM.before RM.isHeld RM.tape RM.taped RM.token RM.frm RM.to RM.value RM.isWrong RM.unpaired RM.bestSound RM.bestWay RM.rows RM.rowN RM.sortOf RM.sizeOf RM.numbers RM.holdsWhat RM.holdsWhich RM.holdsMany RM.bodies RM.ran RM.actKind RM.actN RM.actA RM.isParted) sz) (ht_Qi D K (wMo K jM aM RM.s RM.held RM.aside RM.before RM.isHeld RM.tape RM.taped RM.token RM.frm RM.to RM.value RM.isWrong RM.unpaired RM.bestSound RM.bestWay RM.rows RM.rowN o.2.1 o.2.2.1 o.2.2.2 RM.holdsWhat RM.holdsWhich RM.holdsMany RM.bodies RM.ran RM.actKind RM.actN RM.actA RM.isParted) o.1 (va_A (wMo K jM aM RM.s RM.held RM.aside RM.before RM.isHeld RM.tape RM.taped RM.token RM.frm RM.to RM.value RM.isWrong RM.unpaired RM.bestSound RM.bestWay RM.rows RM.rowN RM.sortOf RM.sizeOf RM.numbers RM.holdsWhat RM.holdsWhich RM.holdsMany RM.bodies RM.ran RM.actKind RM.actN RM.actA RM.isParted) sz)) 0 0 (va_A (wMo K jM aM RM.s RM.held RM.aside RM.before RM.isHeld RM.tape RM.taped RM.token RM.frm RM.to RM.value RM.isWrong RM.unpaired RM.bestSound RM.bestWay RM.rows RM.rowN RM.sortOf RM.sizeOf RM.numbers RM.holdsWhat RM.holdsWhich RM.holdsMany RM.bodies RM.ran RM.actKind RM.actN RM.actA RM.isParted) sz) := by
  refine ht_enter (Qf := ht_Qi D K (wMo K jM aM RM.s RM.held RM.aside RM.before RM.isHeld RM.tape RM.taped RM.token RM.frm RM.to RM.value RM.isWrong RM.unpaired RM.bestSound RM.bestWay RM.rows RM.rowN o.2.1 o.2.2.1 o.2.2.2 RM.holdsWhat RM.holdsWhich RM.holdsMany RM.bodies RM.ran RM.actKind RM.actN RM.actA RM.isParted) o.1) (cc := cX9_sheet) (maxL := 5) (rt := (some .int)) (by decide) rfl (Nat.le_of_ble_eq_true rfl) ?_ sz
  intro p e s m below meth c A Q H locs ls hQ hx hb hr hlk hmn hml hown hts hA hK hP hD hS hl
  have hown : s.vm.findClass RX9 = some m.cls := hown
  have hF : CallFix p m c cX9_sheet 5 s ([.ref jM, .int p0, .int p1, .int p2] : List Value).toArray wsX9_sheet RX9 := ⟨hx, hb, hml, hown, hts⟩
  have hl : lv_has ls 5 [(0, .ref jM), (1, .int p0), (2, .int p1), (3, .int p2)] := hl
  have iw9 : ∀ w ∈ u_ws RX9 TX9 29, w ∈ wsX9_sheet := by decide +kernel
  have kw1 := hts (.fieldLink RX9 40 "HeldTonguesModel" "numbers" "[I") (by decide +kernel)
  have kw2 := hts (.fieldLink RX9 34 "HeldTonguesModel" "sortOf" "[I") (by decide +kernel)
  have kw3 := hts (.fieldLink RX9 37 "HeldTonguesModel" "sizeOf" "[I") (by decide +kernel)
  have kw4 := hts (.constantLong RX9 258 (-1)) (by decide +kernel)
  have kw5 := hts (.constantLong RX9 160 (3)) (by decide +kernel)
  have b69 : ∀ (n : Nat) (x1 : Int32) (x4 : Int32) (vM_sortOf : AI) (vM_sizeOf : AI) (vM_numbers : AI) (H : Heap) (locs : List Loc) (ls : Array Slot), ht_lp5 (fX9_sheet_b69 RM) n x1 x4 vM_sortOf vM_sizeOf vM_numbers = some o → va_P D vwCl (wMo K jM aM RM.s RM.held RM.aside RM.before RM.isHeld RM.tape RM.taped RM.token RM.frm RM.to RM.value RM.isWrong RM.unpaired RM.bestSound RM.bestWay RM.rows RM.rowN vM_sortOf vM_sizeOf vM_numbers RM.holdsWhat RM.holdsWhich RM.holdsMany RM.bodies RM.ran RM.actKind RM.actN RM.actA RM.isParted) H → va_D A (wMo K jM aM RM.s RM.held RM.aside RM.before RM.isHeld RM.tape RM.taped RM.token RM.frm RM.to RM.value RM.isWrong RM.unpaired RM.bestSound RM.bestWay RM.rows RM.rowN vM_sortOf vM_sizeOf vM_numbers RM.holdsWhat RM.holdsWhich RM.holdsMany RM.bodies RM.ran RM.actKind RM.actN RM.actA RM.isParted) → va_S A s.heap H locs → lv_has ls 5 [(0, .ref jM), (1, .int x1), (4, .int x4)] → W p l e (headSpec wsX9_sheet rmX9_sheet).room s m ([.ref jM, .int p0, .int p1, .int p2] : List Value).toArray below meth c H locs 0 0 Q (F0 m 69 ls []) := by
    intro n
    induction n with
    | zero =>
      intro x1 x4 vM_sortOf vM_sizeOf vM_numbers H locs ls hf hP hD hS hl
      cases (show (none : Option (Int32 × AI × AI × AI)) = some o from hf)
    | succ n hk69 =>
      intro x1 x4 vM_sortOf vM_sizeOf vM_numbers H locs ls hf hP hD hS hl
      replace hf : fX9_sheet_b69 RM (ht_lp5 (fX9_sheet_b69 RM) n) x1 x4 vM_sortOf vM_sizeOf vM_numbers = some o := hf
      delta fX9_sheet_b69 at hf
      refine lv_iload hx hb dX9_sheet_69 (lv_at hl 2 rfl) ?_
      refine lv_bipush (v := 40) hx hb dX9_sheet_71 (by decide) ?_
      refine lv_icmp_ge (tgt := 95) hx hb dX9_sheet_73 (by decide) (fun c_1 => ?_) (fun c_1 => ?_)
      · replace hf := ht_t c_1 hf
        refine lv_iconst (v := 1) hx hb dX9_sheet_95 (by decide) ?_
        have ho := Option.some.inj hf
        subst ho; subst hQ
        exact ht_iret hx hb hr hlk rfl hK hP hD hS dX9_sheet_96
      · replace hf := ht_f c_1 hf
        refine lv_aload_n hx hb dX9_sheet_76 rfl (lv_at hl 0 rfl) ?_
        refine va_get (D := D) (ci := 9) (v := .ref (aM 10)) (C := RX9) (T := TX9) (N := 29) hx hb hts iw9 hown hK hP 0 rfl rfl 19 (by decide) kw1 (fun _ h9 => h9) rfl dX9_sheet_77 ?_
        refine lv_bipush (v := 40) hx hb dX9_sheet_80 (by decide) ?_
        refine lv_iload_n hx hb dX9_sheet_82 rfl (lv_at hl 1 rfl) ?_
        refine lv_imul hx hb dX9_sheet_83 ?_
        refine lv_iload hx hb dX9_sheet_84 (lv_at hl 2 rfl) ?_
        refine lv_iadd hx hb dX9_sheet_86 ?_
        refine lv_iconst (v := 0) hx hb dX9_sheet_87 (by decide) ?_
        obtain ⟨g_2, hf⟩ := ht_gd_ob hf
        obtain ⟨vM_numbers_3, evM_numbers_3, hf⟩ := ht_nm_ob hf
        refine ht_iast (w2 := (wMo K jM aM RM.s RM.held RM.aside RM.before RM.isHeld RM.tape RM.taped RM.token RM.frm RM.to RM.value RM.isWrong RM.unpaired RM.bestSound RM.bestWay RM.rows RM.rowN vM_sortOf vM_sizeOf vM_numbers_3 RM.holdsWhat RM.holdsWhich RM.holdsMany RM.bodies RM.ran RM.actKind RM.actN RM.actA RM.isParted)) hx hb hK hP hD hS 11 1 rfl rfl g_2 dX9_sheet_88 evM_numbers_3 rfl (fun H locs hP hD hS => ?_)
        obtain ⟨x4_4, ex4_4, hf⟩ := ht_nm_ob hf
        refine lv_iinc (v := x4_4) (lv' := [(4, .int x4_4), (0, .ref jM), (1, .int x1)]) hx hb dX9_sheet_89 hl (k := 2) rfl (by rw [ex4_4]; rfl) (by decide) rfl (fun ls hl => ?_)
        refine lv_goto (tgt := 69) hx hb dX9_sheet_92 (by decide) ?_
        exact hk69 x1 x4_4 vM_sortOf vM_sizeOf vM_numbers_3 _ _ _ hf hP hD hS (lv_sub hl [1, 2, 0] rfl)
  have b65 : ∀ (x1 : Int32) (t1 : Int32) (t2 : Int32) (vM_sortOf : AI) (vM_sizeOf : AI) (vM_numbers : AI) (H : Heap) (locs : List Loc) (ls : Array Slot), fX9_sheet_b65 RM x1 t1 t2 vM_sortOf vM_sizeOf vM_numbers = some o → va_P D vwCl (wMo K jM aM RM.s RM.held RM.aside RM.before RM.isHeld RM.tape RM.taped RM.token RM.frm RM.to RM.value RM.isWrong RM.unpaired RM.bestSound RM.bestWay RM.rows RM.rowN vM_sortOf vM_sizeOf vM_numbers RM.holdsWhat RM.holdsWhich RM.holdsMany RM.bodies RM.ran RM.actKind RM.actN RM.actA RM.isParted) H → va_D A (wMo K jM aM RM.s RM.held RM.aside RM.before RM.isHeld RM.tape RM.taped RM.token RM.frm RM.to RM.value RM.isWrong RM.unpaired RM.bestSound RM.bestWay RM.rows RM.rowN vM_sortOf vM_sizeOf vM_numbers RM.holdsWhat RM.holdsWhich RM.holdsMany RM.bodies RM.ran RM.actKind RM.actN RM.actA RM.isParted) → va_S A s.heap H locs → lv_has ls 5 [(0, .ref jM), (1, .int x1)] → W p l e (headSpec wsX9_sheet rmX9_sheet).room s m ([.ref jM, .int p0, .int p1, .int p2] : List Value).toArray below meth c H locs 0 0 Q (F0 m 65 ls [.int t2, .int t1, .ref (aM 9)]) := by
    intro x1 t1 t2 vM_sortOf vM_sizeOf vM_numbers H locs ls hf hP hD hS hl
    delta fX9_sheet_b65 at hf
    obtain ⟨g_5, hf⟩ := ht_gd_ob hf
    obtain ⟨vM_sizeOf_6, evM_sizeOf_6, hf⟩ := ht_nm_ob hf
    refine ht_iast (w2 := (wMo K jM aM RM.s RM.held RM.aside RM.before RM.isHeld RM.tape RM.taped RM.token RM.frm RM.to RM.value RM.isWrong RM.unpaired RM.bestSound RM.bestWay RM.rows RM.rowN vM_sortOf vM_sizeOf_6 vM_numbers RM.holdsWhat RM.holdsWhich RM.holdsMany RM.bodies RM.ran RM.actKind RM.actN RM.actA RM.isParted)) hx hb hK hP hD hS 10 1 rfl rfl g_5 dX9_sheet_65 evM_sizeOf_6 rfl (fun H locs hP hD hS => ?_)
    refine lv_iconst (v := 0) hx hb dX9_sheet_66 (by decide) ?_
    refine lv_istore (lv' := [(4, .int (0 : Int32)), (0, .ref jM), (1, .int x1)]) hx hb dX9_sheet_67 hl (by decide) rfl (fun ls hl => ?_)
    exact b69  FU x1 (0 : Int32) vM_sortOf vM_sizeOf_6 vM_numbers _ _ _ hf hP hD hS (lv_sub hl [1, 2, 0] rfl)
  have b44 : ∀ (x1 : Int32) (x2 : Int32) (x3 : Int32) (vM_sortOf : AI) (vM_sizeOf : AI) (vM_numbers : AI) (H : Heap) (locs : List Loc) (ls : Array Slot), fX9_sheet_b44 RM x1 x2 x3 vM_sortOf vM_sizeOf vM_numbers = some o → va_P D vwCl (wMo K jM aM RM.s RM.held RM.aside RM.before RM.isHeld RM.tape RM.taped RM.token RM.frm RM.to RM.value RM.isWrong RM.unpaired RM.bestSound RM.bestWay RM.rows RM.rowN vM_sortOf vM_sizeOf vM_numbers RM.holdsWhat RM.holdsWhich RM.holdsMany RM.bodies RM.ran RM.actKind RM.actN RM.actA RM.isParted) H → va_D A (wMo K jM aM RM.s RM.held RM.aside RM.before RM.isHeld RM.tape RM.taped RM.token RM.frm RM.to RM.value RM.isWrong RM.unpaired RM.bestSound RM.bestWay RM.rows RM.rowN vM_sortOf vM_sizeOf vM_numbers RM.holdsWhat RM.holdsWhich RM.holdsMany RM.bodies RM.ran RM.actKind RM.actN RM.actA RM.isParted) → va_S A s.heap H locs → lv_has ls 5 [(0, .ref jM), (1, .int x1), (2, .int x2), (3, .int x3)] → W p l e (headSpec wsX9_sheet rmX9_sheet).room s m ([.ref jM, .int p0, .int p1, .int p2] : List Value).toArray below meth c H locs 0 0 Q (F0 m 44 ls []) := by
    intro x1 x2 x3 vM_sortOf vM_sizeOf vM_numbers H locs ls hf hP hD hS hl
    delta fX9_sheet_b44 at hf
    refine lv_aload_n hx hb dX9_sheet_44 rfl (lv_at hl 0 rfl) ?_
    refine va_get (D := D) (ci := 9) (v := .ref (aM 8)) (C := RX9) (T := TX9) (N := 29) hx hb hts iw9 hown hK hP 0 rfl rfl 17 (by decide) kw2 (fun _ h9 => h9) rfl dX9_sheet_45 ?_
    refine lv_iload_n hx hb dX9_sheet_48 rfl (lv_at hl 1 rfl) ?_
    refine lv_iload_n hx hb dX9_sheet_49 rfl (lv_at hl 2 rfl) ?_
    obtain ⟨g_7, hf⟩ := ht_gd_ob hf
    obtain ⟨vM_sortOf_8, evM_sortOf_8, hf⟩ := ht_nm_ob hf
    refine ht_iast (w2 := (wMo K jM aM RM.s RM.held RM.aside RM.before RM.isHeld RM.tape RM.taped RM.token RM.frm RM.to RM.value RM.isWrong RM.unpaired RM.bestSound RM.bestWay RM.rows RM.rowN vM_sortOf_8 vM_sizeOf vM_numbers RM.holdsWhat RM.holdsWhich RM.holdsMany RM.bodies RM.ran RM.actKind RM.actN RM.actA RM.isParted)) hx hb hK hP hD hS 9 1 rfl rfl g_7 dX9_sheet_50 evM_sortOf_8 rfl (fun H locs hP hD hS => ?_)
    refine lv_aload_n hx hb dX9_sheet_51 rfl (lv_at hl 0 rfl) ?_
    refine va_get (D := D) (ci := 9) (v := .ref (aM 9)) (C := RX9) (T := TX9) (N := 29) hx hb hts iw9 hown hK hP 0 rfl rfl 18 (by decide) kw3 (fun _ h9 => h9) rfl dX9_sheet_52 ?_
    refine lv_iload_n hx hb dX9_sheet_55 rfl (lv_at hl 1 rfl) ?_
    refine lv_iload_n hx hb dX9_sheet_56 rfl (lv_at hl 2 rfl) ?_
    refine lv_if_ge (tgt := 64) hx hb dX9_sheet_57 (by decide) (fun c_9 => ?_) (fun c_9 => ?_)
    · replace hf := ht_t c_9 hf
      refine lv_iload_n hx hb dX9_sheet_64 rfl (lv_at hl 3 rfl) ?_
      exact b65  x1 x1 x3 vM_sortOf_8 vM_sizeOf vM_numbers _ _ _ hf hP hD hS (lv_sub hl [0, 1] rfl)
    · replace hf := ht_f c_9 hf
      refine lv_iconst (v := 0) hx hb dX9_sheet_60 (by decide) ?_
      refine lv_goto (tgt := 65) hx hb dX9_sheet_61 (by decide) ?_
      exact b65  x1 x1 (0 : Int32) vM_sortOf_8 vM_sizeOf vM_numbers _ _ _ hf hP hD hS (lv_sub hl [0, 1] rfl)
  have b33 : ∀ (x1 : Int32) (x2 : Int32) (x3 : Int32) (vM_sortOf : AI) (vM_sizeOf : AI) (vM_numbers : AI) (H : Heap) (locs : List Loc) (ls : Array Slot), fX9_sheet_b33 RM x1 x2 x3 vM_sortOf vM_sizeOf vM_numbers = some o → va_P D vwCl (wMo K jM aM RM.s RM.held RM.aside RM.before RM.isHeld RM.tape RM.taped RM.token RM.frm RM.to RM.value RM.isWrong RM.unpaired RM.bestSound RM.bestWay RM.rows RM.rowN vM_sortOf vM_sizeOf vM_numbers RM.holdsWhat RM.holdsWhich RM.holdsMany RM.bodies RM.ran RM.actKind RM.actN RM.actA RM.isParted) H → va_D A (wMo K jM aM RM.s RM.held RM.aside RM.before RM.isHeld RM.tape RM.taped RM.token RM.frm RM.to RM.value RM.isWrong RM.unpaired RM.bestSound RM.bestWay RM.rows RM.rowN vM_sortOf vM_sizeOf vM_numbers RM.holdsWhat RM.holdsWhich RM.holdsMany RM.bodies RM.ran RM.actKind RM.actN RM.actA RM.isParted) → va_S A s.heap H locs → lv_has ls 5 [(0, .ref jM), (1, .int x1), (2, .int x2), (3, .int x3)] → W p l e (headSpec wsX9_sheet rmX9_sheet).room s m ([.ref jM, .int p0, .int p1, .int p2] : List Value).toArray below meth c H locs 0 0 Q (F0 m 33 ls []) := by
    intro x1 x2 x3 vM_sortOf vM_sizeOf vM_numbers H locs ls hf hP hD hS hl
    delta fX9_sheet_b33 at hf
    refine lv_iload_n hx hb dX9_sheet_33 rfl (lv_at hl 2 rfl) ?_
    refine lv_if_lt (tgt := 44) hx hb dX9_sheet_34 (by decide) (fun c_10 => ?_) (fun c_10 => ?_)
    · replace hf := ht_t c_10 hf
      exact b44  x1 x2 x3 vM_sortOf vM_sizeOf vM_numbers _ _ _ hf hP hD hS hl
    · replace hf := ht_f c_10 hf
      refine lv_iload_n hx hb dX9_sheet_37 rfl (lv_at hl 3 rfl) ?_
      refine lv_if_ge (tgt := 44) hx hb dX9_sheet_38 (by decide) (fun c_11 => ?_) (fun c_11 => ?_)
      · replace hf := ht_t c_11 hf
        exact b44  x1 x2 x3 vM_sortOf vM_sizeOf vM_numbers _ _ _ hf hP hD hS hl
      · replace hf := ht_f c_11 hf
        refine lv_bipush (v := -14) hx hb dX9_sheet_41 (by decide) ?_
        have ho := Option.some.inj hf
        subst ho; subst hQ
        exact ht_iret hx hb hr hlk rfl hK hP hD hS dX9_sheet_43
  delta fX9_sheet at hf
  refine lv_iload_n hx hb dX9_sheet_0 rfl (lv_at hl 1 rfl) ?_
  obtain ⟨o_12, ho_12, hf⟩ := ht_bn_ob hf
  refine ht_callSi (r := o_12) (rest := []) (As := [.int p0]) (wc := []) (wr := (wMo K jM aM RM.s RM.held RM.aside RM.before RM.isHeld RM.tape RM.taped RM.token RM.frm RM.to RM.value RM.isWrong RM.unpaired RM.bestSound RM.bestWay RM.rows RM.rowN RM.sortOf RM.sizeOf RM.numbers RM.holdsWhat RM.holdsWhich RM.holdsMany RM.bodies RM.ran RM.actKind RM.actN RM.actA RM.isParted)) (w1 := []) (w2 := (wMo K jM aM RM.s RM.held RM.aside RM.before RM.isHeld RM.tape RM.taped RM.token RM.frm RM.to RM.value RM.isWrong RM.unpaired RM.bestSound RM.bestWay RM.rows RM.rowN RM.sortOf RM.sizeOf RM.numbers RM.holdsWhat RM.holdsWhich RM.holdsMany RM.bodies RM.ran RM.actKind RM.actN RM.actA RM.isParted)) hF (ctX9_isSheet l D K p0 o_12 ho_12 H.size) (va_cwS 1 hts gX9_sheet_X9_isSheet rfl rfl rfl hdX9_isSheet ⟨Nat.le_of_ble_eq_true rfl, Nat.le_of_ble_eq_true rfl⟩) hK hP hD hS hA [] [0, 1, 2, 3, 4, 5, 6, 7, 8, 9, 10, 11, 12, 13, 14, 15] rfl rfl (by decide) (by decide) (by decide) [0, 1, 2, 3, 4, 5, 6, 7, 8, 9, 10, 11, 12, 13, 14, 15] rfl (by decide) rfl hl.1 rfl (Nat.le_of_ble_eq_true rfl) dX9_sheet_1 ⟨Nat.zero_le _, Nat.zero_le _⟩ (fun H locs hP hD hS => ?_)
  refine lv_if_eq (tgt := 31) hx hb dX9_sheet_4 (by decide) (fun c_13 => ?_) (fun c_13 => ?_)
  · replace hf := ht_t c_13 hf
    refine lv_iconst (v := -1) hx hb dX9_sheet_31 (by decide) ?_
    have ho := Option.some.inj hf
    subst ho; subst hQ
    exact ht_iret hx hb hr hlk rfl hK hP hD hS dX9_sheet_32
  · replace hf := ht_f c_13 hf
    refine lv_iload_n hx hb dX9_sheet_7 rfl (lv_at hl 2 rfl) ?_
    refine lv_i2l hx hb dX9_sheet_8 rfl ?_
    refine lv_ldc2 hx hb hown kw4 dX9_sheet_9 ?_
    refine lv_ldc2 hx hb hown kw5 dX9_sheet_12 ?_
    obtain ⟨o_14, ho_14, hf⟩ := ht_bn_ob hf
    refine ht_callSi (r := o_14) (rest := []) (As := [.long p1.toInt64, .long (-1 : Int64), .long (3 : Int64)]) (wc := []) (wr := (wMo K jM aM RM.s RM.held RM.aside RM.before RM.isHeld RM.tape RM.taped RM.token RM.frm RM.to RM.value RM.isWrong RM.unpaired RM.bestSound RM.bestWay RM.rows RM.rowN RM.sortOf RM.sizeOf RM.numbers RM.holdsWhat RM.holdsWhich RM.holdsMany RM.bodies RM.ran RM.actKind RM.actN RM.actA RM.isParted)) (w1 := []) (w2 := (wMo K jM aM RM.s RM.held RM.aside RM.before RM.isHeld RM.tape RM.taped RM.token RM.frm RM.to RM.value RM.isWrong RM.unpaired RM.bestSound RM.bestWay RM.rows RM.rowN RM.sortOf RM.sizeOf RM.numbers RM.holdsWhat RM.holdsWhich RM.holdsMany RM.bodies RM.ran RM.actKind RM.actN RM.actA RM.isParted)) hF (ctX9_isIn l D K p1.toInt64 (-1 : Int64) (3 : Int64) o_14 ho_14 H.size) (va_cwS 3 hts gX9_sheet_X9_isIn rfl rfl rfl hdX9_isIn ⟨Nat.le_of_ble_eq_true rfl, Nat.le_of_ble_eq_true rfl⟩) hK hP hD hS hA [] [0, 1, 2, 3, 4, 5, 6, 7, 8, 9, 10, 11, 12, 13, 14, 15] rfl rfl (by decide) (by decide) (by decide) [0, 1, 2, 3, 4, 5, 6, 7, 8, 9, 10, 11, 12, 13, 14, 15] rfl (by decide) rfl hl.1 rfl (Nat.le_of_ble_eq_true rfl) dX9_sheet_15 ⟨Nat.zero_le _, Nat.zero_le _⟩ (fun H locs hP hD hS => ?_)
    refine lv_if_eq (tgt := 31) hx hb dX9_sheet_18 (by decide) (fun c_15 => ?_) (fun c_15 => ?_)
    · replace hf := ht_t c_15 hf
      refine lv_iconst (v := -1) hx hb dX9_sheet_31 (by decide) ?_
      have ho := Option.some.inj hf
      subst ho; subst hQ
      exact ht_iret hx hb hr hlk rfl hK hP hD hS dX9_sheet_32
    · replace hf := ht_f c_15 hf
      refine lv_iload_n hx hb dX9_sheet_21 rfl (lv_at hl 2 rfl) ?_
      refine lv_if_lt (tgt := 33) hx hb dX9_sheet_22 (by decide) (fun c_16 => ?_) (fun c_16 => ?_)
      · replace hf := ht_t c_16 hf
        exact b33  p0 p1 p2 RM.sortOf RM.sizeOf RM.numbers _ _ _ hf hP hD hS hl
      · replace hf := ht_f c_16 hf
        refine lv_iload_n hx hb dX9_sheet_25 rfl (lv_at hl 3 rfl) ?_
        refine lv_bipush (v := 40) hx hb dX9_sheet_26 (by decide) ?_
        refine lv_icmp_le (tgt := 33) hx hb dX9_sheet_28 (by decide) (fun c_17 => ?_) (fun c_17 => ?_)
        · replace hf := ht_t c_17 hf
          exact b33  p0 p1 p2 RM.sortOf RM.sizeOf RM.numbers _ _ _ hf hP hD hS hl
        · replace hf := ht_f c_17 hf
          refine lv_iconst (v := -1) hx hb dX9_sheet_31 (by decide) ?_
          have ho := Option.some.inj hf
          subst ho; subst hQ
          exact ht_iret hx hb hr hlk rfl hK hP hD hS dX9_sheet_32
abbrev rmX9_put : Room := { frames := 2, cells := 0, slots := 0, locals := 45 }
theorem hdX9_put : yX9_put.cls = RX9 ∧ yX9_put.cls ≠ "java/lang/invoke/MethodHandle" ∧ yX9_put.cls ≠ "java/lang/invoke/VarHandle" ∧ (parseMethodDescriptor yX9_put.desc).map (fun d => d.parameters.length) = some 3 := by decide +kernel
def fX9_put_b82 (RM : ModV) (t1 : Int32) (t2 : Int32) (vM_numbers : AI) : Option (Int32 × AI) := ht_gd (ht_ix t1 160) (ht_nm (upd vM_numbers t1.toNatClampNeg t2) (fun vM_numbers_2 => some ((1 : Int32), vM_numbers_2)))
def fX9_put (RM : ModV) (p0 : Int32) (p1 : Int32) (p2 : Int32) : Option (Int32 × AI) := ht_bn (fX9_isSheet p0) (fun o_3 => if o_3 = 0 then (some ((-1 : Int32), RM.numbers)) else (ht_gd (ht_ix p0 4) (if 0 ≤ (RM.sortOf p0.toNatClampNeg) then (ht_gd (ht_ix p0 4) (ht_bn (fX9_isIn p1.toInt64 (0 : Int64) (((RM.sizeOf p0.toNatClampNeg) - (1 : Int32)).toInt64)) (fun o_8 => if o_8 = 0 then (some ((-12 : Int32), RM.numbers)) else (ht_gd (ht_ix p0 4) (if (RM.sortOf p0.toNatClampNeg) = 0 then (fX9_put_b82 RM (((40 : Int32) * p0) + p1) p2.toInt8.toInt32 RM.numbers) else (ht_gd (ht_ix p0 4) (if (RM.sortOf p0.toNatClampNeg) = (1 : Int32) then (fX9_put_b82 RM (((40 : Int32) * p0) + p1) p2.toInt16.toInt32 RM.numbers) else (fX9_put_b82 RM (((40 : Int32) * p0) + p1) p2 RM.numbers)))))))) else (some ((-11 : Int32), RM.numbers)))))
set_option maxHeartbeats 1000000 in
set_option maxRecDepth 100000 in
theorem ctX9_put (l : Launch) (D : va_G) (K : Nat → ClassId) (jM : Nat) (aM : Nat → Nat) (RM : ModV) (p0 : Int32) (p1 : Int32) (p2 : Int32) (o : (Int32 × AI)) (hf : fX9_put RM p0 p1 p2 = some o) (sz : Nat) : Met l yX9_put wsX9_put rmX9_put (ht_Pre D K [.ref jM, .int p0, .int p1, .int p2] (wMo K jM aM RM.s RM.held RM.aside RM.before RM.isHeld RM.tape RM.taped RM.token RM.frm RM.to RM.value RM.isWrong RM.unpaired RM.bestSound RM.bestWay RM.rows RM.rowN RM.sortOf RM.sizeOf RM.numbers RM.holdsWhat RM.holdsWhich RM.holdsMany RM.bodies RM.ran RM.actKind RM.actN RM.actA RM.isParted) sz) (ht_Qi D K (wMo K jM aM RM.s RM.held RM.aside RM.before RM.isHeld RM.tape RM.taped RM.token RM.frm RM.to RM.value RM.isWrong RM.unpaired RM.bestSound RM.bestWay RM.rows RM.rowN RM.sortOf RM.sizeOf o.2 RM.holdsWhat RM.holdsWhich RM.holdsMany RM.bodies RM.ran RM.actKind RM.actN RM.actA RM.isParted) o.1 (va_A (wMo K jM aM RM.s RM.held RM.aside RM.before RM.isHeld RM.tape RM.taped RM.token RM.frm RM.to RM.value RM.isWrong RM.unpaired RM.bestSound RM.bestWay RM.rows RM.rowN RM.sortOf RM.sizeOf RM.numbers RM.holdsWhat RM.holdsWhich RM.holdsMany RM.bodies RM.ran RM.actKind RM.actN RM.actA RM.isParted) sz)) 0 0 (va_A (wMo K jM aM RM.s RM.held RM.aside RM.before RM.isHeld RM.tape RM.taped RM.token RM.frm RM.to RM.value RM.isWrong RM.unpaired RM.bestSound RM.bestWay RM.rows RM.rowN RM.sortOf RM.sizeOf RM.numbers RM.holdsWhat RM.holdsWhich RM.holdsMany RM.bodies RM.ran RM.actKind RM.actN RM.actA RM.isParted) sz) := by
  refine ht_enter (Qf := ht_Qi D K (wMo K jM aM RM.s RM.held RM.aside RM.before RM.isHeld RM.tape RM.taped RM.token RM.frm RM.to RM.value RM.isWrong RM.unpaired RM.bestSound RM.bestWay RM.rows RM.rowN RM.sortOf RM.sizeOf o.2 RM.holdsWhat RM.holdsWhich RM.holdsMany RM.bodies RM.ran RM.actKind RM.actN RM.actA RM.isParted) o.1) (cc := cX9_put) (maxL := 4) (rt := (some .int)) (by decide) rfl (Nat.le_of_ble_eq_true rfl) ?_ sz
  intro p e s m below meth c A Q H locs ls hQ hx hb hr hlk hmn hml hown hts hA hK hP hD hS hl
  have hown : s.vm.findClass RX9 = some m.cls := hown
  have hF : CallFix p m c cX9_put 4 s ([.ref jM, .int p0, .int p1, .int p2] : List Value).toArray wsX9_put RX9 := ⟨hx, hb, hml, hown, hts⟩
  have hl : lv_has ls 4 [(0, .ref jM), (1, .int p0), (2, .int p1), (3, .int p2)] := hl
  have iw9 : ∀ w ∈ u_ws RX9 TX9 29, w ∈ wsX9_put := by decide +kernel
  have kw1 := hts (.fieldLink RX9 34 "HeldTonguesModel" "sortOf" "[I") (by decide +kernel)
  have kw2 := hts (.fieldLink RX9 37 "HeldTonguesModel" "sizeOf" "[I") (by decide +kernel)
  have kw3 := hts (.fieldLink RX9 40 "HeldTonguesModel" "numbers" "[I") (by decide +kernel)
  have b82 : ∀ (t1 : Int32) (t2 : Int32) (vM_numbers : AI) (H : Heap) (locs : List Loc) (ls : Array Slot), fX9_put_b82 RM t1 t2 vM_numbers = some o → va_P D vwCl (wMo K jM aM RM.s RM.held RM.aside RM.before RM.isHeld RM.tape RM.taped RM.token RM.frm RM.to RM.value RM.isWrong RM.unpaired RM.bestSound RM.bestWay RM.rows RM.rowN RM.sortOf RM.sizeOf vM_numbers RM.holdsWhat RM.holdsWhich RM.holdsMany RM.bodies RM.ran RM.actKind RM.actN RM.actA RM.isParted) H → va_D A (wMo K jM aM RM.s RM.held RM.aside RM.before RM.isHeld RM.tape RM.taped RM.token RM.frm RM.to RM.value RM.isWrong RM.unpaired RM.bestSound RM.bestWay RM.rows RM.rowN RM.sortOf RM.sizeOf vM_numbers RM.holdsWhat RM.holdsWhich RM.holdsMany RM.bodies RM.ran RM.actKind RM.actN RM.actA RM.isParted) → va_S A s.heap H locs → lv_has ls 4 [] → W p l e (headSpec wsX9_put rmX9_put).room s m ([.ref jM, .int p0, .int p1, .int p2] : List Value).toArray below meth c H locs 0 0 Q (F0 m 82 ls [.int t2, .int t1, .ref (aM 10)]) := by
    intro t1 t2 vM_numbers H locs ls hf hP hD hS hl
    delta fX9_put_b82 at hf
    obtain ⟨g_1, hf⟩ := ht_gd_ob hf
    obtain ⟨vM_numbers_2, evM_numbers_2, hf⟩ := ht_nm_ob hf
    refine ht_iast (w2 := (wMo K jM aM RM.s RM.held RM.aside RM.before RM.isHeld RM.tape RM.taped RM.token RM.frm RM.to RM.value RM.isWrong RM.unpaired RM.bestSound RM.bestWay RM.rows RM.rowN RM.sortOf RM.sizeOf vM_numbers_2 RM.holdsWhat RM.holdsWhich RM.holdsMany RM.bodies RM.ran RM.actKind RM.actN RM.actA RM.isParted)) hx hb hK hP hD hS 11 1 rfl rfl g_1 dX9_put_82 evM_numbers_2 rfl (fun H locs hP hD hS => ?_)
    refine lv_iconst (v := 1) hx hb dX9_put_83 (by decide) ?_
    have ho := Option.some.inj hf
    subst ho; subst hQ
    exact ht_iret hx hb hr hlk rfl hK hP hD hS dX9_put_84
  delta fX9_put at hf
  refine lv_iload_n hx hb dX9_put_0 rfl (lv_at hl 1 rfl) ?_
  obtain ⟨o_3, ho_3, hf⟩ := ht_bn_ob hf
  refine ht_callSi (r := o_3) (rest := []) (As := [.int p0]) (wc := []) (wr := (wMo K jM aM RM.s RM.held RM.aside RM.before RM.isHeld RM.tape RM.taped RM.token RM.frm RM.to RM.value RM.isWrong RM.unpaired RM.bestSound RM.bestWay RM.rows RM.rowN RM.sortOf RM.sizeOf RM.numbers RM.holdsWhat RM.holdsWhich RM.holdsMany RM.bodies RM.ran RM.actKind RM.actN RM.actA RM.isParted)) (w1 := []) (w2 := (wMo K jM aM RM.s RM.held RM.aside RM.before RM.isHeld RM.tape RM.taped RM.token RM.frm RM.to RM.value RM.isWrong RM.unpaired RM.bestSound RM.bestWay RM.rows RM.rowN RM.sortOf RM.sizeOf RM.numbers RM.holdsWhat RM.holdsWhich RM.holdsMany RM.bodies RM.ran RM.actKind RM.actN RM.actA RM.isParted)) hF (ctX9_isSheet l D K p0 o_3 ho_3 H.size) (va_cwS 1 hts gX9_put_X9_isSheet rfl rfl rfl hdX9_isSheet ⟨Nat.le_of_ble_eq_true rfl, Nat.le_of_ble_eq_true rfl⟩) hK hP hD hS hA [] [0, 1, 2, 3, 4, 5, 6, 7, 8, 9, 10, 11, 12, 13, 14, 15] rfl rfl (by decide) (by decide) (by decide) [0, 1, 2, 3, 4, 5, 6, 7, 8, 9, 10, 11, 12, 13, 14, 15] rfl (by decide) rfl hl.1 rfl (Nat.le_of_ble_eq_true rfl) dX9_put_1 ⟨Nat.zero_le _, Nat.zero_le _⟩ (fun H locs hP hD hS => ?_)
  refine lv_if_ne (tgt := 9) hx hb dX9_put_4 (by decide) (fun c_4 => ?_) (fun c_4 => ?_)
  · replace hf := ht_f c_4 hf
    refine lv_aload_n hx hb dX9_put_9 rfl (lv_at hl 0 rfl) ?_
    refine va_get (D := D) (ci := 9) (v := .ref (aM 8)) (C := RX9) (T := TX9) (N := 29) hx hb hts iw9 hown hK hP 0 rfl rfl 17 (by decide) kw1 (fun _ h9 => h9) rfl dX9_put_10 ?_
    refine lv_iload_n hx hb dX9_put_13 rfl (lv_at hl 1 rfl) ?_
    obtain ⟨g_5, hf⟩ := ht_gd_ob hf
    refine va_iald hx hb hK hP 9 1 rfl rfl (ht_ix_in g_5) dX9_put_14 ?_
    refine lv_if_ge (tgt := 21) hx hb dX9_put_15 (by decide) (fun c_6 => ?_) (fun c_6 => ?_)
    · replace hf := ht_t c_6 hf
      refine lv_iload_n hx hb dX9_put_21 rfl (lv_at hl 2 rfl) ?_
      refine lv_i2l hx hb dX9_put_22 rfl ?_
      refine lv_lconst (v := 0) hx hb dX9_put_23 (by decide) ?_
      refine lv_aload_n hx hb dX9_put_24 rfl (lv_at hl 0 rfl) ?_
      refine va_get (D := D) (ci := 9) (v := .ref (aM 9)) (C := RX9) (T := TX9) (N := 29) hx hb hts iw9 hown hK hP 0 rfl rfl 18 (by decide) kw2 (fun _ h9 => h9) rfl dX9_put_25 ?_
      refine lv_iload_n hx hb dX9_put_28 rfl (lv_at hl 1 rfl) ?_
      obtain ⟨g_7, hf⟩ := ht_gd_ob hf
      refine va_iald hx hb hK hP 10 1 rfl rfl (ht_ix_in g_7) dX9_put_29 ?_
      refine lv_iconst (v := 1) hx hb dX9_put_30 (by decide) ?_
      refine lv_isub hx hb dX9_put_31 ?_
      refine lv_i2l hx hb dX9_put_32 rfl ?_
      obtain ⟨o_8, ho_8, hf⟩ := ht_bn_ob hf
      refine ht_callSi (r := o_8) (rest := []) (As := [.long p1.toInt64, .long (0 : Int64), .long (((RM.sizeOf p0.toNatClampNeg) - (1 : Int32)).toInt64)]) (wc := []) (wr := (wMo K jM aM RM.s RM.held RM.aside RM.before RM.isHeld RM.tape RM.taped RM.token RM.frm RM.to RM.value RM.isWrong RM.unpaired RM.bestSound RM.bestWay RM.rows RM.rowN RM.sortOf RM.sizeOf RM.numbers RM.holdsWhat RM.holdsWhich RM.holdsMany RM.bodies RM.ran RM.actKind RM.actN RM.actA RM.isParted)) (w1 := []) (w2 := (wMo K jM aM RM.s RM.held RM.aside RM.before RM.isHeld RM.tape RM.taped RM.token RM.frm RM.to RM.value RM.isWrong RM.unpaired RM.bestSound RM.bestWay RM.rows RM.rowN RM.sortOf RM.sizeOf RM.numbers RM.holdsWhat RM.holdsWhich RM.holdsMany RM.bodies RM.ran RM.actKind RM.actN RM.actA RM.isParted)) hF (ctX9_isIn l D K p1.toInt64 (0 : Int64) (((RM.sizeOf p0.toNatClampNeg) - (1 : Int32)).toInt64) o_8 ho_8 H.size) (va_cwS 3 hts gX9_put_X9_isIn rfl rfl rfl hdX9_isIn ⟨Nat.le_of_ble_eq_true rfl, Nat.le_of_ble_eq_true rfl⟩) hK hP hD hS hA [] [0, 1, 2, 3, 4, 5, 6, 7, 8, 9, 10, 11, 12, 13, 14, 15] rfl rfl (by decide) (by decide) (by decide) [0, 1, 2, 3, 4, 5, 6, 7, 8, 9, 10, 11, 12, 13, 14, 15] rfl (by decide) rfl hl.1 rfl (Nat.le_of_ble_eq_true rfl) dX9_put_33 ⟨Nat.zero_le _, Nat.zero_le _⟩ (fun H locs hP hD hS => ?_)
      refine lv_if_ne (tgt := 42) hx hb dX9_put_36 (by decide) (fun c_9 => ?_) (fun c_9 => ?_)
      · replace hf := ht_f c_9 hf
        refine lv_aload_n hx hb dX9_put_42 rfl (lv_at hl 0 rfl) ?_
        refine va_get (D := D) (ci := 9) (v := .ref (aM 10)) (C := RX9) (T := TX9) (N := 29) hx hb hts iw9 hown hK hP 0 rfl rfl 19 (by decide) kw3 (fun _ h9 => h9) rfl dX9_put_43 ?_
        refine lv_bipush (v := 40) hx hb dX9_put_46 (by decide) ?_
        refine lv_iload_n hx hb dX9_put_48 rfl (lv_at hl 1 rfl) ?_
        refine lv_imul hx hb dX9_put_49 ?_
        refine lv_iload_n hx hb dX9_put_50 rfl (lv_at hl 2 rfl) ?_
        refine lv_iadd hx hb dX9_put_51 ?_
        refine lv_aload_n hx hb dX9_put_52 rfl (lv_at hl 0 rfl) ?_
        refine va_get (D := D) (ci := 9) (v := .ref (aM 8)) (C := RX9) (T := TX9) (N := 29) hx hb hts iw9 hown hK hP 0 rfl rfl 17 (by decide) kw1 (fun _ h9 => h9) rfl dX9_put_53 ?_
        refine lv_iload_n hx hb dX9_put_56 rfl (lv_at hl 1 rfl) ?_
        obtain ⟨g_10, hf⟩ := ht_gd_ob hf
        refine va_iald hx hb hK hP 9 1 rfl rfl (ht_ix_in g_10) dX9_put_57 ?_
        refine lv_if_ne (tgt := 66) hx hb dX9_put_58 (by decide) (fun c_11 => ?_) (fun c_11 => ?_)
        · replace hf := ht_f c_11 hf
          refine lv_aload_n hx hb dX9_put_66 rfl (lv_at hl 0 rfl) ?_
          refine va_get (D := D) (ci := 9) (v := .ref (aM 8)) (C := RX9) (T := TX9) (N := 29) hx hb hts iw9 hown hK hP 0 rfl rfl 17 (by decide) kw1 (fun _ h9 => h9) rfl dX9_put_67 ?_
          refine lv_iload_n hx hb dX9_put_70 rfl (lv_at hl 1 rfl) ?_
          obtain ⟨g_12, hf⟩ := ht_gd_ob hf
          refine va_iald hx hb hK hP 9 1 rfl rfl (ht_ix_in g_12) dX9_put_71 ?_
          refine lv_iconst (v := 1) hx hb dX9_put_72 (by decide) ?_
          refine lv_icmp_ne (tgt := 81) hx hb dX9_put_73 (by decide) (fun c_13 => ?_) (fun c_13 => ?_)
          · replace hf := ht_f c_13 hf
            refine lv_iload_n hx hb dX9_put_81 rfl (lv_at hl 3 rfl) ?_
            exact b82  (((40 : Int32) * p0) + p1) p2 RM.numbers _ _ _ hf hP hD hS (lv_sub hl [] rfl)
          · replace hf := ht_t c_13 hf
            refine lv_iload_n hx hb dX9_put_76 rfl (lv_at hl 3 rfl) ?_
            refine lv_i2s hx hb dX9_put_77 rfl ?_
            refine lv_goto (tgt := 82) hx hb dX9_put_78 (by decide) ?_
            exact b82  (((40 : Int32) * p0) + p1) p2.toInt16.toInt32 RM.numbers _ _ _ hf hP hD hS (lv_sub hl [] rfl)
        · replace hf := ht_t c_11 hf
          refine lv_iload_n hx hb dX9_put_61 rfl (lv_at hl 3 rfl) ?_
          refine lv_i2b hx hb dX9_put_62 rfl ?_
          refine lv_goto (tgt := 82) hx hb dX9_put_63 (by decide) ?_
          exact b82  (((40 : Int32) * p0) + p1) p2.toInt8.toInt32 RM.numbers _ _ _ hf hP hD hS (lv_sub hl [] rfl)
      · replace hf := ht_t c_9 hf
        refine lv_bipush (v := -12) hx hb dX9_put_39 (by decide) ?_
        have ho := Option.some.inj hf
        subst ho; subst hQ
        exact ht_iret hx hb hr hlk rfl hK hP hD hS dX9_put_41
    · replace hf := ht_f c_6 hf
      refine lv_bipush (v := -11) hx hb dX9_put_18 (by decide) ?_
      have ho := Option.some.inj hf
      subst ho; subst hQ
      exact ht_iret hx hb hr hlk rfl hK hP hD hS dX9_put_20
  · replace hf := ht_t c_4 hf
    refine lv_iconst (v := -1) hx hb dX9_put_7 (by decide) ?_
    have ho := Option.some.inj hf
    subst ho; subst hQ
    exact ht_iret hx hb hr hlk rfl hK hP hD hS dX9_put_8
abbrev rmX9_lacks : Room := { frames := 0, cells := 0, slots := 0, locals := 0 }
theorem hdX9_lacks : yX9_lacks.cls = RX9 ∧ yX9_lacks.cls ≠ "java/lang/invoke/MethodHandle" ∧ yX9_lacks.cls ≠ "java/lang/invoke/VarHandle" ∧ (parseMethodDescriptor yX9_lacks.desc).map (fun d => d.parameters.length) = some 2 := by decide +kernel
def fX9_lacks (RM : ModV) (p0 : Int32) (p1 : Int32) : Option Int32 := ht_gd (ht_ix p0 4) (if 0 ≤ (RM.sortOf p0.toNatClampNeg) then (ht_gd (ht_ix p0 4) (if (RM.sortOf p0.toNatClampNeg) = p1 then (some (0 : Int32)) else (some (-13 : Int32)))) else (some (-11 : Int32)))
set_option maxHeartbeats 1000000 in
set_option maxRecDepth 100000 in
theorem ctX9_lacks (l : Launch) (D : va_G) (K : Nat → ClassId) (jM : Nat) (aM : Nat → Nat) (RM : ModV) (p0 : Int32) (p1 : Int32) (o : Int32) (hf : fX9_lacks RM p0 p1 = some o) (sz : Nat) : Met l yX9_lacks wsX9_lacks rmX9_lacks (ht_Pre D K [.ref jM, .int p0, .int p1] (wMo K jM aM RM.s RM.held RM.aside RM.before RM.isHeld RM.tape RM.taped RM.token RM.frm RM.to RM.value RM.isWrong RM.unpaired RM.bestSound RM.bestWay RM.rows RM.rowN RM.sortOf RM.sizeOf RM.numbers RM.holdsWhat RM.holdsWhich RM.holdsMany RM.bodies RM.ran RM.actKind RM.actN RM.actA RM.isParted) sz) (ht_Qi D K (wMo K jM aM RM.s RM.held RM.aside RM.before RM.isHeld RM.tape RM.taped RM.token RM.frm RM.to RM.value RM.isWrong RM.unpaired RM.bestSound RM.bestWay RM.rows RM.rowN RM.sortOf RM.sizeOf RM.numbers RM.holdsWhat RM.holdsWhich RM.holdsMany RM.bodies RM.ran RM.actKind RM.actN RM.actA RM.isParted) o (va_A (wMo K jM aM RM.s RM.held RM.aside RM.before RM.isHeld RM.tape RM.taped RM.token RM.frm RM.to RM.value RM.isWrong RM.unpaired RM.bestSound RM.bestWay RM.rows RM.rowN RM.sortOf RM.sizeOf RM.numbers RM.holdsWhat RM.holdsWhich RM.holdsMany RM.bodies RM.ran RM.actKind RM.actN RM.actA RM.isParted) sz)) 0 0 (va_A (wMo K jM aM RM.s RM.held RM.aside RM.before RM.isHeld RM.tape RM.taped RM.token RM.frm RM.to RM.value RM.isWrong RM.unpaired RM.bestSound RM.bestWay RM.rows RM.rowN RM.sortOf RM.sizeOf RM.numbers RM.holdsWhat RM.holdsWhich RM.holdsMany RM.bodies RM.ran RM.actKind RM.actN RM.actA RM.isParted) sz) := by
  refine ht_enter (Qf := ht_Qi D K (wMo K jM aM RM.s RM.held RM.aside RM.before RM.isHeld RM.tape RM.taped RM.token RM.frm RM.to RM.value RM.isWrong RM.unpaired RM.bestSound RM.bestWay RM.rows RM.rowN RM.sortOf RM.sizeOf RM.numbers RM.holdsWhat RM.holdsWhich RM.holdsMany RM.bodies RM.ran RM.actKind RM.actN RM.actA RM.isParted) o) (cc := cX9_lacks) (maxL := 3) (rt := (some .int)) (by decide) rfl (Nat.le_of_ble_eq_true rfl) ?_ sz
  intro p e s m below meth c A Q H locs ls hQ hx hb hr hlk hmn hml hown hts hA hK hP hD hS hl
  have hown : s.vm.findClass RX9 = some m.cls := hown
  have hF : CallFix p m c cX9_lacks 3 s ([.ref jM, .int p0, .int p1] : List Value).toArray wsX9_lacks RX9 := ⟨hx, hb, hml, hown, hts⟩
  have hl : lv_has ls 3 [(0, .ref jM), (1, .int p0), (2, .int p1)] := hl
  have iw9 : ∀ w ∈ u_ws RX9 TX9 29, w ∈ wsX9_lacks := by decide +kernel
  have kw1 := hts (.fieldLink RX9 34 "HeldTonguesModel" "sortOf" "[I") (by decide +kernel)
  delta fX9_lacks at hf
  refine lv_aload_n hx hb dX9_lacks_0 rfl (lv_at hl 0 rfl) ?_
  refine va_get (D := D) (ci := 9) (v := .ref (aM 8)) (C := RX9) (T := TX9) (N := 29) hx hb hts iw9 hown hK hP 0 rfl rfl 17 (by decide) kw1 (fun _ h9 => h9) rfl dX9_lacks_1 ?_
  refine lv_iload_n hx hb dX9_lacks_4 rfl (lv_at hl 1 rfl) ?_
  obtain ⟨g_1, hf⟩ := ht_gd_ob hf
  refine va_iald hx hb hK hP 9 1 rfl rfl (ht_ix_in g_1) dX9_lacks_5 ?_
  refine lv_if_ge (tgt := 14) hx hb dX9_lacks_6 (by decide) (fun c_2 => ?_) (fun c_2 => ?_)
  · replace hf := ht_t c_2 hf
    refine lv_aload_n hx hb dX9_lacks_14 rfl (lv_at hl 0 rfl) ?_
    refine va_get (D := D) (ci := 9) (v := .ref (aM 8)) (C := RX9) (T := TX9) (N := 29) hx hb hts iw9 hown hK hP 0 rfl rfl 17 (by decide) kw1 (fun _ h9 => h9) rfl dX9_lacks_15 ?_
    refine lv_iload_n hx hb dX9_lacks_18 rfl (lv_at hl 1 rfl) ?_
    obtain ⟨g_3, hf⟩ := ht_gd_ob hf
    refine va_iald hx hb hK hP 9 1 rfl rfl (ht_ix_in g_3) dX9_lacks_19 ?_
    refine lv_iload_n hx hb dX9_lacks_20 rfl (lv_at hl 2 rfl) ?_
    refine lv_icmp_eq (tgt := 29) hx hb dX9_lacks_21 (by decide) (fun c_4 => ?_) (fun c_4 => ?_)
    · replace hf := ht_t c_4 hf
      refine lv_iconst (v := 0) hx hb dX9_lacks_29 (by decide) ?_
      have ho := Option.some.inj hf
      subst ho; subst hQ
      exact ht_iret hx hb hr hlk rfl hK hP hD hS dX9_lacks_30
    · replace hf := ht_f c_4 hf
      refine lv_bipush (v := -13) hx hb dX9_lacks_24 (by decide) ?_
      refine lv_goto (tgt := 30) hx hb dX9_lacks_26 (by decide) ?_
      have ho := Option.some.inj hf
      subst ho; subst hQ
      exact ht_iret hx hb hr hlk rfl hK hP hD hS dX9_lacks_30
  · replace hf := ht_f c_2 hf
    refine lv_bipush (v := -11) hx hb dX9_lacks_9 (by decide) ?_
    refine lv_goto (tgt := 30) hx hb dX9_lacks_11 (by decide) ?_
    have ho := Option.some.inj hf
    subst ho; subst hQ
    exact ht_iret hx hb hr hlk rfl hK hP hD hS dX9_lacks_30
abbrev rmX9_item : Room := { frames := 2, cells := 0, slots := 0, locals := 45 }
theorem hdX9_item : yX9_item.cls = RX9 ∧ yX9_item.cls ≠ "java/lang/invoke/MethodHandle" ∧ yX9_item.cls ≠ "java/lang/invoke/VarHandle" ∧ (parseMethodDescriptor yX9_item.desc).map (fun d => d.parameters.length) = some 3 := by decide +kernel
def fX9_item (RM : ModV) (p0 : Int32) (p1 : Int32) (p2 : Int32) : Option Int32 := ht_bn (fX9_isSheet p0) (fun o_1 => if o_1 = 0 then (some (-1 : Int32)) else (ht_bn (fX9_isIn p1.toInt64 (0 : Int64) (3 : Int64)) (fun o_3 => if o_3 = 0 then (some (-1 : Int32)) else (ht_bn (fX9_lacks RM p0 p1) (fun o_5 => if o_5 = 0 then (ht_gd (ht_ix p0 4) (ht_bn (fX9_isIn p2.toInt64 (0 : Int64) (((RM.sizeOf p0.toNatClampNeg) - (1 : Int32)).toInt64)) (fun o_8 => if o_8 = 0 then (some (-12 : Int32)) else (ht_gd (ht_ix (((40 : Int32) * p0) + p2) 160) (some (RM.numbers (((40 : Int32) * p0) + p2).toNatClampNeg)))))) else (ht_bn (fX9_lacks RM p0 p1) (fun o_11 => some o_11)))))))
set_option maxHeartbeats 1000000 in
set_option maxRecDepth 100000 in
theorem ctX9_item (l : Launch) (D : va_G) (K : Nat → ClassId) (jM : Nat) (aM : Nat → Nat) (RM : ModV) (p0 : Int32) (p1 : Int32) (p2 : Int32) (o : Int32) (hf : fX9_item RM p0 p1 p2 = some o) (sz : Nat) : Met l yX9_item wsX9_item rmX9_item (ht_Pre D K [.ref jM, .int p0, .int p1, .int p2] (wMo K jM aM RM.s RM.held RM.aside RM.before RM.isHeld RM.tape RM.taped RM.token RM.frm RM.to RM.value RM.isWrong RM.unpaired RM.bestSound RM.bestWay RM.rows RM.rowN RM.sortOf RM.sizeOf RM.numbers RM.holdsWhat RM.holdsWhich RM.holdsMany RM.bodies RM.ran RM.actKind RM.actN RM.actA RM.isParted) sz) (ht_Qi D K (wMo K jM aM RM.s RM.held RM.aside RM.before RM.isHeld RM.tape RM.taped RM.token RM.frm RM.to RM.value RM.isWrong RM.unpaired RM.bestSound RM.bestWay RM.rows RM.rowN RM.sortOf RM.sizeOf RM.numbers RM.holdsWhat RM.holdsWhich RM.holdsMany RM.bodies RM.ran RM.actKind RM.actN RM.actA RM.isParted) o (va_A (wMo K jM aM RM.s RM.held RM.aside RM.before RM.isHeld RM.tape RM.taped RM.token RM.frm RM.to RM.value RM.isWrong RM.unpaired RM.bestSound RM.bestWay RM.rows RM.rowN RM.sortOf RM.sizeOf RM.numbers RM.holdsWhat RM.holdsWhich RM.holdsMany RM.bodies RM.ran RM.actKind RM.actN RM.actA RM.isParted) sz)) 0 0 (va_A (wMo K jM aM RM.s RM.held RM.aside RM.before RM.isHeld RM.tape RM.taped RM.token RM.frm RM.to RM.value RM.isWrong RM.unpaired RM.bestSound RM.bestWay RM.rows RM.rowN RM.sortOf RM.sizeOf RM.numbers RM.holdsWhat RM.holdsWhich RM.holdsMany RM.bodies RM.ran RM.actKind RM.actN RM.actA RM.isParted) sz) := by
  refine ht_enter (Qf := ht_Qi D K (wMo K jM aM RM.s RM.held RM.aside RM.before RM.isHeld RM.tape RM.taped RM.token RM.frm RM.to RM.value RM.isWrong RM.unpaired RM.bestSound RM.bestWay RM.rows RM.rowN RM.sortOf RM.sizeOf RM.numbers RM.holdsWhat RM.holdsWhich RM.holdsMany RM.bodies RM.ran RM.actKind RM.actN RM.actA RM.isParted) o) (cc := cX9_item) (maxL := 4) (rt := (some .int)) (by decide) rfl (Nat.le_of_ble_eq_true rfl) ?_ sz
  intro p e s m below meth c A Q H locs ls hQ hx hb hr hlk hmn hml hown hts hA hK hP hD hS hl
  have hown : s.vm.findClass RX9 = some m.cls := hown
  have hF : CallFix p m c cX9_item 4 s ([.ref jM, .int p0, .int p1, .int p2] : List Value).toArray wsX9_item RX9 := ⟨hx, hb, hml, hown, hts⟩
  have hl : lv_has ls 4 [(0, .ref jM), (1, .int p0), (2, .int p1), (3, .int p2)] := hl
  have kw0 := hts (.constantLong RX9 160 (3)) (by decide +kernel)
  have iw9 : ∀ w ∈ u_ws RX9 TX9 29, w ∈ wsX9_item := by decide +kernel
  have kw2 := hts (.fieldLink RX9 37 "HeldTonguesModel" "sizeOf" "[I") (by decide +kernel)
  have kw3 := hts (.fieldLink RX9 40 "HeldTonguesModel" "numbers" "[I") (by decide +kernel)
  delta fX9_item at hf
  refine lv_iload_n hx hb dX9_item_0 rfl (lv_at hl 1 rfl) ?_
  obtain ⟨o_1, ho_1, hf⟩ := ht_bn_ob hf
  refine ht_callSi (r := o_1) (rest := []) (As := [.int p0]) (wc := []) (wr := (wMo K jM aM RM.s RM.held RM.aside RM.before RM.isHeld RM.tape RM.taped RM.token RM.frm RM.to RM.value RM.isWrong RM.unpaired RM.bestSound RM.bestWay RM.rows RM.rowN RM.sortOf RM.sizeOf RM.numbers RM.holdsWhat RM.holdsWhich RM.holdsMany RM.bodies RM.ran RM.actKind RM.actN RM.actA RM.isParted)) (w1 := []) (w2 := (wMo K jM aM RM.s RM.held RM.aside RM.before RM.isHeld RM.tape RM.taped RM.token RM.frm RM.to RM.value RM.isWrong RM.unpaired RM.bestSound RM.bestWay RM.rows RM.rowN RM.sortOf RM.sizeOf RM.numbers RM.holdsWhat RM.holdsWhich RM.holdsMany RM.bodies RM.ran RM.actKind RM.actN RM.actA RM.isParted)) hF (ctX9_isSheet l D K p0 o_1 ho_1 H.size) (va_cwS 1 hts gX9_item_X9_isSheet rfl rfl rfl hdX9_isSheet ⟨Nat.le_of_ble_eq_true rfl, Nat.le_of_ble_eq_true rfl⟩) hK hP hD hS hA [] [0, 1, 2, 3, 4, 5, 6, 7, 8, 9, 10, 11, 12, 13, 14, 15] rfl rfl (by decide) (by decide) (by decide) [0, 1, 2, 3, 4, 5, 6, 7, 8, 9, 10, 11, 12, 13, 14, 15] rfl (by decide) rfl hl.1 rfl (Nat.le_of_ble_eq_true rfl) dX9_item_1 ⟨Nat.zero_le _, Nat.zero_le _⟩ (fun H locs hP hD hS => ?_)
  refine lv_if_eq (tgt := 19) hx hb dX9_item_4 (by decide) (fun c_2 => ?_) (fun c_2 => ?_)
  · replace hf := ht_t c_2 hf
    refine lv_iconst (v := -1) hx hb dX9_item_19 (by decide) ?_
    have ho := Option.some.inj hf
    subst ho; subst hQ
    exact ht_iret hx hb hr hlk rfl hK hP hD hS dX9_item_20
  · replace hf := ht_f c_2 hf
    refine lv_iload_n hx hb dX9_item_7 rfl (lv_at hl 2 rfl) ?_
    refine lv_i2l hx hb dX9_item_8 rfl ?_
    refine lv_lconst (v := 0) hx hb dX9_item_9 (by decide) ?_
    refine lv_ldc2 hx hb hown kw0 dX9_item_10 ?_
    obtain ⟨o_3, ho_3, hf⟩ := ht_bn_ob hf
    refine ht_callSi (r := o_3) (rest := []) (As := [.long p1.toInt64, .long (0 : Int64), .long (3 : Int64)]) (wc := []) (wr := (wMo K jM aM RM.s RM.held RM.aside RM.before RM.isHeld RM.tape RM.taped RM.token RM.frm RM.to RM.value RM.isWrong RM.unpaired RM.bestSound RM.bestWay RM.rows RM.rowN RM.sortOf RM.sizeOf RM.numbers RM.holdsWhat RM.holdsWhich RM.holdsMany RM.bodies RM.ran RM.actKind RM.actN RM.actA RM.isParted)) (w1 := []) (w2 := (wMo K jM aM RM.s RM.held RM.aside RM.before RM.isHeld RM.tape RM.taped RM.token RM.frm RM.to RM.value RM.isWrong RM.unpaired RM.bestSound RM.bestWay RM.rows RM.rowN RM.sortOf RM.sizeOf RM.numbers RM.holdsWhat RM.holdsWhich RM.holdsMany RM.bodies RM.ran RM.actKind RM.actN RM.actA RM.isParted)) hF (ctX9_isIn l D K p1.toInt64 (0 : Int64) (3 : Int64) o_3 ho_3 H.size) (va_cwS 3 hts gX9_item_X9_isIn rfl rfl rfl hdX9_isIn ⟨Nat.le_of_ble_eq_true rfl, Nat.le_of_ble_eq_true rfl⟩) hK hP hD hS hA [] [0, 1, 2, 3, 4, 5, 6, 7, 8, 9, 10, 11, 12, 13, 14, 15] rfl rfl (by decide) (by decide) (by decide) [0, 1, 2, 3, 4, 5, 6, 7, 8, 9, 10, 11, 12, 13, 14, 15] rfl (by decide) rfl hl.1 rfl (Nat.le_of_ble_eq_true rfl) dX9_item_13 ⟨Nat.zero_le _, Nat.zero_le _⟩ (fun H locs hP hD hS => ?_)
    refine lv_if_ne (tgt := 21) hx hb dX9_item_16 (by decide) (fun c_4 => ?_) (fun c_4 => ?_)
    · replace hf := ht_f c_4 hf
      refine lv_aload_n hx hb dX9_item_21 rfl (lv_at hl 0 rfl) ?_
      refine lv_iload_n hx hb dX9_item_22 rfl (lv_at hl 1 rfl) ?_
      refine lv_iload_n hx hb dX9_item_23 rfl (lv_at hl 2 rfl) ?_
      obtain ⟨o_5, ho_5, hf⟩ := ht_bn_ob hf
      refine ht_callVi (r := o_5) (rest := []) (As := [.int p0, .int p1]) (wc := (wMo K jM aM RM.s RM.held RM.aside RM.before RM.isHeld RM.tape RM.taped RM.token RM.frm RM.to RM.value RM.isWrong RM.unpaired RM.bestSound RM.bestWay RM.rows RM.rowN RM.sortOf RM.sizeOf RM.numbers RM.holdsWhat RM.holdsWhich RM.holdsMany RM.bodies RM.ran RM.actKind RM.actN RM.actA RM.isParted)) (wr := []) (w1 := (wMo K jM aM RM.s RM.held RM.aside RM.before RM.isHeld RM.tape RM.taped RM.token RM.frm RM.to RM.value RM.isWrong RM.unpaired RM.bestSound RM.bestWay RM.rows RM.rowN RM.sortOf RM.sizeOf RM.numbers RM.holdsWhat RM.holdsWhich RM.holdsMany RM.bodies RM.ran RM.actKind RM.actN RM.actA RM.isParted)) (w2 := (wMo K jM aM RM.s RM.held RM.aside RM.before RM.isHeld RM.tape RM.taped RM.token RM.frm RM.to RM.value RM.isWrong RM.unpaired RM.bestSound RM.bestWay RM.rows RM.rowN RM.sortOf RM.sizeOf RM.numbers RM.holdsWhat RM.holdsWhich RM.holdsMany RM.bodies RM.ran RM.actKind RM.actN RM.actA RM.isParted)) hF (ctX9_lacks l D K jM aM RM p0 p1 o_5 ho_5 H.size) (cwV 2 hts gX9_item_X9_lacks rfl rfl rfl hdX9_lacks ⟨Nat.le_of_ble_eq_true rfl, Nat.le_of_ble_eq_true rfl⟩) hK hP hD hS hA [0, 1, 2, 3, 4, 5, 6, 7, 8, 9, 10, 11, 12, 13, 14, 15] [] rfl rfl (by decide) (by decide) (by decide) [0, 1, 2, 3, 4, 5, 6, 7, 8, 9, 10, 11, 12, 13, 14, 15] rfl (by decide) (va_recv hK hP (ci := 9) (q0 := 0) rfl rfl) rfl hl.1 rfl (Nat.le_of_ble_eq_true rfl) dX9_item_24 ⟨Nat.zero_le _, Nat.zero_le _⟩ (fun H locs hP hD hS => ?_)
      refine lv_if_eq (tgt := 37) hx hb dX9_item_27 (by decide) (fun c_6 => ?_) (fun c_6 => ?_)
      · replace hf := ht_t c_6 hf
        refine lv_iload_n hx hb dX9_item_37 rfl (lv_at hl 3 rfl) ?_
        refine lv_i2l hx hb dX9_item_38 rfl ?_
        refine lv_lconst (v := 0) hx hb dX9_item_39 (by decide) ?_
        refine lv_aload_n hx hb dX9_item_40 rfl (lv_at hl 0 rfl) ?_
        refine va_get (D := D) (ci := 9) (v := .ref (aM 9)) (C := RX9) (T := TX9) (N := 29) hx hb hts iw9 hown hK hP 0 rfl rfl 18 (by decide) kw2 (fun _ h9 => h9) rfl dX9_item_41 ?_
        refine lv_iload_n hx hb dX9_item_44 rfl (lv_at hl 1 rfl) ?_
        obtain ⟨g_7, hf⟩ := ht_gd_ob hf
        refine va_iald hx hb hK hP 10 1 rfl rfl (ht_ix_in g_7) dX9_item_45 ?_
        refine lv_iconst (v := 1) hx hb dX9_item_46 (by decide) ?_
        refine lv_isub hx hb dX9_item_47 ?_
        refine lv_i2l hx hb dX9_item_48 rfl ?_
        obtain ⟨o_8, ho_8, hf⟩ := ht_bn_ob hf
        refine ht_callSi (r := o_8) (rest := []) (As := [.long p2.toInt64, .long (0 : Int64), .long (((RM.sizeOf p0.toNatClampNeg) - (1 : Int32)).toInt64)]) (wc := []) (wr := (wMo K jM aM RM.s RM.held RM.aside RM.before RM.isHeld RM.tape RM.taped RM.token RM.frm RM.to RM.value RM.isWrong RM.unpaired RM.bestSound RM.bestWay RM.rows RM.rowN RM.sortOf RM.sizeOf RM.numbers RM.holdsWhat RM.holdsWhich RM.holdsMany RM.bodies RM.ran RM.actKind RM.actN RM.actA RM.isParted)) (w1 := []) (w2 := (wMo K jM aM RM.s RM.held RM.aside RM.before RM.isHeld RM.tape RM.taped RM.token RM.frm RM.to RM.value RM.isWrong RM.unpaired RM.bestSound RM.bestWay RM.rows RM.rowN RM.sortOf RM.sizeOf RM.numbers RM.holdsWhat RM.holdsWhich RM.holdsMany RM.bodies RM.ran RM.actKind RM.actN RM.actA RM.isParted)) hF (ctX9_isIn l D K p2.toInt64 (0 : Int64) (((RM.sizeOf p0.toNatClampNeg) - (1 : Int32)).toInt64) o_8 ho_8 H.size) (va_cwS 3 hts gX9_item_X9_isIn rfl rfl rfl hdX9_isIn ⟨Nat.le_of_ble_eq_true rfl, Nat.le_of_ble_eq_true rfl⟩) hK hP hD hS hA [] [0, 1, 2, 3, 4, 5, 6, 7, 8, 9, 10, 11, 12, 13, 14, 15] rfl rfl (by decide) (by decide) (by decide) [0, 1, 2, 3, 4, 5, 6, 7, 8, 9, 10, 11, 12, 13, 14, 15] rfl (by decide) rfl hl.1 rfl (Nat.le_of_ble_eq_true rfl) dX9_item_49 ⟨Nat.zero_le _, Nat.zero_le _⟩ (fun H locs hP hD hS => ?_)
        refine lv_if_eq (tgt := 69) hx hb dX9_item_52 (by decide) (fun c_9 => ?_) (fun c_9 => ?_)
        · replace hf := ht_t c_9 hf
          refine lv_bipush (v := -12) hx hb dX9_item_69 (by decide) ?_
          have ho := Option.some.inj hf
          subst ho; subst hQ
          exact ht_iret hx hb hr hlk rfl hK hP hD hS dX9_item_71
        · replace hf := ht_f c_9 hf
          refine lv_aload_n hx hb dX9_item_55 rfl (lv_at hl 0 rfl) ?_
          refine va_get (D := D) (ci := 9) (v := .ref (aM 10)) (C := RX9) (T := TX9) (N := 29) hx hb hts iw9 hown hK hP 0 rfl rfl 19 (by decide) kw3 (fun _ h9 => h9) rfl dX9_item_56 ?_
          refine lv_bipush (v := 40) hx hb dX9_item_59 (by decide) ?_
          refine lv_iload_n hx hb dX9_item_61 rfl (lv_at hl 1 rfl) ?_
          refine lv_imul hx hb dX9_item_62 ?_
          refine lv_iload_n hx hb dX9_item_63 rfl (lv_at hl 3 rfl) ?_
          refine lv_iadd hx hb dX9_item_64 ?_
          obtain ⟨g_10, hf⟩ := ht_gd_ob hf
          refine va_iald hx hb hK hP 11 1 rfl rfl (ht_ix_in g_10) dX9_item_65 ?_
          refine lv_goto (tgt := 71) hx hb dX9_item_66 (by decide) ?_
          have ho := Option.some.inj hf
          subst ho; subst hQ
          exact ht_iret hx hb hr hlk rfl hK hP hD hS dX9_item_71
      · replace hf := ht_f c_6 hf
        refine lv_aload_n hx hb dX9_item_30 rfl (lv_at hl 0 rfl) ?_
        refine lv_iload_n hx hb dX9_item_31 rfl (lv_at hl 1 rfl) ?_
        refine lv_iload_n hx hb dX9_item_32 rfl (lv_at hl 2 rfl) ?_
        obtain ⟨o_11, ho_11, hf⟩ := ht_bn_ob hf
        refine ht_callVi (r := o_11) (rest := []) (As := [.int p0, .int p1]) (wc := (wMo K jM aM RM.s RM.held RM.aside RM.before RM.isHeld RM.tape RM.taped RM.token RM.frm RM.to RM.value RM.isWrong RM.unpaired RM.bestSound RM.bestWay RM.rows RM.rowN RM.sortOf RM.sizeOf RM.numbers RM.holdsWhat RM.holdsWhich RM.holdsMany RM.bodies RM.ran RM.actKind RM.actN RM.actA RM.isParted)) (wr := []) (w1 := (wMo K jM aM RM.s RM.held RM.aside RM.before RM.isHeld RM.tape RM.taped RM.token RM.frm RM.to RM.value RM.isWrong RM.unpaired RM.bestSound RM.bestWay RM.rows RM.rowN RM.sortOf RM.sizeOf RM.numbers RM.holdsWhat RM.holdsWhich RM.holdsMany RM.bodies RM.ran RM.actKind RM.actN RM.actA RM.isParted)) (w2 := (wMo K jM aM RM.s RM.held RM.aside RM.before RM.isHeld RM.tape RM.taped RM.token RM.frm RM.to RM.value RM.isWrong RM.unpaired RM.bestSound RM.bestWay RM.rows RM.rowN RM.sortOf RM.sizeOf RM.numbers RM.holdsWhat RM.holdsWhich RM.holdsMany RM.bodies RM.ran RM.actKind RM.actN RM.actA RM.isParted)) hF (ctX9_lacks l D K jM aM RM p0 p1 o_11 ho_11 H.size) (cwV 2 hts gX9_item_X9_lacks rfl rfl rfl hdX9_lacks ⟨Nat.le_of_ble_eq_true rfl, Nat.le_of_ble_eq_true rfl⟩) hK hP hD hS hA [0, 1, 2, 3, 4, 5, 6, 7, 8, 9, 10, 11, 12, 13, 14, 15] [] rfl rfl (by decide) (by decide) (by decide) [0, 1, 2, 3, 4, 5, 6, 7, 8, 9, 10, 11, 12, 13, 14, 15] rfl (by decide) (va_recv hK hP (ci := 9) (q0 := 0) rfl rfl) rfl hl.1 rfl (Nat.le_of_ble_eq_true rfl) dX9_item_33 ⟨Nat.zero_le _, Nat.zero_le _⟩ (fun H locs hP hD hS => ?_)
        have ho := Option.some.inj hf
        subst ho; subst hQ
        exact ht_iret hx hb hr hlk rfl hK hP hD hS dX9_item_36
    · replace hf := ht_t c_4 hf
      refine lv_iconst (v := -1) hx hb dX9_item_19 (by decide) ?_
      have ho := Option.some.inj hf
      subst ho; subst hQ
      exact ht_iret hx hb hr hlk rfl hK hP hD hS dX9_item_20
abbrev rmX9_minds : Room := { frames := 2, cells := 0, slots := 0, locals := 45 }
theorem hdX9_minds : yX9_minds.cls = RX9 ∧ yX9_minds.cls ≠ "java/lang/invoke/MethodHandle" ∧ yX9_minds.cls ≠ "java/lang/invoke/VarHandle" ∧ (parseMethodDescriptor yX9_minds.desc).map (fun d => d.parameters.length) = some 4 := by decide +kernel
def fX9_minds_b145 (RM : ModV) (x4 : Int32) (vM_s : AI) : Option (Int32 × AI) := some (x4, vM_s)
def fX9_minds_b98 (RM : ModV) (k98 : Int32 → Int32 → Int32 → Int32 → Int32 → AI → Option (Int32 × AI)) (x1 : Int32) (x2 : Int32) (x3 : Int32) (x4 : Int32) (x5 : Int32) (vM_s : AI) : Option (Int32 × AI) := if x4 ≤ x5 then (fX9_minds_b145 RM x4 vM_s) else (ht_gd (ht_ix ((((40 : Int32) * x1) + x2) + x5) 160) (ht_bn (fX9_within (RM.numbers ((((40 : Int32) * x1) + x2) + x5).toNatClampNeg)) (fun o_3 => ht_gd (ht_ix (((9 : Int32) + ((6 : Int32) * (x3 + x5))) + (1 : Int32)) 57) (ht_nm (upd vM_s (((9 : Int32) + ((6 : Int32) * (x3 + x5))) + (1 : Int32)).toNatClampNeg o_3) (fun vM_s_5 => ht_nm (x5 + (1 : Int32)) (fun x5_6 => k98 x1 x2 x3 x4 x5_6 vM_s_5))))))
def fX9_minds (RM : ModV) (p0 : Int32) (p1 : Int32) (p2 : Int32) (p3 : Int32) : Option (Int32 × AI) := ht_bn (fX9_isSheet p0) (fun o_7 => if o_7 = 0 then (some ((-1 : Int32), RM.s)) else (ht_bn (fX9_isOne RM p2) (fun o_9 => if o_9 = 0 then (some ((-1 : Int32), RM.s)) else (ht_bn (fX9_isIn p3.toInt64 (0 : Int64) (8 : Int64)) (fun o_11 => if o_11 = 0 then (some ((-1 : Int32), RM.s)) else (ht_gd (ht_ix (0 : Int32) 57) (if (p2 + p3) ≤ (RM.s (0 : Int32).toNatClampNeg) then (ht_bn (fX9_lacks RM p0 (0 : Int32)) (fun o_15 => if o_15 = 0 then (ht_gd (ht_ix p0 4) (ht_bn (fX9_isIn p1.toInt64 (0 : Int64) ((RM.sizeOf p0.toNatClampNeg).toInt64)) (fun o_18 => if o_18 = 0 then (some ((-12 : Int32), RM.s)) else (ht_gd (ht_ix p0 4) (if (lg_cmp (p1.toInt64 + p3.toInt64) ((RM.sizeOf p0.toNatClampNeg).toInt64)) ≤ 0 then (ht_lp6 (fX9_minds_b98 RM) FU p0 p1 p2 p3 (0 : Int32) RM.s) else (some ((-12 : Int32), RM.s))))))) else (ht_bn (fX9_lacks RM p0 (0 : Int32)) (fun o_22 => some (o_22, RM.s))))) else (some ((-1 : Int32), RM.s)))))))))
set_option maxHeartbeats 1000000 in
set_option maxRecDepth 100000 in
theorem ctX9_minds (l : Launch) (D : va_G) (K : Nat → ClassId) (jM : Nat) (aM : Nat → Nat) (RM : ModV) (p0 : Int32) (p1 : Int32) (p2 : Int32) (p3 : Int32) (o : (Int32 × AI)) (hf : fX9_minds RM p0 p1 p2 p3 = some o) (sz : Nat) : Met l yX9_minds wsX9_minds rmX9_minds (ht_Pre D K [.ref jM, .int p0, .int p1, .int p2, .int p3] (wMo K jM aM RM.s RM.held RM.aside RM.before RM.isHeld RM.tape RM.taped RM.token RM.frm RM.to RM.value RM.isWrong RM.unpaired RM.bestSound RM.bestWay RM.rows RM.rowN RM.sortOf RM.sizeOf RM.numbers RM.holdsWhat RM.holdsWhich RM.holdsMany RM.bodies RM.ran RM.actKind RM.actN RM.actA RM.isParted) sz) (ht_Qi D K (wMo K jM aM o.2 RM.held RM.aside RM.before RM.isHeld RM.tape RM.taped RM.token RM.frm RM.to RM.value RM.isWrong RM.unpaired RM.bestSound RM.bestWay RM.rows RM.rowN RM.sortOf RM.sizeOf RM.numbers RM.holdsWhat RM.holdsWhich RM.holdsMany RM.bodies RM.ran RM.actKind RM.actN RM.actA RM.isParted) o.1 (va_A (wMo K jM aM RM.s RM.held RM.aside RM.before RM.isHeld RM.tape RM.taped RM.token RM.frm RM.to RM.value RM.isWrong RM.unpaired RM.bestSound RM.bestWay RM.rows RM.rowN RM.sortOf RM.sizeOf RM.numbers RM.holdsWhat RM.holdsWhich RM.holdsMany RM.bodies RM.ran RM.actKind RM.actN RM.actA RM.isParted) sz)) 0 0 (va_A (wMo K jM aM RM.s RM.held RM.aside RM.before RM.isHeld RM.tape RM.taped RM.token RM.frm RM.to RM.value RM.isWrong RM.unpaired RM.bestSound RM.bestWay RM.rows RM.rowN RM.sortOf RM.sizeOf RM.numbers RM.holdsWhat RM.holdsWhich RM.holdsMany RM.bodies RM.ran RM.actKind RM.actN RM.actA RM.isParted) sz) := by
  refine ht_enter (Qf := ht_Qi D K (wMo K jM aM o.2 RM.held RM.aside RM.before RM.isHeld RM.tape RM.taped RM.token RM.frm RM.to RM.value RM.isWrong RM.unpaired RM.bestSound RM.bestWay RM.rows RM.rowN RM.sortOf RM.sizeOf RM.numbers RM.holdsWhat RM.holdsWhich RM.holdsMany RM.bodies RM.ran RM.actKind RM.actN RM.actA RM.isParted) o.1) (cc := cX9_minds) (maxL := 6) (rt := (some .int)) (by decide) rfl (Nat.le_of_ble_eq_true rfl) ?_ sz
  intro p e s m below meth c A Q H locs ls hQ hx hb hr hlk hmn hml hown hts hA hK hP hD hS hl
  have hown : s.vm.findClass RX9 = some m.cls := hown
  have hF : CallFix p m c cX9_minds 6 s ([.ref jM, .int p0, .int p1, .int p2, .int p3] : List Value).toArray wsX9_minds RX9 := ⟨hx, hb, hml, hown, hts⟩
  have hl : lv_has ls 6 [(0, .ref jM), (1, .int p0), (2, .int p1), (3, .int p2), (4, .int p3)] := hl
  have iw9 : ∀ w ∈ u_ws RX9 TX9 29, w ∈ wsX9_minds := by decide +kernel
  have kw1 := hts (.fieldLink RX9 7 "HeldTonguesModel" "s" "[I") (by decide +kernel)
  have kw2 := hts (.fieldLink RX9 40 "HeldTonguesModel" "numbers" "[I") (by decide +kernel)
  have kw3 := hts (.constantLong RX9 58 (8)) (by decide +kernel)
  have kw4 := hts (.fieldLink RX9 37 "HeldTonguesModel" "sizeOf" "[I") (by decide +kernel)
  have b145 : ∀ (x4 : Int32) (vM_s : AI) (H : Heap) (locs : List Loc) (ls : Array Slot), fX9_minds_b145 RM x4 vM_s = some o → va_P D vwCl (wMo K jM aM vM_s RM.held RM.aside RM.before RM.isHeld RM.tape RM.taped RM.token RM.frm RM.to RM.value RM.isWrong RM.unpaired RM.bestSound RM.bestWay RM.rows RM.rowN RM.sortOf RM.sizeOf RM.numbers RM.holdsWhat RM.holdsWhich RM.holdsMany RM.bodies RM.ran RM.actKind RM.actN RM.actA RM.isParted) H → va_D A (wMo K jM aM vM_s RM.held RM.aside RM.before RM.isHeld RM.tape RM.taped RM.token RM.frm RM.to RM.value RM.isWrong RM.unpaired RM.bestSound RM.bestWay RM.rows RM.rowN RM.sortOf RM.sizeOf RM.numbers RM.holdsWhat RM.holdsWhich RM.holdsMany RM.bodies RM.ran RM.actKind RM.actN RM.actA RM.isParted) → va_S A s.heap H locs → lv_has ls 6 [(4, .int x4)] → W p l e (headSpec wsX9_minds rmX9_minds).room s m ([.ref jM, .int p0, .int p1, .int p2, .int p3] : List Value).toArray below meth c H locs 0 0 Q (F0 m 145 ls []) := by
    intro x4 vM_s H locs ls hf hP hD hS hl
    delta fX9_minds_b145 at hf
    refine lv_iload hx hb dX9_minds_145 (lv_at hl 0 rfl) ?_
    have ho := Option.some.inj hf
    subst ho; subst hQ
    exact ht_iret hx hb hr hlk rfl hK hP hD hS dX9_minds_147
  have b98 : ∀ (n : Nat) (x1 : Int32) (x2 : Int32) (x3 : Int32) (x4 : Int32) (x5 : Int32) (vM_s : AI) (H : Heap) (locs : List Loc) (ls : Array Slot), ht_lp6 (fX9_minds_b98 RM) n x1 x2 x3 x4 x5 vM_s = some o → va_P D vwCl (wMo K jM aM vM_s RM.held RM.aside RM.before RM.isHeld RM.tape RM.taped RM.token RM.frm RM.to RM.value RM.isWrong RM.unpaired RM.bestSound RM.bestWay RM.rows RM.rowN RM.sortOf RM.sizeOf RM.numbers RM.holdsWhat RM.holdsWhich RM.holdsMany RM.bodies RM.ran RM.actKind RM.actN RM.actA RM.isParted) H → va_D A (wMo K jM aM vM_s RM.held RM.aside RM.before RM.isHeld RM.tape RM.taped RM.token RM.frm RM.to RM.value RM.isWrong RM.unpaired RM.bestSound RM.bestWay RM.rows RM.rowN RM.sortOf RM.sizeOf RM.numbers RM.holdsWhat RM.holdsWhich RM.holdsMany RM.bodies RM.ran RM.actKind RM.actN RM.actA RM.isParted) → va_S A s.heap H locs → lv_has ls 6 [(0, .ref jM), (1, .int x1), (2, .int x2), (3, .int x3), (4, .int x4), (5, .int x5)] → W p l e (headSpec wsX9_minds rmX9_minds).room s m ([.ref jM, .int p0, .int p1, .int p2, .int p3] : List Value).toArray below meth c H locs 0 0 Q (F0 m 98 ls []) := by
    intro n
    induction n with
    | zero =>
      intro x1 x2 x3 x4 x5 vM_s H locs ls hf hP hD hS hl
      cases (show (none : Option (Int32 × AI)) = some o from hf)
    | succ n hk98 =>
      intro x1 x2 x3 x4 x5 vM_s H locs ls hf hP hD hS hl
      replace hf : fX9_minds_b98 RM (ht_lp6 (fX9_minds_b98 RM) n) x1 x2 x3 x4 x5 vM_s = some o := hf
      delta fX9_minds_b98 at hf
      refine lv_iload hx hb dX9_minds_98 (lv_at hl 5 rfl) ?_
      refine lv_iload hx hb dX9_minds_100 (lv_at hl 4 rfl) ?_
      refine lv_icmp_ge (tgt := 145) hx hb dX9_minds_102 (by decide) (fun c_1 => ?_) (fun c_1 => ?_)
      · replace hf := ht_t c_1 hf
        exact b145  x4 vM_s _ _ _ hf hP hD hS (lv_sub hl [4] rfl)
      · replace hf := ht_f c_1 hf
        refine lv_aload_n hx hb dX9_minds_105 rfl (lv_at hl 0 rfl) ?_
        refine va_get (D := D) (ci := 9) (v := .ref (aM 0)) (C := RX9) (T := TX9) (N := 29) hx hb hts iw9 hown hK hP 0 rfl rfl 0 (by decide) kw1 (fun _ h9 => h9) rfl dX9_minds_106 ?_
        refine lv_bipush (v := 9) hx hb dX9_minds_109 (by decide) ?_
        refine lv_bipush (v := 6) hx hb dX9_minds_111 (by decide) ?_
        refine lv_iload_n hx hb dX9_minds_113 rfl (lv_at hl 3 rfl) ?_
        refine lv_iload hx hb dX9_minds_114 (lv_at hl 5 rfl) ?_
        refine lv_iadd hx hb dX9_minds_116 ?_
        refine lv_imul hx hb dX9_minds_117 ?_
        refine lv_iadd hx hb dX9_minds_118 ?_
        refine lv_iconst (v := 1) hx hb dX9_minds_119 (by decide) ?_
        refine lv_iadd hx hb dX9_minds_120 ?_
        refine lv_aload_n hx hb dX9_minds_121 rfl (lv_at hl 0 rfl) ?_
        refine va_get (D := D) (ci := 9) (v := .ref (aM 10)) (C := RX9) (T := TX9) (N := 29) hx hb hts iw9 hown hK hP 0 rfl rfl 19 (by decide) kw2 (fun _ h9 => h9) rfl dX9_minds_122 ?_
        refine lv_bipush (v := 40) hx hb dX9_minds_125 (by decide) ?_
        refine lv_iload_n hx hb dX9_minds_127 rfl (lv_at hl 1 rfl) ?_
        refine lv_imul hx hb dX9_minds_128 ?_
        refine lv_iload_n hx hb dX9_minds_129 rfl (lv_at hl 2 rfl) ?_
        refine lv_iadd hx hb dX9_minds_130 ?_
        refine lv_iload hx hb dX9_minds_131 (lv_at hl 5 rfl) ?_
        refine lv_iadd hx hb dX9_minds_133 ?_
        obtain ⟨g_2, hf⟩ := ht_gd_ob hf
        refine va_iald hx hb hK hP 11 1 rfl rfl (ht_ix_in g_2) dX9_minds_134 ?_
        obtain ⟨o_3, ho_3, hf⟩ := ht_bn_ob hf
        refine ht_callSi (r := o_3) (rest := [.int (((9 : Int32) + ((6 : Int32) * (x3 + x5))) + (1 : Int32)), .ref (aM 0)]) (As := [.int (RM.numbers ((((40 : Int32) * x1) + x2) + x5).toNatClampNeg)]) (wc := []) (wr := (wMo K jM aM vM_s RM.held RM.aside RM.before RM.isHeld RM.tape RM.taped RM.token RM.frm RM.to RM.value RM.isWrong RM.unpaired RM.bestSound RM.bestWay RM.rows RM.rowN RM.sortOf RM.sizeOf RM.numbers RM.holdsWhat RM.holdsWhich RM.holdsMany RM.bodies RM.ran RM.actKind RM.actN RM.actA RM.isParted)) (w1 := []) (w2 := (wMo K jM aM vM_s RM.held RM.aside RM.before RM.isHeld RM.tape RM.taped RM.token RM.frm RM.to RM.value RM.isWrong RM.unpaired RM.bestSound RM.bestWay RM.rows RM.rowN RM.sortOf RM.sizeOf RM.numbers RM.holdsWhat RM.holdsWhich RM.holdsMany RM.bodies RM.ran RM.actKind RM.actN RM.actA RM.isParted)) hF (ctX9_within l D K (RM.numbers ((((40 : Int32) * x1) + x2) + x5).toNatClampNeg) o_3 ho_3 H.size) (va_cwS 1 hts gX9_minds_X9_within rfl rfl rfl hdX9_within ⟨Nat.le_of_ble_eq_true rfl, Nat.le_of_ble_eq_true rfl⟩) hK hP hD hS hA [] [0, 1, 2, 3, 4, 5, 6, 7, 8, 9, 10, 11, 12, 13, 14, 15] rfl rfl (by decide) (by decide) (by decide) [0, 1, 2, 3, 4, 5, 6, 7, 8, 9, 10, 11, 12, 13, 14, 15] rfl (by decide) rfl hl.1 rfl (Nat.le_of_ble_eq_true rfl) dX9_minds_135 ⟨Nat.zero_le _, Nat.zero_le _⟩ (fun H locs hP hD hS => ?_)
        obtain ⟨g_4, hf⟩ := ht_gd_ob hf
        obtain ⟨vM_s_5, evM_s_5, hf⟩ := ht_nm_ob hf
        refine ht_iast (w2 := (wMo K jM aM vM_s_5 RM.held RM.aside RM.before RM.isHeld RM.tape RM.taped RM.token RM.frm RM.to RM.value RM.isWrong RM.unpaired RM.bestSound RM.bestWay RM.rows RM.rowN RM.sortOf RM.sizeOf RM.numbers RM.holdsWhat RM.holdsWhich RM.holdsMany RM.bodies RM.ran RM.actKind RM.actN RM.actA RM.isParted)) hx hb hK hP hD hS 1 1 rfl rfl g_4 dX9_minds_138 evM_s_5 rfl (fun H locs hP hD hS => ?_)
        obtain ⟨x5_6, ex5_6, hf⟩ := ht_nm_ob hf
        refine lv_iinc (v := x5_6) (lv' := [(5, .int x5_6), (0, .ref jM), (1, .int x1), (2, .int x2), (3, .int x3), (4, .int x4)]) hx hb dX9_minds_139 hl (k := 5) rfl (by rw [ex5_6]; rfl) (by decide) rfl (fun ls hl => ?_)
        refine lv_goto (tgt := 98) hx hb dX9_minds_142 (by decide) ?_
        exact hk98 x1 x2 x3 x4 x5_6 vM_s_5 _ _ _ hf hP hD hS (lv_sub hl [1, 2, 3, 4, 5, 0] rfl)
  delta fX9_minds at hf
  refine lv_iload_n hx hb dX9_minds_0 rfl (lv_at hl 1 rfl) ?_
  obtain ⟨o_7, ho_7, hf⟩ := ht_bn_ob hf
  refine ht_callSi (r := o_7) (rest := []) (As := [.int p0]) (wc := []) (wr := (wMo K jM aM RM.s RM.held RM.aside RM.before RM.isHeld RM.tape RM.taped RM.token RM.frm RM.to RM.value RM.isWrong RM.unpaired RM.bestSound RM.bestWay RM.rows RM.rowN RM.sortOf RM.sizeOf RM.numbers RM.holdsWhat RM.holdsWhich RM.holdsMany RM.bodies RM.ran RM.actKind RM.actN RM.actA RM.isParted)) (w1 := []) (w2 := (wMo K jM aM RM.s RM.held RM.aside RM.before RM.isHeld RM.tape RM.taped RM.token RM.frm RM.to RM.value RM.isWrong RM.unpaired RM.bestSound RM.bestWay RM.rows RM.rowN RM.sortOf RM.sizeOf RM.numbers RM.holdsWhat RM.holdsWhich RM.holdsMany RM.bodies RM.ran RM.actKind RM.actN RM.actA RM.isParted)) hF (ctX9_isSheet l D K p0 o_7 ho_7 H.size) (va_cwS 1 hts gX9_minds_X9_isSheet rfl rfl rfl hdX9_isSheet ⟨Nat.le_of_ble_eq_true rfl, Nat.le_of_ble_eq_true rfl⟩) hK hP hD hS hA [] [0, 1, 2, 3, 4, 5, 6, 7, 8, 9, 10, 11, 12, 13, 14, 15] rfl rfl (by decide) (by decide) (by decide) [0, 1, 2, 3, 4, 5, 6, 7, 8, 9, 10, 11, 12, 13, 14, 15] rfl (by decide) rfl hl.1 rfl (Nat.le_of_ble_eq_true rfl) dX9_minds_1 ⟨Nat.zero_le _, Nat.zero_le _⟩ (fun H locs hP hD hS => ?_)
  refine lv_if_eq (tgt := 41) hx hb dX9_minds_4 (by decide) (fun c_8 => ?_) (fun c_8 => ?_)
  · replace hf := ht_t c_8 hf
    refine lv_iconst (v := -1) hx hb dX9_minds_41 (by decide) ?_
    have ho := Option.some.inj hf
    subst ho; subst hQ
    exact ht_iret hx hb hr hlk rfl hK hP hD hS dX9_minds_42
  · replace hf := ht_f c_8 hf
    refine lv_aload_n hx hb dX9_minds_7 rfl (lv_at hl 0 rfl) ?_
    refine lv_iload_n hx hb dX9_minds_8 rfl (lv_at hl 3 rfl) ?_
    obtain ⟨o_9, ho_9, hf⟩ := ht_bn_ob hf
    refine ht_callVi (r := o_9) (rest := []) (As := [.int p2]) (wc := (wMo K jM aM RM.s RM.held RM.aside RM.before RM.isHeld RM.tape RM.taped RM.token RM.frm RM.to RM.value RM.isWrong RM.unpaired RM.bestSound RM.bestWay RM.rows RM.rowN RM.sortOf RM.sizeOf RM.numbers RM.holdsWhat RM.holdsWhich RM.holdsMany RM.bodies RM.ran RM.actKind RM.actN RM.actA RM.isParted)) (wr := []) (w1 := (wMo K jM aM RM.s RM.held RM.aside RM.before RM.isHeld RM.tape RM.taped RM.token RM.frm RM.to RM.value RM.isWrong RM.unpaired RM.bestSound RM.bestWay RM.rows RM.rowN RM.sortOf RM.sizeOf RM.numbers RM.holdsWhat RM.holdsWhich RM.holdsMany RM.bodies RM.ran RM.actKind RM.actN RM.actA RM.isParted)) (w2 := (wMo K jM aM RM.s RM.held RM.aside RM.before RM.isHeld RM.tape RM.taped RM.token RM.frm RM.to RM.value RM.isWrong RM.unpaired RM.bestSound RM.bestWay RM.rows RM.rowN RM.sortOf RM.sizeOf RM.numbers RM.holdsWhat RM.holdsWhich RM.holdsMany RM.bodies RM.ran RM.actKind RM.actN RM.actA RM.isParted)) hF (ctX9_isOne l D K jM aM RM p2 o_9 ho_9 H.size) (cwV 1 hts gX9_minds_X9_isOne rfl rfl rfl hdX9_isOne ⟨Nat.le_of_ble_eq_true rfl, Nat.le_of_ble_eq_true rfl⟩) hK hP hD hS hA [0, 1, 2, 3, 4, 5, 6, 7, 8, 9, 10, 11, 12, 13, 14, 15] [] rfl rfl (by decide) (by decide) (by decide) [0, 1, 2, 3, 4, 5, 6, 7, 8, 9, 10, 11, 12, 13, 14, 15] rfl (by decide) (va_recv hK hP (ci := 9) (q0 := 0) rfl rfl) rfl hl.1 rfl (Nat.le_of_ble_eq_true rfl) dX9_minds_9 ⟨Nat.zero_le _, Nat.zero_le _⟩ (fun H locs hP hD hS => ?_)
    refine lv_if_eq (tgt := 41) hx hb dX9_minds_12 (by decide) (fun c_10 => ?_) (fun c_10 => ?_)
    · replace hf := ht_t c_10 hf
      refine lv_iconst (v := -1) hx hb dX9_minds_41 (by decide) ?_
      have ho := Option.some.inj hf
      subst ho; subst hQ
      exact ht_iret hx hb hr hlk rfl hK hP hD hS dX9_minds_42
    · replace hf := ht_f c_10 hf
      refine lv_iload hx hb dX9_minds_15 (lv_at hl 4 rfl) ?_
      refine lv_i2l hx hb dX9_minds_17 rfl ?_
      refine lv_lconst (v := 0) hx hb dX9_minds_18 (by decide) ?_
      refine lv_ldc2 hx hb hown kw3 dX9_minds_19 ?_
      obtain ⟨o_11, ho_11, hf⟩ := ht_bn_ob hf
      refine ht_callSi (r := o_11) (rest := []) (As := [.long p3.toInt64, .long (0 : Int64), .long (8 : Int64)]) (wc := []) (wr := (wMo K jM aM RM.s RM.held RM.aside RM.before RM.isHeld RM.tape RM.taped RM.token RM.frm RM.to RM.value RM.isWrong RM.unpaired RM.bestSound RM.bestWay RM.rows RM.rowN RM.sortOf RM.sizeOf RM.numbers RM.holdsWhat RM.holdsWhich RM.holdsMany RM.bodies RM.ran RM.actKind RM.actN RM.actA RM.isParted)) (w1 := []) (w2 := (wMo K jM aM RM.s RM.held RM.aside RM.before RM.isHeld RM.tape RM.taped RM.token RM.frm RM.to RM.value RM.isWrong RM.unpaired RM.bestSound RM.bestWay RM.rows RM.rowN RM.sortOf RM.sizeOf RM.numbers RM.holdsWhat RM.holdsWhich RM.holdsMany RM.bodies RM.ran RM.actKind RM.actN RM.actA RM.isParted)) hF (ctX9_isIn l D K p3.toInt64 (0 : Int64) (8 : Int64) o_11 ho_11 H.size) (va_cwS 3 hts gX9_minds_X9_isIn rfl rfl rfl hdX9_isIn ⟨Nat.le_of_ble_eq_true rfl, Nat.le_of_ble_eq_true rfl⟩) hK hP hD hS hA [] [0, 1, 2, 3, 4, 5, 6, 7, 8, 9, 10, 11, 12, 13, 14, 15] rfl rfl (by decide) (by decide) (by decide) [0, 1, 2, 3, 4, 5, 6, 7, 8, 9, 10, 11, 12, 13, 14, 15] rfl (by decide) rfl hl.1 rfl (Nat.le_of_ble_eq_true rfl) dX9_minds_22 ⟨Nat.zero_le _, Nat.zero_le _⟩ (fun H locs hP hD hS => ?_)
      refine lv_if_eq (tgt := 41) hx hb dX9_minds_25 (by decide) (fun c_12 => ?_) (fun c_12 => ?_)
      · replace hf := ht_t c_12 hf
        refine lv_iconst (v := -1) hx hb dX9_minds_41 (by decide) ?_
        have ho := Option.some.inj hf
        subst ho; subst hQ
        exact ht_iret hx hb hr hlk rfl hK hP hD hS dX9_minds_42
      · replace hf := ht_f c_12 hf
        refine lv_iload_n hx hb dX9_minds_28 rfl (lv_at hl 3 rfl) ?_
        refine lv_iload hx hb dX9_minds_29 (lv_at hl 4 rfl) ?_
        refine lv_iadd hx hb dX9_minds_31 ?_
        refine lv_aload_n hx hb dX9_minds_32 rfl (lv_at hl 0 rfl) ?_
        refine va_get (D := D) (ci := 9) (v := .ref (aM 0)) (C := RX9) (T := TX9) (N := 29) hx hb hts iw9 hown hK hP 0 rfl rfl 0 (by decide) kw1 (fun _ h9 => h9) rfl dX9_minds_33 ?_
        refine lv_iconst (v := 0) hx hb dX9_minds_36 (by decide) ?_
        obtain ⟨g_13, hf⟩ := ht_gd_ob hf
        refine va_iald hx hb hK hP 1 1 rfl rfl (ht_ix_in g_13) dX9_minds_37 ?_
        refine lv_icmp_le (tgt := 43) hx hb dX9_minds_38 (by decide) (fun c_14 => ?_) (fun c_14 => ?_)
        · replace hf := ht_t c_14 hf
          refine lv_aload_n hx hb dX9_minds_43 rfl (lv_at hl 0 rfl) ?_
          refine lv_iload_n hx hb dX9_minds_44 rfl (lv_at hl 1 rfl) ?_
          refine lv_iconst (v := 0) hx hb dX9_minds_45 (by decide) ?_
          obtain ⟨o_15, ho_15, hf⟩ := ht_bn_ob hf
          refine ht_callVi (r := o_15) (rest := []) (As := [.int p0, .int (0 : Int32)]) (wc := (wMo K jM aM RM.s RM.held RM.aside RM.before RM.isHeld RM.tape RM.taped RM.token RM.frm RM.to RM.value RM.isWrong RM.unpaired RM.bestSound RM.bestWay RM.rows RM.rowN RM.sortOf RM.sizeOf RM.numbers RM.holdsWhat RM.holdsWhich RM.holdsMany RM.bodies RM.ran RM.actKind RM.actN RM.actA RM.isParted)) (wr := []) (w1 := (wMo K jM aM RM.s RM.held RM.aside RM.before RM.isHeld RM.tape RM.taped RM.token RM.frm RM.to RM.value RM.isWrong RM.unpaired RM.bestSound RM.bestWay RM.rows RM.rowN RM.sortOf RM.sizeOf RM.numbers RM.holdsWhat RM.holdsWhich RM.holdsMany RM.bodies RM.ran RM.actKind RM.actN RM.actA RM.isParted)) (w2 := (wMo K jM aM RM.s RM.held RM.aside RM.before RM.isHeld RM.tape RM.taped RM.token RM.frm RM.to RM.value RM.isWrong RM.unpaired RM.bestSound RM.bestWay RM.rows RM.rowN RM.sortOf RM.sizeOf RM.numbers RM.holdsWhat RM.holdsWhich RM.holdsMany RM.bodies RM.ran RM.actKind RM.actN RM.actA RM.isParted)) hF (ctX9_lacks l D K jM aM RM p0 (0 : Int32) o_15 ho_15 H.size) (cwV 2 hts gX9_minds_X9_lacks rfl rfl rfl hdX9_lacks ⟨Nat.le_of_ble_eq_true rfl, Nat.le_of_ble_eq_true rfl⟩) hK hP hD hS hA [0, 1, 2, 3, 4, 5, 6, 7, 8, 9, 10, 11, 12, 13, 14, 15] [] rfl rfl (by decide) (by decide) (by decide) [0, 1, 2, 3, 4, 5, 6, 7, 8, 9, 10, 11, 12, 13, 14, 15] rfl (by decide) (va_recv hK hP (ci := 9) (q0 := 0) rfl rfl) rfl hl.1 rfl (Nat.le_of_ble_eq_true rfl) dX9_minds_46 ⟨Nat.zero_le _, Nat.zero_le _⟩ (fun H locs hP hD hS => ?_)
          refine lv_if_eq (tgt := 59) hx hb dX9_minds_49 (by decide) (fun c_16 => ?_) (fun c_16 => ?_)
          · replace hf := ht_t c_16 hf
            refine lv_iload_n hx hb dX9_minds_59 rfl (lv_at hl 2 rfl) ?_
            refine lv_i2l hx hb dX9_minds_60 rfl ?_
            refine lv_lconst (v := 0) hx hb dX9_minds_61 (by decide) ?_
            refine lv_aload_n hx hb dX9_minds_62 rfl (lv_at hl 0 rfl) ?_
            refine va_get (D := D) (ci := 9) (v := .ref (aM 9)) (C := RX9) (T := TX9) (N := 29) hx hb hts iw9 hown hK hP 0 rfl rfl 18 (by decide) kw4 (fun _ h9 => h9) rfl dX9_minds_63 ?_
            refine lv_iload_n hx hb dX9_minds_66 rfl (lv_at hl 1 rfl) ?_
            obtain ⟨g_17, hf⟩ := ht_gd_ob hf
            refine va_iald hx hb hK hP 10 1 rfl rfl (ht_ix_in g_17) dX9_minds_67 ?_
            refine lv_i2l hx hb dX9_minds_68 rfl ?_
            obtain ⟨o_18, ho_18, hf⟩ := ht_bn_ob hf
            refine ht_callSi (r := o_18) (rest := []) (As := [.long p1.toInt64, .long (0 : Int64), .long ((RM.sizeOf p0.toNatClampNeg).toInt64)]) (wc := []) (wr := (wMo K jM aM RM.s RM.held RM.aside RM.before RM.isHeld RM.tape RM.taped RM.token RM.frm RM.to RM.value RM.isWrong RM.unpaired RM.bestSound RM.bestWay RM.rows RM.rowN RM.sortOf RM.sizeOf RM.numbers RM.holdsWhat RM.holdsWhich RM.holdsMany RM.bodies RM.ran RM.actKind RM.actN RM.actA RM.isParted)) (w1 := []) (w2 := (wMo K jM aM RM.s RM.held RM.aside RM.before RM.isHeld RM.tape RM.taped RM.token RM.frm RM.to RM.value RM.isWrong RM.unpaired RM.bestSound RM.bestWay RM.rows RM.rowN RM.sortOf RM.sizeOf RM.numbers RM.holdsWhat RM.holdsWhich RM.holdsMany RM.bodies RM.ran RM.actKind RM.actN RM.actA RM.isParted)) hF (ctX9_isIn l D K p1.toInt64 (0 : Int64) ((RM.sizeOf p0.toNatClampNeg).toInt64) o_18 ho_18 H.size) (va_cwS 3 hts gX9_minds_X9_isIn rfl rfl rfl hdX9_isIn ⟨Nat.le_of_ble_eq_true rfl, Nat.le_of_ble_eq_true rfl⟩) hK hP hD hS hA [] [0, 1, 2, 3, 4, 5, 6, 7, 8, 9, 10, 11, 12, 13, 14, 15] rfl rfl (by decide) (by decide) (by decide) [0, 1, 2, 3, 4, 5, 6, 7, 8, 9, 10, 11, 12, 13, 14, 15] rfl (by decide) rfl hl.1 rfl (Nat.le_of_ble_eq_true rfl) dX9_minds_69 ⟨Nat.zero_le _, Nat.zero_le _⟩ (fun H locs hP hD hS => ?_)
            refine lv_if_eq (tgt := 92) hx hb dX9_minds_72 (by decide) (fun c_19 => ?_) (fun c_19 => ?_)
            · replace hf := ht_t c_19 hf
              refine lv_bipush (v := -12) hx hb dX9_minds_92 (by decide) ?_
              have ho := Option.some.inj hf
              subst ho; subst hQ
              exact ht_iret hx hb hr hlk rfl hK hP hD hS dX9_minds_94
            · replace hf := ht_f c_19 hf
              refine lv_iload_n hx hb dX9_minds_75 rfl (lv_at hl 2 rfl) ?_
              refine lv_i2l hx hb dX9_minds_76 rfl ?_
              refine lv_iload hx hb dX9_minds_77 (lv_at hl 4 rfl) ?_
              refine lv_i2l hx hb dX9_minds_79 rfl ?_
              refine lv_ladd hx hb dX9_minds_80 ?_
              refine lv_aload_n hx hb dX9_minds_81 rfl (lv_at hl 0 rfl) ?_
              refine va_get (D := D) (ci := 9) (v := .ref (aM 9)) (C := RX9) (T := TX9) (N := 29) hx hb hts iw9 hown hK hP 0 rfl rfl 18 (by decide) kw4 (fun _ h9 => h9) rfl dX9_minds_82 ?_
              refine lv_iload_n hx hb dX9_minds_85 rfl (lv_at hl 1 rfl) ?_
              obtain ⟨g_20, hf⟩ := ht_gd_ob hf
              refine va_iald hx hb hK hP 10 1 rfl rfl (ht_ix_in g_20) dX9_minds_86 ?_
              refine lv_i2l hx hb dX9_minds_87 rfl ?_
              refine W.lcmp hx hb dX9_minds_88 ?_
              refine lv_if_le (tgt := 95) hx hb dX9_minds_89 (by decide) (fun c_21 => ?_) (fun c_21 => ?_)
              · replace hf := ht_t c_21 hf
                refine lv_iconst (v := 0) hx hb dX9_minds_95 (by decide) ?_
                refine lv_istore (lv' := [(5, .int (0 : Int32)), (0, .ref jM), (1, .int p0), (2, .int p1), (3, .int p2), (4, .int p3)]) hx hb dX9_minds_96 hl (by decide) rfl (fun ls hl => ?_)
                exact b98  FU p0 p1 p2 p3 (0 : Int32) RM.s _ _ _ hf hP hD hS (lv_sub hl [1, 2, 3, 4, 5, 0] rfl)
              · replace hf := ht_f c_21 hf
                refine lv_bipush (v := -12) hx hb dX9_minds_92 (by decide) ?_
                have ho := Option.some.inj hf
                subst ho; subst hQ
                exact ht_iret hx hb hr hlk rfl hK hP hD hS dX9_minds_94
          · replace hf := ht_f c_16 hf
            refine lv_aload_n hx hb dX9_minds_52 rfl (lv_at hl 0 rfl) ?_
            refine lv_iload_n hx hb dX9_minds_53 rfl (lv_at hl 1 rfl) ?_
            refine lv_iconst (v := 0) hx hb dX9_minds_54 (by decide) ?_
            obtain ⟨o_22, ho_22, hf⟩ := ht_bn_ob hf
            refine ht_callVi (r := o_22) (rest := []) (As := [.int p0, .int (0 : Int32)]) (wc := (wMo K jM aM RM.s RM.held RM.aside RM.before RM.isHeld RM.tape RM.taped RM.token RM.frm RM.to RM.value RM.isWrong RM.unpaired RM.bestSound RM.bestWay RM.rows RM.rowN RM.sortOf RM.sizeOf RM.numbers RM.holdsWhat RM.holdsWhich RM.holdsMany RM.bodies RM.ran RM.actKind RM.actN RM.actA RM.isParted)) (wr := []) (w1 := (wMo K jM aM RM.s RM.held RM.aside RM.before RM.isHeld RM.tape RM.taped RM.token RM.frm RM.to RM.value RM.isWrong RM.unpaired RM.bestSound RM.bestWay RM.rows RM.rowN RM.sortOf RM.sizeOf RM.numbers RM.holdsWhat RM.holdsWhich RM.holdsMany RM.bodies RM.ran RM.actKind RM.actN RM.actA RM.isParted)) (w2 := (wMo K jM aM RM.s RM.held RM.aside RM.before RM.isHeld RM.tape RM.taped RM.token RM.frm RM.to RM.value RM.isWrong RM.unpaired RM.bestSound RM.bestWay RM.rows RM.rowN RM.sortOf RM.sizeOf RM.numbers RM.holdsWhat RM.holdsWhich RM.holdsMany RM.bodies RM.ran RM.actKind RM.actN RM.actA RM.isParted)) hF (ctX9_lacks l D K jM aM RM p0 (0 : Int32) o_22 ho_22 H.size) (cwV 2 hts gX9_minds_X9_lacks rfl rfl rfl hdX9_lacks ⟨Nat.le_of_ble_eq_true rfl, Nat.le_of_ble_eq_true rfl⟩) hK hP hD hS hA [0, 1, 2, 3, 4, 5, 6, 7, 8, 9, 10, 11, 12, 13, 14, 15] [] rfl rfl (by decide) (by decide) (by decide) [0, 1, 2, 3, 4, 5, 6, 7, 8, 9, 10, 11, 12, 13, 14, 15] rfl (by decide) (va_recv hK hP (ci := 9) (q0 := 0) rfl rfl) rfl hl.1 rfl (Nat.le_of_ble_eq_true rfl) dX9_minds_55 ⟨Nat.zero_le _, Nat.zero_le _⟩ (fun H locs hP hD hS => ?_)
            have ho := Option.some.inj hf
            subst ho; subst hQ
            exact ht_iret hx hb hr hlk rfl hK hP hD hS dX9_minds_58
        · replace hf := ht_f c_14 hf
          refine lv_iconst (v := -1) hx hb dX9_minds_41 (by decide) ?_
          have ho := Option.some.inj hf
          subst ho; subst hQ
          exact ht_iret hx hb hr hlk rfl hK hP hD hS dX9_minds_42
abbrev rmX9_shelf : Room := { frames := 2, cells := 0, slots := 0, locals := 45 }
theorem hdX9_shelf : yX9_shelf.cls = RX9 ∧ yX9_shelf.cls ≠ "java/lang/invoke/MethodHandle" ∧ yX9_shelf.cls ≠ "java/lang/invoke/VarHandle" ∧ (parseMethodDescriptor yX9_shelf.desc).map (fun d => d.parameters.length) = some 3 := by decide +kernel
def fX9_shelf_b139 (RM : ModV) (t1 : Int32) (t2 : Int32) (vM_holdsWhat : AI) (vM_holdsWhich : AI) (vM_holdsMany : AI) : Option (Int32 × AI × AI × AI) := ht_gd (ht_ix t1 4) (ht_nm (upd vM_holdsMany t1.toNatClampNeg t2) (fun vM_holdsMany_2 => some ((1 : Int32), vM_holdsWhat, vM_holdsWhich, vM_holdsMany_2)))
def fX9_shelf_b118 (RM : ModV) (x1 : Int32) (x3 : Int32) (x4 : Int32) (t1 : Int32) (t2 : Int32) (vM_holdsWhat : AI) (vM_holdsWhich : AI) (vM_holdsMany : AI) : Option (Int32 × AI × AI × AI) := ht_gd (ht_ix t1 4) (ht_nm (upd vM_holdsWhich t1.toNatClampNeg t2) (fun vM_holdsWhich_4 => if x4 = 0 then (fX9_shelf_b139 RM x1 (0 : Int32) vM_holdsWhat vM_holdsWhich_4 vM_holdsMany) else (ht_gd (ht_ix x3 4) (fX9_shelf_b139 RM x1 (RM.sizeOf x3.toNatClampNeg) vM_holdsWhat vM_holdsWhich_4 vM_holdsMany))))
def fX9_shelf_b89 (RM : ModV) (x1 : Int32) (x2 : Int32) (x3 : Int32) (x4 : Int32) (t1 : Int32) (t2 : Int32) (vM_holdsWhat : AI) (vM_holdsWhich : AI) (vM_holdsMany : AI) : Option (Int32 × AI × AI × AI) := ht_gd (ht_ix t1 4) (ht_nm (upd vM_holdsWhat t1.toNatClampNeg t2) (fun vM_holdsWhat_8 => if x2 = 0 then (fX9_shelf_b118 RM x1 x3 x4 x1 x3 vM_holdsWhat_8 vM_holdsWhich vM_holdsMany) else (if x4 = 0 then (fX9_shelf_b118 RM x1 x3 x4 x1 (0 : Int32) vM_holdsWhat_8 vM_holdsWhich vM_holdsMany) else (ht_gd (ht_ix x3 4) (fX9_shelf_b118 RM x1 x3 x4 x1 (RM.sortOf x3.toNatClampNeg) vM_holdsWhat_8 vM_holdsWhich vM_holdsMany)))))
def fX9_shelf_b64 (RM : ModV) (x1 : Int32) (x2 : Int32) (x3 : Int32) (t0 : Int32) (vM_holdsWhat : AI) (vM_holdsWhich : AI) (vM_holdsMany : AI) : Option (Int32 × AI × AI × AI) := if x2 = 0 then (fX9_shelf_b89 RM x1 x2 x3 t0 x1 (1 : Int32) vM_holdsWhat vM_holdsWhich vM_holdsMany) else (if t0 = 0 then (fX9_shelf_b89 RM x1 x2 x3 t0 x1 (0 : Int32) vM_holdsWhat vM_holdsWhich vM_holdsMany) else (fX9_shelf_b89 RM x1 x2 x3 t0 x1 (2 : Int32) vM_holdsWhat vM_holdsWhich vM_holdsMany))
def fX9_shelf_b63 (RM : ModV) (x1 : Int32) (x2 : Int32) (x3 : Int32) (vM_holdsWhat : AI) (vM_holdsWhich : AI) (vM_holdsMany : AI) : Option (Int32 × AI × AI × AI) := fX9_shelf_b64 RM x1 x2 x3 (0 : Int32) vM_holdsWhat vM_holdsWhich vM_holdsMany
def fX9_shelf_b45 (RM : ModV) (x1 : Int32) (x2 : Int32) (x3 : Int32) (vM_holdsWhat : AI) (vM_holdsWhich : AI) (vM_holdsMany : AI) : Option (Int32 × AI × AI × AI) := if x2 = (1 : Int32) then (ht_gd (ht_ix x3 4) (if (RM.sortOf x3.toNatClampNeg) < 0 then (fX9_shelf_b63 RM x1 x2 x3 vM_holdsWhat vM_holdsWhich vM_holdsMany) else (fX9_shelf_b64 RM x1 x2 x3 (1 : Int32) vM_holdsWhat vM_holdsWhich vM_holdsMany))) else (fX9_shelf_b63 RM x1 x2 x3 vM_holdsWhat vM_holdsWhich vM_holdsMany)
def fX9_shelf_b31 (RM : ModV) (x1 : Int32) (x2 : Int32) (x3 : Int32) (vM_holdsWhat : AI) (vM_holdsWhich : AI) (vM_holdsMany : AI) : Option (Int32 × AI × AI × AI) := if x2 = (1 : Int32) then (ht_bn (fX9_isSheet x3) (fun o_18 => if o_18 = 0 then (some ((-1 : Int32), vM_holdsWhat, vM_holdsWhich, vM_holdsMany)) else (fX9_shelf_b45 RM x1 x2 x3 vM_holdsWhat vM_holdsWhich vM_holdsMany))) else (fX9_shelf_b45 RM x1 x2 x3 vM_holdsWhat vM_holdsWhich vM_holdsMany)
def fX9_shelf (RM : ModV) (p0 : Int32) (p1 : Int32) (p2 : Int32) : Option (Int32 × AI × AI × AI) := ht_bn (fX9_isShelf p0) (fun o_20 => if o_20 = 0 then (some ((-1 : Int32), RM.holdsWhat, RM.holdsWhich, RM.holdsMany)) else (ht_bn (fX9_isIn p1.toInt64 (0 : Int64) (2 : Int64)) (fun o_22 => if o_22 = 0 then (some ((-1 : Int32), RM.holdsWhat, RM.holdsWhich, RM.holdsMany)) else (if p1 = 0 then (ht_bn (fX9_isOne RM p2) (fun o_25 => if o_25 = 0 then (some ((-1 : Int32), RM.holdsWhat, RM.holdsWhich, RM.holdsMany)) else (fX9_shelf_b31 RM p0 p1 p2 RM.holdsWhat RM.holdsWhich RM.holdsMany))) else (fX9_shelf_b31 RM p0 p1 p2 RM.holdsWhat RM.holdsWhich RM.holdsMany)))))
set_option maxHeartbeats 1000000 in
set_option maxRecDepth 100000 in
theorem ctX9_shelf (l : Launch) (D : va_G) (K : Nat → ClassId) (jM : Nat) (aM : Nat → Nat) (RM : ModV) (p0 : Int32) (p1 : Int32) (p2 : Int32) (o : (Int32 × AI × AI × AI)) (hf : fX9_shelf RM p0 p1 p2 = some o) (sz : Nat) : Met l yX9_shelf wsX9_shelf rmX9_shelf (ht_Pre D K [.ref jM, .int p0, .int p1, .int p2] (wMo K jM aM RM.s RM.held RM.aside RM.before RM.isHeld RM.tape RM.taped RM.token RM.frm RM.to RM.value RM.isWrong RM.unpaired RM.bestSound RM.bestWay RM.rows RM.rowN RM.sortOf RM.sizeOf RM.numbers RM.holdsWhat RM.holdsWhich RM.holdsMany RM.bodies RM.ran RM.actKind RM.actN RM.actA RM.isParted) sz) (ht_Qi D K (wMo K jM aM RM.s RM.held RM.aside RM.before RM.isHeld RM.tape RM.taped RM.token RM.frm RM.to RM.value RM.isWrong RM.unpaired RM.bestSound RM.bestWay RM.rows RM.rowN RM.sortOf RM.sizeOf RM.numbers o.2.1 o.2.2.1 o.2.2.2 RM.bodies RM.ran RM.actKind RM.actN RM.actA RM.isParted) o.1 (va_A (wMo K jM aM RM.s RM.held RM.aside RM.before RM.isHeld RM.tape RM.taped RM.token RM.frm RM.to RM.value RM.isWrong RM.unpaired RM.bestSound RM.bestWay RM.rows RM.rowN RM.sortOf RM.sizeOf RM.numbers RM.holdsWhat RM.holdsWhich RM.holdsMany RM.bodies RM.ran RM.actKind RM.actN RM.actA RM.isParted) sz)) 0 0 (va_A (wMo K jM aM RM.s RM.held RM.aside RM.before RM.isHeld RM.tape RM.taped RM.token RM.frm RM.to RM.value RM.isWrong RM.unpaired RM.bestSound RM.bestWay RM.rows RM.rowN RM.sortOf RM.sizeOf RM.numbers RM.holdsWhat RM.holdsWhich RM.holdsMany RM.bodies RM.ran RM.actKind RM.actN RM.actA RM.isParted) sz) := by
  refine ht_enter (Qf := ht_Qi D K (wMo K jM aM RM.s RM.held RM.aside RM.before RM.isHeld RM.tape RM.taped RM.token RM.frm RM.to RM.value RM.isWrong RM.unpaired RM.bestSound RM.bestWay RM.rows RM.rowN RM.sortOf RM.sizeOf RM.numbers o.2.1 o.2.2.1 o.2.2.2 RM.bodies RM.ran RM.actKind RM.actN RM.actA RM.isParted) o.1) (cc := cX9_shelf) (maxL := 5) (rt := (some .int)) (by decide) rfl (Nat.le_of_ble_eq_true rfl) ?_ sz
  intro p e s m below meth c A Q H locs ls hQ hx hb hr hlk hmn hml hown hts hA hK hP hD hS hl
  have hown : s.vm.findClass RX9 = some m.cls := hown
  have hF : CallFix p m c cX9_shelf 5 s ([.ref jM, .int p0, .int p1, .int p2] : List Value).toArray wsX9_shelf RX9 := ⟨hx, hb, hml, hown, hts⟩
  have hl : lv_has ls 5 [(0, .ref jM), (1, .int p0), (2, .int p1), (3, .int p2)] := hl
  have iw9 : ∀ w ∈ u_ws RX9 TX9 29, w ∈ wsX9_shelf := by decide +kernel
  have kw1 := hts (.fieldLink RX9 49 "HeldTonguesModel" "holdsMany" "[I") (by decide +kernel)
  have kw2 := hts (.fieldLink RX9 37 "HeldTonguesModel" "sizeOf" "[I") (by decide +kernel)
  have kw3 := hts (.fieldLink RX9 46 "HeldTonguesModel" "holdsWhich" "[I") (by decide +kernel)
  have kw4 := hts (.fieldLink RX9 34 "HeldTonguesModel" "sortOf" "[I") (by decide +kernel)
  have kw5 := hts (.fieldLink RX9 43 "HeldTonguesModel" "holdsWhat" "[I") (by decide +kernel)
  have kw6 := hts (.constantLong RX9 178 (2)) (by decide +kernel)
  have b139 : ∀ (t1 : Int32) (t2 : Int32) (vM_holdsWhat : AI) (vM_holdsWhich : AI) (vM_holdsMany : AI) (H : Heap) (locs : List Loc) (ls : Array Slot), fX9_shelf_b139 RM t1 t2 vM_holdsWhat vM_holdsWhich vM_holdsMany = some o → va_P D vwCl (wMo K jM aM RM.s RM.held RM.aside RM.before RM.isHeld RM.tape RM.taped RM.token RM.frm RM.to RM.value RM.isWrong RM.unpaired RM.bestSound RM.bestWay RM.rows RM.rowN RM.sortOf RM.sizeOf RM.numbers vM_holdsWhat vM_holdsWhich vM_holdsMany RM.bodies RM.ran RM.actKind RM.actN RM.actA RM.isParted) H → va_D A (wMo K jM aM RM.s RM.held RM.aside RM.before RM.isHeld RM.tape RM.taped RM.token RM.frm RM.to RM.value RM.isWrong RM.unpaired RM.bestSound RM.bestWay RM.rows RM.rowN RM.sortOf RM.sizeOf RM.numbers vM_holdsWhat vM_holdsWhich vM_holdsMany RM.bodies RM.ran RM.actKind RM.actN RM.actA RM.isParted) → va_S A s.heap H locs → lv_has ls 5 [] → W p l e (headSpec wsX9_shelf rmX9_shelf).room s m ([.ref jM, .int p0, .int p1, .int p2] : List Value).toArray below meth c H locs 0 0 Q (F0 m 139 ls [.int t2, .int t1, .ref (aM 13)]) := by
    intro t1 t2 vM_holdsWhat vM_holdsWhich vM_holdsMany H locs ls hf hP hD hS hl
    delta fX9_shelf_b139 at hf
    obtain ⟨g_1, hf⟩ := ht_gd_ob hf
    obtain ⟨vM_holdsMany_2, evM_holdsMany_2, hf⟩ := ht_nm_ob hf
    refine ht_iast (w2 := (wMo K jM aM RM.s RM.held RM.aside RM.before RM.isHeld RM.tape RM.taped RM.token RM.frm RM.to RM.value RM.isWrong RM.unpaired RM.bestSound RM.bestWay RM.rows RM.rowN RM.sortOf RM.sizeOf RM.numbers vM_holdsWhat vM_holdsWhich vM_holdsMany_2 RM.bodies RM.ran RM.actKind RM.actN RM.actA RM.isParted)) hx hb hK hP hD hS 14 1 rfl rfl g_1 dX9_shelf_139 evM_holdsMany_2 rfl (fun H locs hP hD hS => ?_)
    refine lv_iconst (v := 1) hx hb dX9_shelf_140 (by decide) ?_
    have ho := Option.some.inj hf
    subst ho; subst hQ
    exact ht_iret hx hb hr hlk rfl hK hP hD hS dX9_shelf_141
  have b118 : ∀ (x1 : Int32) (x3 : Int32) (x4 : Int32) (t1 : Int32) (t2 : Int32) (vM_holdsWhat : AI) (vM_holdsWhich : AI) (vM_holdsMany : AI) (H : Heap) (locs : List Loc) (ls : Array Slot), fX9_shelf_b118 RM x1 x3 x4 t1 t2 vM_holdsWhat vM_holdsWhich vM_holdsMany = some o → va_P D vwCl (wMo K jM aM RM.s RM.held RM.aside RM.before RM.isHeld RM.tape RM.taped RM.token RM.frm RM.to RM.value RM.isWrong RM.unpaired RM.bestSound RM.bestWay RM.rows RM.rowN RM.sortOf RM.sizeOf RM.numbers vM_holdsWhat vM_holdsWhich vM_holdsMany RM.bodies RM.ran RM.actKind RM.actN RM.actA RM.isParted) H → va_D A (wMo K jM aM RM.s RM.held RM.aside RM.before RM.isHeld RM.tape RM.taped RM.token RM.frm RM.to RM.value RM.isWrong RM.unpaired RM.bestSound RM.bestWay RM.rows RM.rowN RM.sortOf RM.sizeOf RM.numbers vM_holdsWhat vM_holdsWhich vM_holdsMany RM.bodies RM.ran RM.actKind RM.actN RM.actA RM.isParted) → va_S A s.heap H locs → lv_has ls 5 [(0, .ref jM), (1, .int x1), (3, .int x3), (4, .int x4)] → W p l e (headSpec wsX9_shelf rmX9_shelf).room s m ([.ref jM, .int p0, .int p1, .int p2] : List Value).toArray below meth c H locs 0 0 Q (F0 m 118 ls [.int t2, .int t1, .ref (aM 12)]) := by
    intro x1 x3 x4 t1 t2 vM_holdsWhat vM_holdsWhich vM_holdsMany H locs ls hf hP hD hS hl
    delta fX9_shelf_b118 at hf
    obtain ⟨g_3, hf⟩ := ht_gd_ob hf
    obtain ⟨vM_holdsWhich_4, evM_holdsWhich_4, hf⟩ := ht_nm_ob hf
    refine ht_iast (w2 := (wMo K jM aM RM.s RM.held RM.aside RM.before RM.isHeld RM.tape RM.taped RM.token RM.frm RM.to RM.value RM.isWrong RM.unpaired RM.bestSound RM.bestWay RM.rows RM.rowN RM.sortOf RM.sizeOf RM.numbers vM_holdsWhat vM_holdsWhich_4 vM_holdsMany RM.bodies RM.ran RM.actKind RM.actN RM.actA RM.isParted)) hx hb hK hP hD hS 13 1 rfl rfl g_3 dX9_shelf_118 evM_holdsWhich_4 rfl (fun H locs hP hD hS => ?_)
    refine lv_aload_n hx hb dX9_shelf_119 rfl (lv_at hl 0 rfl) ?_
    refine va_get (D := D) (ci := 9) (v := .ref (aM 13)) (C := RX9) (T := TX9) (N := 29) hx hb hts iw9 hown hK hP 0 rfl rfl 22 (by decide) kw1 (fun _ h9 => h9) rfl dX9_shelf_120 ?_
    refine lv_iload_n hx hb dX9_shelf_123 rfl (lv_at hl 1 rfl) ?_
    refine lv_iload hx hb dX9_shelf_124 (lv_at hl 3 rfl) ?_
    refine lv_if_eq (tgt := 138) hx hb dX9_shelf_126 (by decide) (fun c_5 => ?_) (fun c_5 => ?_)
    · replace hf := ht_t c_5 hf
      refine lv_iconst (v := 0) hx hb dX9_shelf_138 (by decide) ?_
      exact b139  x1 (0 : Int32) vM_holdsWhat vM_holdsWhich_4 vM_holdsMany _ _ _ hf hP hD hS (lv_sub hl [] rfl)
    · replace hf := ht_f c_5 hf
      refine lv_aload_n hx hb dX9_shelf_129 rfl (lv_at hl 0 rfl) ?_
      refine va_get (D := D) (ci := 9) (v := .ref (aM 9)) (C := RX9) (T := TX9) (N := 29) hx hb hts iw9 hown hK hP 0 rfl rfl 18 (by decide) kw2 (fun _ h9 => h9) rfl dX9_shelf_130 ?_
      refine lv_iload_n hx hb dX9_shelf_133 rfl (lv_at hl 2 rfl) ?_
      obtain ⟨g_6, hf⟩ := ht_gd_ob hf
      refine va_iald hx hb hK hP 10 1 rfl rfl (ht_ix_in g_6) dX9_shelf_134 ?_
      refine lv_goto (tgt := 139) hx hb dX9_shelf_135 (by decide) ?_
      exact b139  x1 (RM.sizeOf x3.toNatClampNeg) vM_holdsWhat vM_holdsWhich_4 vM_holdsMany _ _ _ hf hP hD hS (lv_sub hl [] rfl)
  have b89 : ∀ (x1 : Int32) (x2 : Int32) (x3 : Int32) (x4 : Int32) (t1 : Int32) (t2 : Int32) (vM_holdsWhat : AI) (vM_holdsWhich : AI) (vM_holdsMany : AI) (H : Heap) (locs : List Loc) (ls : Array Slot), fX9_shelf_b89 RM x1 x2 x3 x4 t1 t2 vM_holdsWhat vM_holdsWhich vM_holdsMany = some o → va_P D vwCl (wMo K jM aM RM.s RM.held RM.aside RM.before RM.isHeld RM.tape RM.taped RM.token RM.frm RM.to RM.value RM.isWrong RM.unpaired RM.bestSound RM.bestWay RM.rows RM.rowN RM.sortOf RM.sizeOf RM.numbers vM_holdsWhat vM_holdsWhich vM_holdsMany RM.bodies RM.ran RM.actKind RM.actN RM.actA RM.isParted) H → va_D A (wMo K jM aM RM.s RM.held RM.aside RM.before RM.isHeld RM.tape RM.taped RM.token RM.frm RM.to RM.value RM.isWrong RM.unpaired RM.bestSound RM.bestWay RM.rows RM.rowN RM.sortOf RM.sizeOf RM.numbers vM_holdsWhat vM_holdsWhich vM_holdsMany RM.bodies RM.ran RM.actKind RM.actN RM.actA RM.isParted) → va_S A s.heap H locs → lv_has ls 5 [(0, .ref jM), (1, .int x1), (2, .int x2), (3, .int x3), (4, .int x4)] → W p l e (headSpec wsX9_shelf rmX9_shelf).room s m ([.ref jM, .int p0, .int p1, .int p2] : List Value).toArray below meth c H locs 0 0 Q (F0 m 89 ls [.int t2, .int t1, .ref (aM 11)]) := by
    intro x1 x2 x3 x4 t1 t2 vM_holdsWhat vM_holdsWhich vM_holdsMany H locs ls hf hP hD hS hl
    delta fX9_shelf_b89 at hf
    obtain ⟨g_7, hf⟩ := ht_gd_ob hf
    obtain ⟨vM_holdsWhat_8, evM_holdsWhat_8, hf⟩ := ht_nm_ob hf
    refine ht_iast (w2 := (wMo K jM aM RM.s RM.held RM.aside RM.before RM.isHeld RM.tape RM.taped RM.token RM.frm RM.to RM.value RM.isWrong RM.unpaired RM.bestSound RM.bestWay RM.rows RM.rowN RM.sortOf RM.sizeOf RM.numbers vM_holdsWhat_8 vM_holdsWhich vM_holdsMany RM.bodies RM.ran RM.actKind RM.actN RM.actA RM.isParted)) hx hb hK hP hD hS 12 1 rfl rfl g_7 dX9_shelf_89 evM_holdsWhat_8 rfl (fun H locs hP hD hS => ?_)
    refine lv_aload_n hx hb dX9_shelf_90 rfl (lv_at hl 0 rfl) ?_
    refine va_get (D := D) (ci := 9) (v := .ref (aM 12)) (C := RX9) (T := TX9) (N := 29) hx hb hts iw9 hown hK hP 0 rfl rfl 21 (by decide) kw3 (fun _ h9 => h9) rfl dX9_shelf_91 ?_
    refine lv_iload_n hx hb dX9_shelf_94 rfl (lv_at hl 1 rfl) ?_
    refine lv_iload_n hx hb dX9_shelf_95 rfl (lv_at hl 2 rfl) ?_
    refine lv_if_ne (tgt := 103) hx hb dX9_shelf_96 (by decide) (fun c_9 => ?_) (fun c_9 => ?_)
    · replace hf := ht_f c_9 hf
      refine lv_iload hx hb dX9_shelf_103 (lv_at hl 4 rfl) ?_
      refine lv_if_eq (tgt := 117) hx hb dX9_shelf_105 (by decide) (fun c_10 => ?_) (fun c_10 => ?_)
      · replace hf := ht_t c_10 hf
        refine lv_iconst (v := 0) hx hb dX9_shelf_117 (by decide) ?_
        exact b118  x1 x3 x4 x1 (0 : Int32) vM_holdsWhat_8 vM_holdsWhich vM_holdsMany _ _ _ hf hP hD hS (lv_sub hl [0, 1, 3, 4] rfl)
      · replace hf := ht_f c_10 hf
        refine lv_aload_n hx hb dX9_shelf_108 rfl (lv_at hl 0 rfl) ?_
        refine va_get (D := D) (ci := 9) (v := .ref (aM 8)) (C := RX9) (T := TX9) (N := 29) hx hb hts iw9 hown hK hP 0 rfl rfl 17 (by decide) kw4 (fun _ h9 => h9) rfl dX9_shelf_109 ?_
        refine lv_iload_n hx hb dX9_shelf_112 rfl (lv_at hl 3 rfl) ?_
        obtain ⟨g_11, hf⟩ := ht_gd_ob hf
        refine va_iald hx hb hK hP 9 1 rfl rfl (ht_ix_in g_11) dX9_shelf_113 ?_
        refine lv_goto (tgt := 118) hx hb dX9_shelf_114 (by decide) ?_
        exact b118  x1 x3 x4 x1 (RM.sortOf x3.toNatClampNeg) vM_holdsWhat_8 vM_holdsWhich vM_holdsMany _ _ _ hf hP hD hS (lv_sub hl [0, 1, 3, 4] rfl)
    · replace hf := ht_t c_9 hf
      refine lv_iload_n hx hb dX9_shelf_99 rfl (lv_at hl 3 rfl) ?_
      refine lv_goto (tgt := 118) hx hb dX9_shelf_100 (by decide) ?_
      exact b118  x1 x3 x4 x1 x3 vM_holdsWhat_8 vM_holdsWhich vM_holdsMany _ _ _ hf hP hD hS (lv_sub hl [0, 1, 3, 4] rfl)
  have b64 : ∀ (x1 : Int32) (x2 : Int32) (x3 : Int32) (t0 : Int32) (vM_holdsWhat : AI) (vM_holdsWhich : AI) (vM_holdsMany : AI) (H : Heap) (locs : List Loc) (ls : Array Slot), fX9_shelf_b64 RM x1 x2 x3 t0 vM_holdsWhat vM_holdsWhich vM_holdsMany = some o → va_P D vwCl (wMo K jM aM RM.s RM.held RM.aside RM.before RM.isHeld RM.tape RM.taped RM.token RM.frm RM.to RM.value RM.isWrong RM.unpaired RM.bestSound RM.bestWay RM.rows RM.rowN RM.sortOf RM.sizeOf RM.numbers vM_holdsWhat vM_holdsWhich vM_holdsMany RM.bodies RM.ran RM.actKind RM.actN RM.actA RM.isParted) H → va_D A (wMo K jM aM RM.s RM.held RM.aside RM.before RM.isHeld RM.tape RM.taped RM.token RM.frm RM.to RM.value RM.isWrong RM.unpaired RM.bestSound RM.bestWay RM.rows RM.rowN RM.sortOf RM.sizeOf RM.numbers vM_holdsWhat vM_holdsWhich vM_holdsMany RM.bodies RM.ran RM.actKind RM.actN RM.actA RM.isParted) → va_S A s.heap H locs → lv_has ls 5 [(0, .ref jM), (1, .int x1), (2, .int x2), (3, .int x3)] → W p l e (headSpec wsX9_shelf rmX9_shelf).room s m ([.ref jM, .int p0, .int p1, .int p2] : List Value).toArray below meth c H locs 0 0 Q (F0 m 64 ls [.int t0]) := by
    intro x1 x2 x3 t0 vM_holdsWhat vM_holdsWhich vM_holdsMany H locs ls hf hP hD hS hl
    delta fX9_shelf_b64 at hf
    refine lv_istore (lv' := [(4, .int t0), (0, .ref jM), (1, .int x1), (2, .int x2), (3, .int x3)]) hx hb dX9_shelf_64 hl (by decide) rfl (fun ls hl => ?_)
    refine lv_aload_n hx hb dX9_shelf_66 rfl (lv_at hl 1 rfl) ?_
    refine va_get (D := D) (ci := 9) (v := .ref (aM 11)) (C := RX9) (T := TX9) (N := 29) hx hb hts iw9 hown hK hP 0 rfl rfl 20 (by decide) kw5 (fun _ h9 => h9) rfl dX9_shelf_67 ?_
    refine lv_iload_n hx hb dX9_shelf_70 rfl (lv_at hl 2 rfl) ?_
    refine lv_iload_n hx hb dX9_shelf_71 rfl (lv_at hl 3 rfl) ?_
    refine lv_if_ne (tgt := 79) hx hb dX9_shelf_72 (by decide) (fun c_12 => ?_) (fun c_12 => ?_)
    · replace hf := ht_f c_12 hf
      refine lv_iload hx hb dX9_shelf_79 (lv_at hl 0 rfl) ?_
      refine lv_if_eq (tgt := 88) hx hb dX9_shelf_81 (by decide) (fun c_13 => ?_) (fun c_13 => ?_)
      · replace hf := ht_t c_13 hf
        refine lv_iconst (v := 0) hx hb dX9_shelf_88 (by decide) ?_
        exact b89  x1 x2 x3 t0 x1 (0 : Int32) vM_holdsWhat vM_holdsWhich vM_holdsMany _ _ _ hf hP hD hS (lv_sub hl [1, 2, 3, 4, 0] rfl)
      · replace hf := ht_f c_13 hf
        refine lv_iconst (v := 2) hx hb dX9_shelf_84 (by decide) ?_
        refine lv_goto (tgt := 89) hx hb dX9_shelf_85 (by decide) ?_
        exact b89  x1 x2 x3 t0 x1 (2 : Int32) vM_holdsWhat vM_holdsWhich vM_holdsMany _ _ _ hf hP hD hS (lv_sub hl [1, 2, 3, 4, 0] rfl)
    · replace hf := ht_t c_12 hf
      refine lv_iconst (v := 1) hx hb dX9_shelf_75 (by decide) ?_
      refine lv_goto (tgt := 89) hx hb dX9_shelf_76 (by decide) ?_
      exact b89  x1 x2 x3 t0 x1 (1 : Int32) vM_holdsWhat vM_holdsWhich vM_holdsMany _ _ _ hf hP hD hS (lv_sub hl [1, 2, 3, 4, 0] rfl)
  have b63 : ∀ (x1 : Int32) (x2 : Int32) (x3 : Int32) (vM_holdsWhat : AI) (vM_holdsWhich : AI) (vM_holdsMany : AI) (H : Heap) (locs : List Loc) (ls : Array Slot), fX9_shelf_b63 RM x1 x2 x3 vM_holdsWhat vM_holdsWhich vM_holdsMany = some o → va_P D vwCl (wMo K jM aM RM.s RM.held RM.aside RM.before RM.isHeld RM.tape RM.taped RM.token RM.frm RM.to RM.value RM.isWrong RM.unpaired RM.bestSound RM.bestWay RM.rows RM.rowN RM.sortOf RM.sizeOf RM.numbers vM_holdsWhat vM_holdsWhich vM_holdsMany RM.bodies RM.ran RM.actKind RM.actN RM.actA RM.isParted) H → va_D A (wMo K jM aM RM.s RM.held RM.aside RM.before RM.isHeld RM.tape RM.taped RM.token RM.frm RM.to RM.value RM.isWrong RM.unpaired RM.bestSound RM.bestWay RM.rows RM.rowN RM.sortOf RM.sizeOf RM.numbers vM_holdsWhat vM_holdsWhich vM_holdsMany RM.bodies RM.ran RM.actKind RM.actN RM.actA RM.isParted) → va_S A s.heap H locs → lv_has ls 5 [(0, .ref jM), (1, .int x1), (2, .int x2), (3, .int x3)] → W p l e (headSpec wsX9_shelf rmX9_shelf).room s m ([.ref jM, .int p0, .int p1, .int p2] : List Value).toArray below meth c H locs 0 0 Q (F0 m 63 ls []) := by
    intro x1 x2 x3 vM_holdsWhat vM_holdsWhich vM_holdsMany H locs ls hf hP hD hS hl
    delta fX9_shelf_b63 at hf
    refine lv_iconst (v := 0) hx hb dX9_shelf_63 (by decide) ?_
    exact b64  x1 x2 x3 (0 : Int32) vM_holdsWhat vM_holdsWhich vM_holdsMany _ _ _ hf hP hD hS hl
  have b45 : ∀ (x1 : Int32) (x2 : Int32) (x3 : Int32) (vM_holdsWhat : AI) (vM_holdsWhich : AI) (vM_holdsMany : AI) (H : Heap) (locs : List Loc) (ls : Array Slot), fX9_shelf_b45 RM x1 x2 x3 vM_holdsWhat vM_holdsWhich vM_holdsMany = some o → va_P D vwCl (wMo K jM aM RM.s RM.held RM.aside RM.before RM.isHeld RM.tape RM.taped RM.token RM.frm RM.to RM.value RM.isWrong RM.unpaired RM.bestSound RM.bestWay RM.rows RM.rowN RM.sortOf RM.sizeOf RM.numbers vM_holdsWhat vM_holdsWhich vM_holdsMany RM.bodies RM.ran RM.actKind RM.actN RM.actA RM.isParted) H → va_D A (wMo K jM aM RM.s RM.held RM.aside RM.before RM.isHeld RM.tape RM.taped RM.token RM.frm RM.to RM.value RM.isWrong RM.unpaired RM.bestSound RM.bestWay RM.rows RM.rowN RM.sortOf RM.sizeOf RM.numbers vM_holdsWhat vM_holdsWhich vM_holdsMany RM.bodies RM.ran RM.actKind RM.actN RM.actA RM.isParted) → va_S A s.heap H locs → lv_has ls 5 [(0, .ref jM), (1, .int x1), (2, .int x2), (3, .int x3)] → W p l e (headSpec wsX9_shelf rmX9_shelf).room s m ([.ref jM, .int p0, .int p1, .int p2] : List Value).toArray below meth c H locs 0 0 Q (F0 m 45 ls []) := by
    intro x1 x2 x3 vM_holdsWhat vM_holdsWhich vM_holdsMany H locs ls hf hP hD hS hl
    delta fX9_shelf_b45 at hf
    refine lv_iload_n hx hb dX9_shelf_45 rfl (lv_at hl 2 rfl) ?_
    refine lv_iconst (v := 1) hx hb dX9_shelf_46 (by decide) ?_
    refine lv_icmp_ne (tgt := 63) hx hb dX9_shelf_47 (by decide) (fun c_14 => ?_) (fun c_14 => ?_)
    · replace hf := ht_f c_14 hf
      exact b63  x1 x2 x3 vM_holdsWhat vM_holdsWhich vM_holdsMany _ _ _ hf hP hD hS hl
    · replace hf := ht_t c_14 hf
      refine lv_aload_n hx hb dX9_shelf_50 rfl (lv_at hl 0 rfl) ?_
      refine va_get (D := D) (ci := 9) (v := .ref (aM 8)) (C := RX9) (T := TX9) (N := 29) hx hb hts iw9 hown hK hP 0 rfl rfl 17 (by decide) kw4 (fun _ h9 => h9) rfl dX9_shelf_51 ?_
      refine lv_iload_n hx hb dX9_shelf_54 rfl (lv_at hl 3 rfl) ?_
      obtain ⟨g_15, hf⟩ := ht_gd_ob hf
      refine va_iald hx hb hK hP 9 1 rfl rfl (ht_ix_in g_15) dX9_shelf_55 ?_
      refine lv_if_lt (tgt := 63) hx hb dX9_shelf_56 (by decide) (fun c_16 => ?_) (fun c_16 => ?_)
      · replace hf := ht_t c_16 hf
        exact b63  x1 x2 x3 vM_holdsWhat vM_holdsWhich vM_holdsMany _ _ _ hf hP hD hS hl
      · replace hf := ht_f c_16 hf
        refine lv_iconst (v := 1) hx hb dX9_shelf_59 (by decide) ?_
        refine lv_goto (tgt := 64) hx hb dX9_shelf_60 (by decide) ?_
        exact b64  x1 x2 x3 (1 : Int32) vM_holdsWhat vM_holdsWhich vM_holdsMany _ _ _ hf hP hD hS hl
  have b31 : ∀ (x1 : Int32) (x2 : Int32) (x3 : Int32) (vM_holdsWhat : AI) (vM_holdsWhich : AI) (vM_holdsMany : AI) (H : Heap) (locs : List Loc) (ls : Array Slot), fX9_shelf_b31 RM x1 x2 x3 vM_holdsWhat vM_holdsWhich vM_holdsMany = some o → va_P D vwCl (wMo K jM aM RM.s RM.held RM.aside RM.before RM.isHeld RM.tape RM.taped RM.token RM.frm RM.to RM.value RM.isWrong RM.unpaired RM.bestSound RM.bestWay RM.rows RM.rowN RM.sortOf RM.sizeOf RM.numbers vM_holdsWhat vM_holdsWhich vM_holdsMany RM.bodies RM.ran RM.actKind RM.actN RM.actA RM.isParted) H → va_D A (wMo K jM aM RM.s RM.held RM.aside RM.before RM.isHeld RM.tape RM.taped RM.token RM.frm RM.to RM.value RM.isWrong RM.unpaired RM.bestSound RM.bestWay RM.rows RM.rowN RM.sortOf RM.sizeOf RM.numbers vM_holdsWhat vM_holdsWhich vM_holdsMany RM.bodies RM.ran RM.actKind RM.actN RM.actA RM.isParted) → va_S A s.heap H locs → lv_has ls 5 [(0, .ref jM), (1, .int x1), (2, .int x2), (3, .int x3)] → W p l e (headSpec wsX9_shelf rmX9_shelf).room s m ([.ref jM, .int p0, .int p1, .int p2] : List Value).toArray below meth c H locs 0 0 Q (F0 m 31 ls []) := by
    intro x1 x2 x3 vM_holdsWhat vM_holdsWhich vM_holdsMany H locs ls hf hP hD hS hl
    delta fX9_shelf_b31 at hf
    refine lv_iload_n hx hb dX9_shelf_31 rfl (lv_at hl 2 rfl) ?_
    refine lv_iconst (v := 1) hx hb dX9_shelf_32 (by decide) ?_
    refine lv_icmp_ne (tgt := 45) hx hb dX9_shelf_33 (by decide) (fun c_17 => ?_) (fun c_17 => ?_)
    · replace hf := ht_f c_17 hf
      exact b45  x1 x2 x3 vM_holdsWhat vM_holdsWhich vM_holdsMany _ _ _ hf hP hD hS hl
    · replace hf := ht_t c_17 hf
      refine lv_iload_n hx hb dX9_shelf_36 rfl (lv_at hl 3 rfl) ?_
      obtain ⟨o_18, ho_18, hf⟩ := ht_bn_ob hf
      refine ht_callSi (r := o_18) (rest := []) (As := [.int x3]) (wc := []) (wr := (wMo K jM aM RM.s RM.held RM.aside RM.before RM.isHeld RM.tape RM.taped RM.token RM.frm RM.to RM.value RM.isWrong RM.unpaired RM.bestSound RM.bestWay RM.rows RM.rowN RM.sortOf RM.sizeOf RM.numbers vM_holdsWhat vM_holdsWhich vM_holdsMany RM.bodies RM.ran RM.actKind RM.actN RM.actA RM.isParted)) (w1 := []) (w2 := (wMo K jM aM RM.s RM.held RM.aside RM.before RM.isHeld RM.tape RM.taped RM.token RM.frm RM.to RM.value RM.isWrong RM.unpaired RM.bestSound RM.bestWay RM.rows RM.rowN RM.sortOf RM.sizeOf RM.numbers vM_holdsWhat vM_holdsWhich vM_holdsMany RM.bodies RM.ran RM.actKind RM.actN RM.actA RM.isParted)) hF (ctX9_isSheet l D K x3 o_18 ho_18 H.size) (va_cwS 1 hts gX9_shelf_X9_isSheet rfl rfl rfl hdX9_isSheet ⟨Nat.le_of_ble_eq_true rfl, Nat.le_of_ble_eq_true rfl⟩) hK hP hD hS hA [] [0, 1, 2, 3, 4, 5, 6, 7, 8, 9, 10, 11, 12, 13, 14, 15] rfl rfl (by decide) (by decide) (by decide) [0, 1, 2, 3, 4, 5, 6, 7, 8, 9, 10, 11, 12, 13, 14, 15] rfl (by decide) rfl hl.1 rfl (Nat.le_of_ble_eq_true rfl) dX9_shelf_37 ⟨Nat.zero_le _, Nat.zero_le _⟩ (fun H locs hP hD hS => ?_)
      refine lv_if_ne (tgt := 45) hx hb dX9_shelf_40 (by decide) (fun c_19 => ?_) (fun c_19 => ?_)
      · replace hf := ht_f c_19 hf
        exact b45  x1 x2 x3 vM_holdsWhat vM_holdsWhich vM_holdsMany _ _ _ hf hP hD hS hl
      · replace hf := ht_t c_19 hf
        refine lv_iconst (v := -1) hx hb dX9_shelf_43 (by decide) ?_
        have ho := Option.some.inj hf
        subst ho; subst hQ
        exact ht_iret hx hb hr hlk rfl hK hP hD hS dX9_shelf_44
  delta fX9_shelf at hf
  refine lv_iload_n hx hb dX9_shelf_0 rfl (lv_at hl 1 rfl) ?_
  obtain ⟨o_20, ho_20, hf⟩ := ht_bn_ob hf
  refine ht_callSi (r := o_20) (rest := []) (As := [.int p0]) (wc := []) (wr := (wMo K jM aM RM.s RM.held RM.aside RM.before RM.isHeld RM.tape RM.taped RM.token RM.frm RM.to RM.value RM.isWrong RM.unpaired RM.bestSound RM.bestWay RM.rows RM.rowN RM.sortOf RM.sizeOf RM.numbers RM.holdsWhat RM.holdsWhich RM.holdsMany RM.bodies RM.ran RM.actKind RM.actN RM.actA RM.isParted)) (w1 := []) (w2 := (wMo K jM aM RM.s RM.held RM.aside RM.before RM.isHeld RM.tape RM.taped RM.token RM.frm RM.to RM.value RM.isWrong RM.unpaired RM.bestSound RM.bestWay RM.rows RM.rowN RM.sortOf RM.sizeOf RM.numbers RM.holdsWhat RM.holdsWhich RM.holdsMany RM.bodies RM.ran RM.actKind RM.actN RM.actA RM.isParted)) hF (ctX9_isShelf l D K p0 o_20 ho_20 H.size) (va_cwS 1 hts gX9_shelf_X9_isShelf rfl rfl rfl hdX9_isShelf ⟨Nat.le_of_ble_eq_true rfl, Nat.le_of_ble_eq_true rfl⟩) hK hP hD hS hA [] [0, 1, 2, 3, 4, 5, 6, 7, 8, 9, 10, 11, 12, 13, 14, 15] rfl rfl (by decide) (by decide) (by decide) [0, 1, 2, 3, 4, 5, 6, 7, 8, 9, 10, 11, 12, 13, 14, 15] rfl (by decide) rfl hl.1 rfl (Nat.le_of_ble_eq_true rfl) dX9_shelf_1 ⟨Nat.zero_le _, Nat.zero_le _⟩ (fun H locs hP hD hS => ?_)
  refine lv_if_eq (tgt := 43) hx hb dX9_shelf_4 (by decide) (fun c_21 => ?_) (fun c_21 => ?_)
  · replace hf := ht_t c_21 hf
    refine lv_iconst (v := -1) hx hb dX9_shelf_43 (by decide) ?_
    have ho := Option.some.inj hf
    subst ho; subst hQ
    exact ht_iret hx hb hr hlk rfl hK hP hD hS dX9_shelf_44
  · replace hf := ht_f c_21 hf
    refine lv_iload_n hx hb dX9_shelf_7 rfl (lv_at hl 2 rfl) ?_
    refine lv_i2l hx hb dX9_shelf_8 rfl ?_
    refine lv_lconst (v := 0) hx hb dX9_shelf_9 (by decide) ?_
    refine lv_ldc2 hx hb hown kw6 dX9_shelf_10 ?_
    obtain ⟨o_22, ho_22, hf⟩ := ht_bn_ob hf
    refine ht_callSi (r := o_22) (rest := []) (As := [.long p1.toInt64, .long (0 : Int64), .long (2 : Int64)]) (wc := []) (wr := (wMo K jM aM RM.s RM.held RM.aside RM.before RM.isHeld RM.tape RM.taped RM.token RM.frm RM.to RM.value RM.isWrong RM.unpaired RM.bestSound RM.bestWay RM.rows RM.rowN RM.sortOf RM.sizeOf RM.numbers RM.holdsWhat RM.holdsWhich RM.holdsMany RM.bodies RM.ran RM.actKind RM.actN RM.actA RM.isParted)) (w1 := []) (w2 := (wMo K jM aM RM.s RM.held RM.aside RM.before RM.isHeld RM.tape RM.taped RM.token RM.frm RM.to RM.value RM.isWrong RM.unpaired RM.bestSound RM.bestWay RM.rows RM.rowN RM.sortOf RM.sizeOf RM.numbers RM.holdsWhat RM.holdsWhich RM.holdsMany RM.bodies RM.ran RM.actKind RM.actN RM.actA RM.isParted)) hF (ctX9_isIn l D K p1.toInt64 (0 : Int64) (2 : Int64) o_22 ho_22 H.size) (va_cwS 3 hts gX9_shelf_X9_isIn rfl rfl rfl hdX9_isIn ⟨Nat.le_of_ble_eq_true rfl, Nat.le_of_ble_eq_true rfl⟩) hK hP hD hS hA [] [0, 1, 2, 3, 4, 5, 6, 7, 8, 9, 10, 11, 12, 13, 14, 15] rfl rfl (by decide) (by decide) (by decide) [0, 1, 2, 3, 4, 5, 6, 7, 8, 9, 10, 11, 12, 13, 14, 15] rfl (by decide) rfl hl.1 rfl (Nat.le_of_ble_eq_true rfl) dX9_shelf_13 ⟨Nat.zero_le _, Nat.zero_le _⟩ (fun H locs hP hD hS => ?_)
    refine lv_if_eq (tgt := 43) hx hb dX9_shelf_16 (by decide) (fun c_23 => ?_) (fun c_23 => ?_)
    · replace hf := ht_t c_23 hf
      refine lv_iconst (v := -1) hx hb dX9_shelf_43 (by decide) ?_
      have ho := Option.some.inj hf
      subst ho; subst hQ
      exact ht_iret hx hb hr hlk rfl hK hP hD hS dX9_shelf_44
    · replace hf := ht_f c_23 hf
      refine lv_iload_n hx hb dX9_shelf_19 rfl (lv_at hl 2 rfl) ?_
      refine lv_if_ne (tgt := 31) hx hb dX9_shelf_20 (by decide) (fun c_24 => ?_) (fun c_24 => ?_)
      · replace hf := ht_f c_24 hf
        exact b31  p0 p1 p2 RM.holdsWhat RM.holdsWhich RM.holdsMany _ _ _ hf hP hD hS hl
      · replace hf := ht_t c_24 hf
        refine lv_aload_n hx hb dX9_shelf_23 rfl (lv_at hl 0 rfl) ?_
        refine lv_iload_n hx hb dX9_shelf_24 rfl (lv_at hl 3 rfl) ?_
        obtain ⟨o_25, ho_25, hf⟩ := ht_bn_ob hf
        refine ht_callVi (r := o_25) (rest := []) (As := [.int p2]) (wc := (wMo K jM aM RM.s RM.held RM.aside RM.before RM.isHeld RM.tape RM.taped RM.token RM.frm RM.to RM.value RM.isWrong RM.unpaired RM.bestSound RM.bestWay RM.rows RM.rowN RM.sortOf RM.sizeOf RM.numbers RM.holdsWhat RM.holdsWhich RM.holdsMany RM.bodies RM.ran RM.actKind RM.actN RM.actA RM.isParted)) (wr := []) (w1 := (wMo K jM aM RM.s RM.held RM.aside RM.before RM.isHeld RM.tape RM.taped RM.token RM.frm RM.to RM.value RM.isWrong RM.unpaired RM.bestSound RM.bestWay RM.rows RM.rowN RM.sortOf RM.sizeOf RM.numbers RM.holdsWhat RM.holdsWhich RM.holdsMany RM.bodies RM.ran RM.actKind RM.actN RM.actA RM.isParted)) (w2 := (wMo K jM aM RM.s RM.held RM.aside RM.before RM.isHeld RM.tape RM.taped RM.token RM.frm RM.to RM.value RM.isWrong RM.unpaired RM.bestSound RM.bestWay RM.rows RM.rowN RM.sortOf RM.sizeOf RM.numbers RM.holdsWhat RM.holdsWhich RM.holdsMany RM.bodies RM.ran RM.actKind RM.actN RM.actA RM.isParted)) hF (ctX9_isOne l D K jM aM RM p2 o_25 ho_25 H.size) (cwV 1 hts gX9_shelf_X9_isOne rfl rfl rfl hdX9_isOne ⟨Nat.le_of_ble_eq_true rfl, Nat.le_of_ble_eq_true rfl⟩) hK hP hD hS hA [0, 1, 2, 3, 4, 5, 6, 7, 8, 9, 10, 11, 12, 13, 14, 15] [] rfl rfl (by decide) (by decide) (by decide) [0, 1, 2, 3, 4, 5, 6, 7, 8, 9, 10, 11, 12, 13, 14, 15] rfl (by decide) (va_recv hK hP (ci := 9) (q0 := 0) rfl rfl) rfl hl.1 rfl (Nat.le_of_ble_eq_true rfl) dX9_shelf_25 ⟨Nat.zero_le _, Nat.zero_le _⟩ (fun H locs hP hD hS => ?_)
        refine lv_if_eq (tgt := 43) hx hb dX9_shelf_28 (by decide) (fun c_26 => ?_) (fun c_26 => ?_)
        · replace hf := ht_t c_26 hf
          refine lv_iconst (v := -1) hx hb dX9_shelf_43 (by decide) ?_
          have ho := Option.some.inj hf
          subst ho; subst hQ
          exact ht_iret hx hb hr hlk rfl hK hP hD hS dX9_shelf_44
        · replace hf := ht_f c_26 hf
          exact b31  p0 p1 p2 RM.holdsWhat RM.holdsWhich RM.holdsMany _ _ _ hf hP hD hS hl
abbrev rmX9_heldOn : Room := { frames := 1, cells := 0, slots := 0, locals := 21 }
theorem hdX9_heldOn : yX9_heldOn.cls = RX9 ∧ yX9_heldOn.cls ≠ "java/lang/invoke/MethodHandle" ∧ yX9_heldOn.cls ≠ "java/lang/invoke/VarHandle" ∧ (parseMethodDescriptor yX9_heldOn.desc).map (fun d => d.parameters.length) = some 1 := by decide +kernel
def fX9_heldOn_b27 (RM : ModV) (x1 : Int32) : Option Int32 := ht_gd (ht_ix x1 4) (some (RM.holdsWhat x1.toNatClampNeg))
def fX9_heldOn (RM : ModV) (p0 : Int32) : Option Int32 := ht_gd (ht_ix p0 4) (if (RM.holdsWhat p0.toNatClampNeg) = (1 : Int32) then (ht_gd (ht_ix p0 4) (ht_bn (fX9_isOne RM (RM.holdsWhich p0.toNatClampNeg)) (fun o_5 => if o_5 = 0 then (some (0 : Int32)) else (fX9_heldOn_b27 RM p0)))) else (fX9_heldOn_b27 RM p0))
set_option maxHeartbeats 1000000 in
set_option maxRecDepth 100000 in
theorem ctX9_heldOn (l : Launch) (D : va_G) (K : Nat → ClassId) (jM : Nat) (aM : Nat → Nat) (RM : ModV) (p0 : Int32) (o : Int32) (hf : fX9_heldOn RM p0 = some o) (sz : Nat) : Met l yX9_heldOn wsX9_heldOn rmX9_heldOn (ht_Pre D K [.ref jM, .int p0] (wMo K jM aM RM.s RM.held RM.aside RM.before RM.isHeld RM.tape RM.taped RM.token RM.frm RM.to RM.value RM.isWrong RM.unpaired RM.bestSound RM.bestWay RM.rows RM.rowN RM.sortOf RM.sizeOf RM.numbers RM.holdsWhat RM.holdsWhich RM.holdsMany RM.bodies RM.ran RM.actKind RM.actN RM.actA RM.isParted) sz) (ht_Qi D K (wMo K jM aM RM.s RM.held RM.aside RM.before RM.isHeld RM.tape RM.taped RM.token RM.frm RM.to RM.value RM.isWrong RM.unpaired RM.bestSound RM.bestWay RM.rows RM.rowN RM.sortOf RM.sizeOf RM.numbers RM.holdsWhat RM.holdsWhich RM.holdsMany RM.bodies RM.ran RM.actKind RM.actN RM.actA RM.isParted) o (va_A (wMo K jM aM RM.s RM.held RM.aside RM.before RM.isHeld RM.tape RM.taped RM.token RM.frm RM.to RM.value RM.isWrong RM.unpaired RM.bestSound RM.bestWay RM.rows RM.rowN RM.sortOf RM.sizeOf RM.numbers RM.holdsWhat RM.holdsWhich RM.holdsMany RM.bodies RM.ran RM.actKind RM.actN RM.actA RM.isParted) sz)) 0 0 (va_A (wMo K jM aM RM.s RM.held RM.aside RM.before RM.isHeld RM.tape RM.taped RM.token RM.frm RM.to RM.value RM.isWrong RM.unpaired RM.bestSound RM.bestWay RM.rows RM.rowN RM.sortOf RM.sizeOf RM.numbers RM.holdsWhat RM.holdsWhich RM.holdsMany RM.bodies RM.ran RM.actKind RM.actN RM.actA RM.isParted) sz) := by
  refine ht_enter (Qf := ht_Qi D K (wMo K jM aM RM.s RM.held RM.aside RM.before RM.isHeld RM.tape RM.taped RM.token RM.frm RM.to RM.value RM.isWrong RM.unpaired RM.bestSound RM.bestWay RM.rows RM.rowN RM.sortOf RM.sizeOf RM.numbers RM.holdsWhat RM.holdsWhich RM.holdsMany RM.bodies RM.ran RM.actKind RM.actN RM.actA RM.isParted) o) (cc := cX9_heldOn) (maxL := 2) (rt := (some .int)) (by decide) rfl (Nat.le_of_ble_eq_true rfl) ?_ sz
  intro p e s m below meth c A Q H locs ls hQ hx hb hr hlk hmn hml hown hts hA hK hP hD hS hl
  have hown : s.vm.findClass RX9 = some m.cls := hown
  have hF : CallFix p m c cX9_heldOn 2 s ([.ref jM, .int p0] : List Value).toArray wsX9_heldOn RX9 := ⟨hx, hb, hml, hown, hts⟩
  have hl : lv_has ls 2 [(0, .ref jM), (1, .int p0)] := hl
  have iw9 : ∀ w ∈ u_ws RX9 TX9 29, w ∈ wsX9_heldOn := by decide +kernel
  have kw1 := hts (.fieldLink RX9 43 "HeldTonguesModel" "holdsWhat" "[I") (by decide +kernel)
  have kw2 := hts (.fieldLink RX9 46 "HeldTonguesModel" "holdsWhich" "[I") (by decide +kernel)
  have b27 : ∀ (x1 : Int32) (H : Heap) (locs : List Loc) (ls : Array Slot), fX9_heldOn_b27 RM x1 = some o → va_P D vwCl (wMo K jM aM RM.s RM.held RM.aside RM.before RM.isHeld RM.tape RM.taped RM.token RM.frm RM.to RM.value RM.isWrong RM.unpaired RM.bestSound RM.bestWay RM.rows RM.rowN RM.sortOf RM.sizeOf RM.numbers RM.holdsWhat RM.holdsWhich RM.holdsMany RM.bodies RM.ran RM.actKind RM.actN RM.actA RM.isParted) H → va_D A (wMo K jM aM RM.s RM.held RM.aside RM.before RM.isHeld RM.tape RM.taped RM.token RM.frm RM.to RM.value RM.isWrong RM.unpaired RM.bestSound RM.bestWay RM.rows RM.rowN RM.sortOf RM.sizeOf RM.numbers RM.holdsWhat RM.holdsWhich RM.holdsMany RM.bodies RM.ran RM.actKind RM.actN RM.actA RM.isParted) → va_S A s.heap H locs → lv_has ls 2 [(0, .ref jM), (1, .int x1)] → W p l e (headSpec wsX9_heldOn rmX9_heldOn).room s m ([.ref jM, .int p0] : List Value).toArray below meth c H locs 0 0 Q (F0 m 27 ls []) := by
    intro x1 H locs ls hf hP hD hS hl
    delta fX9_heldOn_b27 at hf
    refine lv_aload_n hx hb dX9_heldOn_27 rfl (lv_at hl 0 rfl) ?_
    refine va_get (D := D) (ci := 9) (v := .ref (aM 11)) (C := RX9) (T := TX9) (N := 29) hx hb hts iw9 hown hK hP 0 rfl rfl 20 (by decide) kw1 (fun _ h9 => h9) rfl dX9_heldOn_28 ?_
    refine lv_iload_n hx hb dX9_heldOn_31 rfl (lv_at hl 1 rfl) ?_
    obtain ⟨g_1, hf⟩ := ht_gd_ob hf
    refine va_iald hx hb hK hP 12 1 rfl rfl (ht_ix_in g_1) dX9_heldOn_32 ?_
    have ho := Option.some.inj hf
    subst ho; subst hQ
    exact ht_iret hx hb hr hlk rfl hK hP hD hS dX9_heldOn_33
  delta fX9_heldOn at hf
  refine lv_aload_n hx hb dX9_heldOn_0 rfl (lv_at hl 0 rfl) ?_
  refine va_get (D := D) (ci := 9) (v := .ref (aM 11)) (C := RX9) (T := TX9) (N := 29) hx hb hts iw9 hown hK hP 0 rfl rfl 20 (by decide) kw1 (fun _ h9 => h9) rfl dX9_heldOn_1 ?_
  refine lv_iload_n hx hb dX9_heldOn_4 rfl (lv_at hl 1 rfl) ?_
  obtain ⟨g_2, hf⟩ := ht_gd_ob hf
  refine va_iald hx hb hK hP 12 1 rfl rfl (ht_ix_in g_2) dX9_heldOn_5 ?_
  refine lv_iconst (v := 1) hx hb dX9_heldOn_6 (by decide) ?_
  refine lv_icmp_ne (tgt := 27) hx hb dX9_heldOn_7 (by decide) (fun c_3 => ?_) (fun c_3 => ?_)
  · replace hf := ht_f c_3 hf
    exact b27  p0 _ _ _ hf hP hD hS hl
  · replace hf := ht_t c_3 hf
    refine lv_aload_n hx hb dX9_heldOn_10 rfl (lv_at hl 0 rfl) ?_
    refine lv_aload_n hx hb dX9_heldOn_11 rfl (lv_at hl 0 rfl) ?_
    refine va_get (D := D) (ci := 9) (v := .ref (aM 12)) (C := RX9) (T := TX9) (N := 29) hx hb hts iw9 hown hK hP 0 rfl rfl 21 (by decide) kw2 (fun _ h9 => h9) rfl dX9_heldOn_12 ?_
    refine lv_iload_n hx hb dX9_heldOn_15 rfl (lv_at hl 1 rfl) ?_
    obtain ⟨g_4, hf⟩ := ht_gd_ob hf
    refine va_iald hx hb hK hP 13 1 rfl rfl (ht_ix_in g_4) dX9_heldOn_16 ?_
    obtain ⟨o_5, ho_5, hf⟩ := ht_bn_ob hf
    refine ht_callVi (r := o_5) (rest := []) (As := [.int (RM.holdsWhich p0.toNatClampNeg)]) (wc := (wMo K jM aM RM.s RM.held RM.aside RM.before RM.isHeld RM.tape RM.taped RM.token RM.frm RM.to RM.value RM.isWrong RM.unpaired RM.bestSound RM.bestWay RM.rows RM.rowN RM.sortOf RM.sizeOf RM.numbers RM.holdsWhat RM.holdsWhich RM.holdsMany RM.bodies RM.ran RM.actKind RM.actN RM.actA RM.isParted)) (wr := []) (w1 := (wMo K jM aM RM.s RM.held RM.aside RM.before RM.isHeld RM.tape RM.taped RM.token RM.frm RM.to RM.value RM.isWrong RM.unpaired RM.bestSound RM.bestWay RM.rows RM.rowN RM.sortOf RM.sizeOf RM.numbers RM.holdsWhat RM.holdsWhich RM.holdsMany RM.bodies RM.ran RM.actKind RM.actN RM.actA RM.isParted)) (w2 := (wMo K jM aM RM.s RM.held RM.aside RM.before RM.isHeld RM.tape RM.taped RM.token RM.frm RM.to RM.value RM.isWrong RM.unpaired RM.bestSound RM.bestWay RM.rows RM.rowN RM.sortOf RM.sizeOf RM.numbers RM.holdsWhat RM.holdsWhich RM.holdsMany RM.bodies RM.ran RM.actKind RM.actN RM.actA RM.isParted)) hF (ctX9_isOne l D K jM aM RM (RM.holdsWhich p0.toNatClampNeg) o_5 ho_5 H.size) (cwV 1 hts gX9_heldOn_X9_isOne rfl rfl rfl hdX9_isOne ⟨Nat.le_of_ble_eq_true rfl, Nat.le_of_ble_eq_true rfl⟩) hK hP hD hS hA [0, 1, 2, 3, 4, 5, 6, 7, 8, 9, 10, 11, 12, 13, 14, 15] [] rfl rfl (by decide) (by decide) (by decide) [0, 1, 2, 3, 4, 5, 6, 7, 8, 9, 10, 11, 12, 13, 14, 15] rfl (by decide) (va_recv hK hP (ci := 9) (q0 := 0) rfl rfl) rfl hl.1 rfl (Nat.le_of_ble_eq_true rfl) dX9_heldOn_17 ⟨Nat.zero_le _, Nat.zero_le _⟩ (fun H locs hP hD hS => ?_)
    refine lv_if_ne (tgt := 27) hx hb dX9_heldOn_20 (by decide) (fun c_6 => ?_) (fun c_6 => ?_)
    · replace hf := ht_f c_6 hf
      exact b27  p0 _ _ _ hf hP hD hS hl
    · replace hf := ht_t c_6 hf
      refine lv_iconst (v := 0) hx hb dX9_heldOn_23 (by decide) ?_
      refine lv_goto (tgt := 33) hx hb dX9_heldOn_24 (by decide) ?_
      have ho := Option.some.inj hf
      subst ho; subst hQ
      exact ht_iret hx hb hr hlk rfl hK hP hD hS dX9_heldOn_33
abbrev rmX9_taken : Room := { frames := 2, cells := 0, slots := 0, locals := 45 }
theorem hdX9_taken : yX9_taken.cls = RX9 ∧ yX9_taken.cls ≠ "java/lang/invoke/MethodHandle" ∧ yX9_taken.cls ≠ "java/lang/invoke/VarHandle" ∧ (parseMethodDescriptor yX9_taken.desc).map (fun d => d.parameters.length) = some 2 := by decide +kernel
def fX9_taken (RM : ModV) (p0 : Int32) (p1 : Int32) : Option Int32 := ht_bn (fX9_isShelf p0) (fun o_1 => if o_1 = 0 then (some (-1 : Int32)) else (ht_bn (fX9_isIn p1.toInt64 (0 : Int64) (13 : Int64)) (fun o_3 => if o_3 = 0 then (some (-1 : Int32)) else (ht_bn (fX9_isIn p1.toInt64 (6 : Int64) (9 : Int64)) (fun o_5 => if o_5 = 0 then (ht_bn (fX9_heldOn RM p0) (fun o_7 => if o_7 = 0 then (some (-11 : Int32)) else (if (10 : Int32) ≤ p1 then (if o_7 = (2 : Int32) then (ht_gd (ht_ix p0 4) (if (RM.holdsWhich p0.toNatClampNeg) = (p1 - (10 : Int32)) then (ht_gd (ht_ix p0 4) (some (RM.holdsMany p0.toNatClampNeg))) else (some (-13 : Int32)))) else (some (-13 : Int32))) else (if o_7 = (1 : Int32) then (ht_gd (ht_ix p0 4) (ht_bn (fX9_its RM (RM.holdsWhich p0.toNatClampNeg) (0 : Int32)) (fun o_16 => ht_bn (fX9_isUnder o_16 p1) (fun o_17 => if o_17 = 0 then (some (-13 : Int32)) else (ht_gd (ht_ix p0 4) (some (RM.holdsWhich p0.toNatClampNeg))))))) else (some (-13 : Int32)))))) else (some (-1 : Int32)))))))
set_option maxHeartbeats 1000000 in
set_option maxRecDepth 100000 in
theorem ctX9_taken (l : Launch) (D : va_G) (K : Nat → ClassId) (jM : Nat) (aM : Nat → Nat) (RM : ModV) (p0 : Int32) (p1 : Int32) (o : Int32) (hf : fX9_taken RM p0 p1 = some o) (sz : Nat) : Met l yX9_taken wsX9_taken rmX9_taken (ht_Pre D K [.ref jM, .int p0, .int p1] (wMo K jM aM RM.s RM.held RM.aside RM.before RM.isHeld RM.tape RM.taped RM.token RM.frm RM.to RM.value RM.isWrong RM.unpaired RM.bestSound RM.bestWay RM.rows RM.rowN RM.sortOf RM.sizeOf RM.numbers RM.holdsWhat RM.holdsWhich RM.holdsMany RM.bodies RM.ran RM.actKind RM.actN RM.actA RM.isParted) sz) (ht_Qi D K (wMo K jM aM RM.s RM.held RM.aside RM.before RM.isHeld RM.tape RM.taped RM.token RM.frm RM.to RM.value RM.isWrong RM.unpaired RM.bestSound RM.bestWay RM.rows RM.rowN RM.sortOf RM.sizeOf RM.numbers RM.holdsWhat RM.holdsWhich RM.holdsMany RM.bodies RM.ran RM.actKind RM.actN RM.actA RM.isParted) o (va_A (wMo K jM aM RM.s RM.held RM.aside RM.before RM.isHeld RM.tape RM.taped RM.token RM.frm RM.to RM.value RM.isWrong RM.unpaired RM.bestSound RM.bestWay RM.rows RM.rowN RM.sortOf RM.sizeOf RM.numbers RM.holdsWhat RM.holdsWhich RM.holdsMany RM.bodies RM.ran RM.actKind RM.actN RM.actA RM.isParted) sz)) 0 0 (va_A (wMo K jM aM RM.s RM.held RM.aside RM.before RM.isHeld RM.tape RM.taped RM.token RM.frm RM.to RM.value RM.isWrong RM.unpaired RM.bestSound RM.bestWay RM.rows RM.rowN RM.sortOf RM.sizeOf RM.numbers RM.holdsWhat RM.holdsWhich RM.holdsMany RM.bodies RM.ran RM.actKind RM.actN RM.actA RM.isParted) sz) := by
  refine ht_enter (Qf := ht_Qi D K (wMo K jM aM RM.s RM.held RM.aside RM.before RM.isHeld RM.tape RM.taped RM.token RM.frm RM.to RM.value RM.isWrong RM.unpaired RM.bestSound RM.bestWay RM.rows RM.rowN RM.sortOf RM.sizeOf RM.numbers RM.holdsWhat RM.holdsWhich RM.holdsMany RM.bodies RM.ran RM.actKind RM.actN RM.actA RM.isParted) o) (cc := cX9_taken) (maxL := 4) (rt := (some .int)) (by decide) rfl (Nat.le_of_ble_eq_true rfl) ?_ sz
  intro p e s m below meth c A Q H locs ls hQ hx hb hr hlk hmn hml hown hts hA hK hP hD hS hl
  have hown : s.vm.findClass RX9 = some m.cls := hown
  have hF : CallFix p m c cX9_taken 4 s ([.ref jM, .int p0, .int p1] : List Value).toArray wsX9_taken RX9 := ⟨hx, hb, hml, hown, hts⟩
  have hl : lv_has ls 4 [(0, .ref jM), (1, .int p0), (2, .int p1)] := hl
  have kw0 := hts (.constantLong RX9 284 (13)) (by decide +kernel)
  have kw1 := hts (.constantLong RX9 286 (6)) (by decide +kernel)
  have kw2 := hts (.constantLong RX9 164 (9)) (by decide +kernel)
  have iw9 : ∀ w ∈ u_ws RX9 TX9 29, w ∈ wsX9_taken := by decide +kernel
  have kw4 := hts (.fieldLink RX9 46 "HeldTonguesModel" "holdsWhich" "[I") (by decide +kernel)
  have kw5 := hts (.fieldLink RX9 49 "HeldTonguesModel" "holdsMany" "[I") (by decide +kernel)
  delta fX9_taken at hf
  refine lv_iload_n hx hb dX9_taken_0 rfl (lv_at hl 1 rfl) ?_
  obtain ⟨o_1, ho_1, hf⟩ := ht_bn_ob hf
  refine ht_callSi (r := o_1) (rest := []) (As := [.int p0]) (wc := []) (wr := (wMo K jM aM RM.s RM.held RM.aside RM.before RM.isHeld RM.tape RM.taped RM.token RM.frm RM.to RM.value RM.isWrong RM.unpaired RM.bestSound RM.bestWay RM.rows RM.rowN RM.sortOf RM.sizeOf RM.numbers RM.holdsWhat RM.holdsWhich RM.holdsMany RM.bodies RM.ran RM.actKind RM.actN RM.actA RM.isParted)) (w1 := []) (w2 := (wMo K jM aM RM.s RM.held RM.aside RM.before RM.isHeld RM.tape RM.taped RM.token RM.frm RM.to RM.value RM.isWrong RM.unpaired RM.bestSound RM.bestWay RM.rows RM.rowN RM.sortOf RM.sizeOf RM.numbers RM.holdsWhat RM.holdsWhich RM.holdsMany RM.bodies RM.ran RM.actKind RM.actN RM.actA RM.isParted)) hF (ctX9_isShelf l D K p0 o_1 ho_1 H.size) (va_cwS 1 hts gX9_taken_X9_isShelf rfl rfl rfl hdX9_isShelf ⟨Nat.le_of_ble_eq_true rfl, Nat.le_of_ble_eq_true rfl⟩) hK hP hD hS hA [] [0, 1, 2, 3, 4, 5, 6, 7, 8, 9, 10, 11, 12, 13, 14, 15] rfl rfl (by decide) (by decide) (by decide) [0, 1, 2, 3, 4, 5, 6, 7, 8, 9, 10, 11, 12, 13, 14, 15] rfl (by decide) rfl hl.1 rfl (Nat.le_of_ble_eq_true rfl) dX9_taken_1 ⟨Nat.zero_le _, Nat.zero_le _⟩ (fun H locs hP hD hS => ?_)
  refine lv_if_eq (tgt := 33) hx hb dX9_taken_4 (by decide) (fun c_2 => ?_) (fun c_2 => ?_)
  · replace hf := ht_t c_2 hf
    refine lv_iconst (v := -1) hx hb dX9_taken_33 (by decide) ?_
    have ho := Option.some.inj hf
    subst ho; subst hQ
    exact ht_iret hx hb hr hlk rfl hK hP hD hS dX9_taken_34
  · replace hf := ht_f c_2 hf
    refine lv_iload_n hx hb dX9_taken_7 rfl (lv_at hl 2 rfl) ?_
    refine lv_i2l hx hb dX9_taken_8 rfl ?_
    refine lv_lconst (v := 0) hx hb dX9_taken_9 (by decide) ?_
    refine lv_ldc2 hx hb hown kw0 dX9_taken_10 ?_
    obtain ⟨o_3, ho_3, hf⟩ := ht_bn_ob hf
    refine ht_callSi (r := o_3) (rest := []) (As := [.long p1.toInt64, .long (0 : Int64), .long (13 : Int64)]) (wc := []) (wr := (wMo K jM aM RM.s RM.held RM.aside RM.before RM.isHeld RM.tape RM.taped RM.token RM.frm RM.to RM.value RM.isWrong RM.unpaired RM.bestSound RM.bestWay RM.rows RM.rowN RM.sortOf RM.sizeOf RM.numbers RM.holdsWhat RM.holdsWhich RM.holdsMany RM.bodies RM.ran RM.actKind RM.actN RM.actA RM.isParted)) (w1 := []) (w2 := (wMo K jM aM RM.s RM.held RM.aside RM.before RM.isHeld RM.tape RM.taped RM.token RM.frm RM.to RM.value RM.isWrong RM.unpaired RM.bestSound RM.bestWay RM.rows RM.rowN RM.sortOf RM.sizeOf RM.numbers RM.holdsWhat RM.holdsWhich RM.holdsMany RM.bodies RM.ran RM.actKind RM.actN RM.actA RM.isParted)) hF (ctX9_isIn l D K p1.toInt64 (0 : Int64) (13 : Int64) o_3 ho_3 H.size) (va_cwS 3 hts gX9_taken_X9_isIn rfl rfl rfl hdX9_isIn ⟨Nat.le_of_ble_eq_true rfl, Nat.le_of_ble_eq_true rfl⟩) hK hP hD hS hA [] [0, 1, 2, 3, 4, 5, 6, 7, 8, 9, 10, 11, 12, 13, 14, 15] rfl rfl (by decide) (by decide) (by decide) [0, 1, 2, 3, 4, 5, 6, 7, 8, 9, 10, 11, 12, 13, 14, 15] rfl (by decide) rfl hl.1 rfl (Nat.le_of_ble_eq_true rfl) dX9_taken_13 ⟨Nat.zero_le _, Nat.zero_le _⟩ (fun H locs hP hD hS => ?_)
    refine lv_if_eq (tgt := 33) hx hb dX9_taken_16 (by decide) (fun c_4 => ?_) (fun c_4 => ?_)
    · replace hf := ht_t c_4 hf
      refine lv_iconst (v := -1) hx hb dX9_taken_33 (by decide) ?_
      have ho := Option.some.inj hf
      subst ho; subst hQ
      exact ht_iret hx hb hr hlk rfl hK hP hD hS dX9_taken_34
    · replace hf := ht_f c_4 hf
      refine lv_iload_n hx hb dX9_taken_19 rfl (lv_at hl 2 rfl) ?_
      refine lv_i2l hx hb dX9_taken_20 rfl ?_
      refine lv_ldc2 hx hb hown kw1 dX9_taken_21 ?_
      refine lv_ldc2 hx hb hown kw2 dX9_taken_24 ?_
      obtain ⟨o_5, ho_5, hf⟩ := ht_bn_ob hf
      refine ht_callSi (r := o_5) (rest := []) (As := [.long p1.toInt64, .long (6 : Int64), .long (9 : Int64)]) (wc := []) (wr := (wMo K jM aM RM.s RM.held RM.aside RM.before RM.isHeld RM.tape RM.taped RM.token RM.frm RM.to RM.value RM.isWrong RM.unpaired RM.bestSound RM.bestWay RM.rows RM.rowN RM.sortOf RM.sizeOf RM.numbers RM.holdsWhat RM.holdsWhich RM.holdsMany RM.bodies RM.ran RM.actKind RM.actN RM.actA RM.isParted)) (w1 := []) (w2 := (wMo K jM aM RM.s RM.held RM.aside RM.before RM.isHeld RM.tape RM.taped RM.token RM.frm RM.to RM.value RM.isWrong RM.unpaired RM.bestSound RM.bestWay RM.rows RM.rowN RM.sortOf RM.sizeOf RM.numbers RM.holdsWhat RM.holdsWhich RM.holdsMany RM.bodies RM.ran RM.actKind RM.actN RM.actA RM.isParted)) hF (ctX9_isIn l D K p1.toInt64 (6 : Int64) (9 : Int64) o_5 ho_5 H.size) (va_cwS 3 hts gX9_taken_X9_isIn rfl rfl rfl hdX9_isIn ⟨Nat.le_of_ble_eq_true rfl, Nat.le_of_ble_eq_true rfl⟩) hK hP hD hS hA [] [0, 1, 2, 3, 4, 5, 6, 7, 8, 9, 10, 11, 12, 13, 14, 15] rfl rfl (by decide) (by decide) (by decide) [0, 1, 2, 3, 4, 5, 6, 7, 8, 9, 10, 11, 12, 13, 14, 15] rfl (by decide) rfl hl.1 rfl (Nat.le_of_ble_eq_true rfl) dX9_taken_27 ⟨Nat.zero_le _, Nat.zero_le _⟩ (fun H locs hP hD hS => ?_)
      refine lv_if_eq (tgt := 35) hx hb dX9_taken_30 (by decide) (fun c_6 => ?_) (fun c_6 => ?_)
      · replace hf := ht_t c_6 hf
        refine lv_aload_n hx hb dX9_taken_35 rfl (lv_at hl 0 rfl) ?_
        refine lv_iload_n hx hb dX9_taken_36 rfl (lv_at hl 1 rfl) ?_
        obtain ⟨o_7, ho_7, hf⟩ := ht_bn_ob hf
        refine ht_callVi (r := o_7) (rest := []) (As := [.int p0]) (wc := (wMo K jM aM RM.s RM.held RM.aside RM.before RM.isHeld RM.tape RM.taped RM.token RM.frm RM.to RM.value RM.isWrong RM.unpaired RM.bestSound RM.bestWay RM.rows RM.rowN RM.sortOf RM.sizeOf RM.numbers RM.holdsWhat RM.holdsWhich RM.holdsMany RM.bodies RM.ran RM.actKind RM.actN RM.actA RM.isParted)) (wr := []) (w1 := (wMo K jM aM RM.s RM.held RM.aside RM.before RM.isHeld RM.tape RM.taped RM.token RM.frm RM.to RM.value RM.isWrong RM.unpaired RM.bestSound RM.bestWay RM.rows RM.rowN RM.sortOf RM.sizeOf RM.numbers RM.holdsWhat RM.holdsWhich RM.holdsMany RM.bodies RM.ran RM.actKind RM.actN RM.actA RM.isParted)) (w2 := (wMo K jM aM RM.s RM.held RM.aside RM.before RM.isHeld RM.tape RM.taped RM.token RM.frm RM.to RM.value RM.isWrong RM.unpaired RM.bestSound RM.bestWay RM.rows RM.rowN RM.sortOf RM.sizeOf RM.numbers RM.holdsWhat RM.holdsWhich RM.holdsMany RM.bodies RM.ran RM.actKind RM.actN RM.actA RM.isParted)) hF (ctX9_heldOn l D K jM aM RM p0 o_7 ho_7 H.size) (cwV 1 hts gX9_taken_X9_heldOn rfl rfl rfl hdX9_heldOn ⟨Nat.le_of_ble_eq_true rfl, Nat.le_of_ble_eq_true rfl⟩) hK hP hD hS hA [0, 1, 2, 3, 4, 5, 6, 7, 8, 9, 10, 11, 12, 13, 14, 15] [] rfl rfl (by decide) (by decide) (by decide) [0, 1, 2, 3, 4, 5, 6, 7, 8, 9, 10, 11, 12, 13, 14, 15] rfl (by decide) (va_recv hK hP (ci := 9) (q0 := 0) rfl rfl) rfl hl.1 rfl (Nat.le_of_ble_eq_true rfl) dX9_taken_37 ⟨Nat.zero_le _, Nat.zero_le _⟩ (fun H locs hP hD hS => ?_)
        refine lv_istore_n (lv' := [(3, .int o_7), (0, .ref jM), (1, .int p0), (2, .int p1)]) hx hb dX9_taken_40 rfl hl (by decide) rfl (fun ls hl => ?_)
        refine lv_iload_n hx hb dX9_taken_41 rfl (lv_at hl 0 rfl) ?_
        refine lv_if_ne (tgt := 48) hx hb dX9_taken_42 (by decide) (fun c_8 => ?_) (fun c_8 => ?_)
        · replace hf := ht_f c_8 hf
          refine lv_iload_n hx hb dX9_taken_48 rfl (lv_at hl 3 rfl) ?_
          refine lv_bipush (v := 10) hx hb dX9_taken_49 (by decide) ?_
          refine lv_icmp_ge (tgt := 89) hx hb dX9_taken_51 (by decide) (fun c_9 => ?_) (fun c_9 => ?_)
          · replace hf := ht_t c_9 hf
            refine lv_iload_n hx hb dX9_taken_89 rfl (lv_at hl 0 rfl) ?_
            refine lv_iconst (v := 2) hx hb dX9_taken_90 (by decide) ?_
            refine lv_icmp_ne (tgt := 116) hx hb dX9_taken_91 (by decide) (fun c_10 => ?_) (fun c_10 => ?_)
            · replace hf := ht_f c_10 hf
              refine lv_bipush (v := -13) hx hb dX9_taken_116 (by decide) ?_
              have ho := Option.some.inj hf
              subst ho; subst hQ
              exact ht_iret hx hb hr hlk rfl hK hP hD hS dX9_taken_118
            · replace hf := ht_t c_10 hf
              refine lv_aload_n hx hb dX9_taken_94 rfl (lv_at hl 1 rfl) ?_
              refine va_get (D := D) (ci := 9) (v := .ref (aM 12)) (C := RX9) (T := TX9) (N := 29) hx hb hts iw9 hown hK hP 0 rfl rfl 21 (by decide) kw4 (fun _ h9 => h9) rfl dX9_taken_95 ?_
              refine lv_iload_n hx hb dX9_taken_98 rfl (lv_at hl 2 rfl) ?_
              obtain ⟨g_11, hf⟩ := ht_gd_ob hf
              refine va_iald hx hb hK hP 13 1 rfl rfl (ht_ix_in g_11) dX9_taken_99 ?_
              refine lv_iload_n hx hb dX9_taken_100 rfl (lv_at hl 3 rfl) ?_
              refine lv_bipush (v := 10) hx hb dX9_taken_101 (by decide) ?_
              refine lv_isub hx hb dX9_taken_103 ?_
              refine lv_icmp_ne (tgt := 116) hx hb dX9_taken_104 (by decide) (fun c_12 => ?_) (fun c_12 => ?_)
              · replace hf := ht_f c_12 hf
                refine lv_bipush (v := -13) hx hb dX9_taken_116 (by decide) ?_
                have ho := Option.some.inj hf
                subst ho; subst hQ
                exact ht_iret hx hb hr hlk rfl hK hP hD hS dX9_taken_118
              · replace hf := ht_t c_12 hf
                refine lv_aload_n hx hb dX9_taken_107 rfl (lv_at hl 1 rfl) ?_
                refine va_get (D := D) (ci := 9) (v := .ref (aM 13)) (C := RX9) (T := TX9) (N := 29) hx hb hts iw9 hown hK hP 0 rfl rfl 22 (by decide) kw5 (fun _ h9 => h9) rfl dX9_taken_108 ?_
                refine lv_iload_n hx hb dX9_taken_111 rfl (lv_at hl 2 rfl) ?_
                obtain ⟨g_13, hf⟩ := ht_gd_ob hf
                refine va_iald hx hb hK hP 14 1 rfl rfl (ht_ix_in g_13) dX9_taken_112 ?_
                refine lv_goto (tgt := 118) hx hb dX9_taken_113 (by decide) ?_
                have ho := Option.some.inj hf
                subst ho; subst hQ
                exact ht_iret hx hb hr hlk rfl hK hP hD hS dX9_taken_118
          · replace hf := ht_f c_9 hf
            refine lv_iload_n hx hb dX9_taken_54 rfl (lv_at hl 0 rfl) ?_
            refine lv_iconst (v := 1) hx hb dX9_taken_55 (by decide) ?_
            refine lv_icmp_ne (tgt := 86) hx hb dX9_taken_56 (by decide) (fun c_14 => ?_) (fun c_14 => ?_)
            · replace hf := ht_f c_14 hf
              refine lv_bipush (v := -13) hx hb dX9_taken_86 (by decide) ?_
              have ho := Option.some.inj hf
              subst ho; subst hQ
              exact ht_iret hx hb hr hlk rfl hK hP hD hS dX9_taken_88
            · replace hf := ht_t c_14 hf
              refine lv_aload_n hx hb dX9_taken_59 rfl (lv_at hl 1 rfl) ?_
              refine lv_aload_n hx hb dX9_taken_60 rfl (lv_at hl 1 rfl) ?_
              refine va_get (D := D) (ci := 9) (v := .ref (aM 12)) (C := RX9) (T := TX9) (N := 29) hx hb hts iw9 hown hK hP 0 rfl rfl 21 (by decide) kw4 (fun _ h9 => h9) rfl dX9_taken_61 ?_
              refine lv_iload_n hx hb dX9_taken_64 rfl (lv_at hl 2 rfl) ?_
              obtain ⟨g_15, hf⟩ := ht_gd_ob hf
              refine va_iald hx hb hK hP 13 1 rfl rfl (ht_ix_in g_15) dX9_taken_65 ?_
              refine lv_iconst (v := 0) hx hb dX9_taken_66 (by decide) ?_
              obtain ⟨o_16, ho_16, hf⟩ := ht_bn_ob hf
              refine ht_callVi (r := o_16) (rest := []) (As := [.int (RM.holdsWhich p0.toNatClampNeg), .int (0 : Int32)]) (wc := (wMo K jM aM RM.s RM.held RM.aside RM.before RM.isHeld RM.tape RM.taped RM.token RM.frm RM.to RM.value RM.isWrong RM.unpaired RM.bestSound RM.bestWay RM.rows RM.rowN RM.sortOf RM.sizeOf RM.numbers RM.holdsWhat RM.holdsWhich RM.holdsMany RM.bodies RM.ran RM.actKind RM.actN RM.actA RM.isParted)) (wr := []) (w1 := (wMo K jM aM RM.s RM.held RM.aside RM.before RM.isHeld RM.tape RM.taped RM.token RM.frm RM.to RM.value RM.isWrong RM.unpaired RM.bestSound RM.bestWay RM.rows RM.rowN RM.sortOf RM.sizeOf RM.numbers RM.holdsWhat RM.holdsWhich RM.holdsMany RM.bodies RM.ran RM.actKind RM.actN RM.actA RM.isParted)) (w2 := (wMo K jM aM RM.s RM.held RM.aside RM.before RM.isHeld RM.tape RM.taped RM.token RM.frm RM.to RM.value RM.isWrong RM.unpaired RM.bestSound RM.bestWay RM.rows RM.rowN RM.sortOf RM.sizeOf RM.numbers RM.holdsWhat RM.holdsWhich RM.holdsMany RM.bodies RM.ran RM.actKind RM.actN RM.actA RM.isParted)) hF (ctX9_its l D K jM aM RM (RM.holdsWhich p0.toNatClampNeg) (0 : Int32) o_16 ho_16 H.size) (cwV 2 hts gX9_taken_X9_its rfl rfl rfl hdX9_its ⟨Nat.le_of_ble_eq_true rfl, Nat.le_of_ble_eq_true rfl⟩) hK hP hD hS hA [0, 1, 2, 3, 4, 5, 6, 7, 8, 9, 10, 11, 12, 13, 14, 15] [] rfl rfl (by decide) (by decide) (by decide) [0, 1, 2, 3, 4, 5, 6, 7, 8, 9, 10, 11, 12, 13, 14, 15] rfl (by decide) (va_recv hK hP (ci := 9) (q0 := 0) rfl rfl) rfl hl.1 rfl (Nat.le_of_ble_eq_true rfl) dX9_taken_67 ⟨Nat.zero_le _, Nat.zero_le _⟩ (fun H locs hP hD hS => ?_)
              refine lv_iload_n hx hb dX9_taken_70 rfl (lv_at hl 3 rfl) ?_
              obtain ⟨o_17, ho_17, hf⟩ := ht_bn_ob hf
              refine ht_callSi (r := o_17) (rest := []) (As := [.int o_16, .int p1]) (wc := []) (wr := (wMo K jM aM RM.s RM.held RM.aside RM.before RM.isHeld RM.tape RM.taped RM.token RM.frm RM.to RM.value RM.isWrong RM.unpaired RM.bestSound RM.bestWay RM.rows RM.rowN RM.sortOf RM.sizeOf RM.numbers RM.holdsWhat RM.holdsWhich RM.holdsMany RM.bodies RM.ran RM.actKind RM.actN RM.actA RM.isParted)) (w1 := []) (w2 := (wMo K jM aM RM.s RM.held RM.aside RM.before RM.isHeld RM.tape RM.taped RM.token RM.frm RM.to RM.value RM.isWrong RM.unpaired RM.bestSound RM.bestWay RM.rows RM.rowN RM.sortOf RM.sizeOf RM.numbers RM.holdsWhat RM.holdsWhich RM.holdsMany RM.bodies RM.ran RM.actKind RM.actN RM.actA RM.isParted)) hF (ctX9_isUnder l D K o_16 p1 o_17 ho_17 H.size) (va_cwS 2 hts gX9_taken_X9_isUnder rfl rfl rfl hdX9_isUnder ⟨Nat.le_of_ble_eq_true rfl, Nat.le_of_ble_eq_true rfl⟩) hK hP hD hS hA [] [0, 1, 2, 3, 4, 5, 6, 7, 8, 9, 10, 11, 12, 13, 14, 15] rfl rfl (by decide) (by decide) (by decide) [0, 1, 2, 3, 4, 5, 6, 7, 8, 9, 10, 11, 12, 13, 14, 15] rfl (by decide) rfl hl.1 rfl (Nat.le_of_ble_eq_true rfl) dX9_taken_71 ⟨Nat.zero_le _, Nat.zero_le _⟩ (fun H locs hP hD hS => ?_)
              refine lv_if_eq (tgt := 86) hx hb dX9_taken_74 (by decide) (fun c_18 => ?_) (fun c_18 => ?_)
              · replace hf := ht_t c_18 hf
                refine lv_bipush (v := -13) hx hb dX9_taken_86 (by decide) ?_
                have ho := Option.some.inj hf
                subst ho; subst hQ
                exact ht_iret hx hb hr hlk rfl hK hP hD hS dX9_taken_88
              · replace hf := ht_f c_18 hf
                refine lv_aload_n hx hb dX9_taken_77 rfl (lv_at hl 1 rfl) ?_
                refine va_get (D := D) (ci := 9) (v := .ref (aM 12)) (C := RX9) (T := TX9) (N := 29) hx hb hts iw9 hown hK hP 0 rfl rfl 21 (by decide) kw4 (fun _ h9 => h9) rfl dX9_taken_78 ?_
                refine lv_iload_n hx hb dX9_taken_81 rfl (lv_at hl 2 rfl) ?_
                obtain ⟨g_19, hf⟩ := ht_gd_ob hf
                refine va_iald hx hb hK hP 13 1 rfl rfl (ht_ix_in g_19) dX9_taken_82 ?_
                refine lv_goto (tgt := 88) hx hb dX9_taken_83 (by decide) ?_
                have ho := Option.some.inj hf
                subst ho; subst hQ
                exact ht_iret hx hb hr hlk rfl hK hP hD hS dX9_taken_88
        · replace hf := ht_t c_8 hf
          refine lv_bipush (v := -11) hx hb dX9_taken_45 (by decide) ?_
          have ho := Option.some.inj hf
          subst ho; subst hQ
          exact ht_iret hx hb hr hlk rfl hK hP hD hS dX9_taken_47
      · replace hf := ht_f c_6 hf
        refine lv_iconst (v := -1) hx hb dX9_taken_33 (by decide) ?_
        have ho := Option.some.inj hf
        subst ho; subst hQ
        exact ht_iret hx hb hr hlk rfl hK hP hD hS dX9_taken_34
abbrev rmX9_runs : Room := { frames := 0, cells := 0, slots := 0, locals := 0 }
theorem hdX9_runs : yX9_runs.cls = RX9 ∧ yX9_runs.cls ≠ "java/lang/invoke/MethodHandle" ∧ yX9_runs.cls ≠ "java/lang/invoke/VarHandle" ∧ (parseMethodDescriptor yX9_runs.desc).map (fun d => d.parameters.length) = some 1 := by decide +kernel
def fX9_runs (RM : ModV) (p0 : Int32) : Option (AI × Int32) := if (30 : Int32) ≤ RM.ran then (some (RM.bodies, RM.ran)) else (ht_gd (ht_ix RM.ran 30) (ht_nm (upd RM.bodies RM.ran.toNatClampNeg p0) (fun vM_bodies_3 => ht_nm (RM.ran + (1 : Int32)) (fun vM_ran_4 => some (vM_bodies_3, vM_ran_4)))))
set_option maxHeartbeats 1000000 in
set_option maxRecDepth 100000 in
theorem ctX9_runs (l : Launch) (D : va_G) (K : Nat → ClassId) (jM : Nat) (aM : Nat → Nat) (RM : ModV) (p0 : Int32) (o : (AI × Int32)) (hf : fX9_runs RM p0 = some o) (sz : Nat) : Met l yX9_runs wsX9_runs rmX9_runs (ht_Pre D K [.ref jM, .int p0] (wMo K jM aM RM.s RM.held RM.aside RM.before RM.isHeld RM.tape RM.taped RM.token RM.frm RM.to RM.value RM.isWrong RM.unpaired RM.bestSound RM.bestWay RM.rows RM.rowN RM.sortOf RM.sizeOf RM.numbers RM.holdsWhat RM.holdsWhich RM.holdsMany RM.bodies RM.ran RM.actKind RM.actN RM.actA RM.isParted) sz) (ht_Qv D K (wMo K jM aM RM.s RM.held RM.aside RM.before RM.isHeld RM.tape RM.taped RM.token RM.frm RM.to RM.value RM.isWrong RM.unpaired RM.bestSound RM.bestWay RM.rows RM.rowN RM.sortOf RM.sizeOf RM.numbers RM.holdsWhat RM.holdsWhich RM.holdsMany o.1 o.2 RM.actKind RM.actN RM.actA RM.isParted) (va_A (wMo K jM aM RM.s RM.held RM.aside RM.before RM.isHeld RM.tape RM.taped RM.token RM.frm RM.to RM.value RM.isWrong RM.unpaired RM.bestSound RM.bestWay RM.rows RM.rowN RM.sortOf RM.sizeOf RM.numbers RM.holdsWhat RM.holdsWhich RM.holdsMany RM.bodies RM.ran RM.actKind RM.actN RM.actA RM.isParted) sz)) 0 0 (va_A (wMo K jM aM RM.s RM.held RM.aside RM.before RM.isHeld RM.tape RM.taped RM.token RM.frm RM.to RM.value RM.isWrong RM.unpaired RM.bestSound RM.bestWay RM.rows RM.rowN RM.sortOf RM.sizeOf RM.numbers RM.holdsWhat RM.holdsWhich RM.holdsMany RM.bodies RM.ran RM.actKind RM.actN RM.actA RM.isParted) sz) := by
  refine ht_enter (Qf := ht_Qv D K (wMo K jM aM RM.s RM.held RM.aside RM.before RM.isHeld RM.tape RM.taped RM.token RM.frm RM.to RM.value RM.isWrong RM.unpaired RM.bestSound RM.bestWay RM.rows RM.rowN RM.sortOf RM.sizeOf RM.numbers RM.holdsWhat RM.holdsWhich RM.holdsMany o.1 o.2 RM.actKind RM.actN RM.actA RM.isParted)) (cc := cX9_runs) (maxL := 2) (rt := none) (by decide) rfl (Nat.le_of_ble_eq_true rfl) ?_ sz
  intro p e s m below meth c A Q H locs ls hQ hx hb hr hlk hmn hml hown hts hA hK hP hD hS hl
  have hown : s.vm.findClass RX9 = some m.cls := hown
  have hF : CallFix p m c cX9_runs 2 s ([.ref jM, .int p0] : List Value).toArray wsX9_runs RX9 := ⟨hx, hb, hml, hown, hts⟩
  have hl : lv_has ls 2 [(0, .ref jM), (1, .int p0)] := hl
  have iw9 : ∀ w ∈ u_ws RX9 TX9 29, w ∈ wsX9_runs := by decide +kernel
  have kw1 := hts (.fieldLink RX9 294 "HeldTonguesModel" "ran" "I") (by decide +kernel)
  have kw2 := hts (.fieldLink RX9 52 "HeldTonguesModel" "bodies" "[I") (by decide +kernel)
  delta fX9_runs at hf
  refine lv_aload_n hx hb dX9_runs_0 rfl (lv_at hl 0 rfl) ?_
  refine va_get (D := D) (ci := 9) (v := .int RM.ran) (C := RX9) (T := TX9) (N := 29) hx hb hts iw9 hown hK hP 0 rfl rfl 24 (by decide) kw1 (fun _ h9 => h9) rfl dX9_runs_1 ?_
  refine lv_bipush (v := 30) hx hb dX9_runs_4 (by decide) ?_
  refine lv_icmp_ge (tgt := 29) hx hb dX9_runs_6 (by decide) (fun c_1 => ?_) (fun c_1 => ?_)
  · replace hf := ht_t c_1 hf
    have ho := Option.some.inj hf
    subst ho; subst hQ
    exact ht_vret hx hb hr hlk hK hP hD hS dX9_runs_29
  · replace hf := ht_f c_1 hf
    refine lv_aload_n hx hb dX9_runs_9 rfl (lv_at hl 0 rfl) ?_
    refine va_get (D := D) (ci := 9) (v := .ref (aM 14)) (C := RX9) (T := TX9) (N := 29) hx hb hts iw9 hown hK hP 0 rfl rfl 23 (by decide) kw2 (fun _ h9 => h9) rfl dX9_runs_10 ?_
    refine lv_aload_n hx hb dX9_runs_13 rfl (lv_at hl 0 rfl) ?_
    refine va_get (D := D) (ci := 9) (v := .int RM.ran) (C := RX9) (T := TX9) (N := 29) hx hb hts iw9 hown hK hP 0 rfl rfl 24 (by decide) kw1 (fun _ h9 => h9) rfl dX9_runs_14 ?_
    refine lv_iload_n hx hb dX9_runs_17 rfl (lv_at hl 1 rfl) ?_
    obtain ⟨g_2, hf⟩ := ht_gd_ob hf
    obtain ⟨vM_bodies_3, evM_bodies_3, hf⟩ := ht_nm_ob hf
    refine ht_iast (w2 := (wMo K jM aM RM.s RM.held RM.aside RM.before RM.isHeld RM.tape RM.taped RM.token RM.frm RM.to RM.value RM.isWrong RM.unpaired RM.bestSound RM.bestWay RM.rows RM.rowN RM.sortOf RM.sizeOf RM.numbers RM.holdsWhat RM.holdsWhich RM.holdsMany vM_bodies_3 RM.ran RM.actKind RM.actN RM.actA RM.isParted)) hx hb hK hP hD hS 15 1 rfl rfl g_2 dX9_runs_18 evM_bodies_3 rfl (fun H locs hP hD hS => ?_)
    refine lv_aload_n hx hb dX9_runs_19 rfl (lv_at hl 0 rfl) ?_
    refine lv_dup hx hb dX9_runs_20 rfl ?_
    refine va_get (D := D) (ci := 9) (v := .int RM.ran) (C := RX9) (T := TX9) (N := 29) hx hb hts iw9 hown hK hP 0 rfl rfl 24 (by decide) kw1 (fun _ h9 => h9) rfl dX9_runs_21 ?_
    refine lv_iconst (v := 1) hx hb dX9_runs_24 (by decide) ?_
    refine lv_iadd hx hb dX9_runs_25 ?_
    obtain ⟨vM_ran_4, evM_ran_4, hf⟩ := ht_nm_ob hf
    rw [← evM_ran_4]
    refine ht_put (ci := 9) (v := .int vM_ran_4) (ty := .int) (C := RX9) (T := TX9) (N := 29) (w2 := (wMo K jM aM RM.s RM.held RM.aside RM.before RM.isHeld RM.tape RM.taped RM.token RM.frm RM.to RM.value RM.isWrong RM.unpaired RM.bestSound RM.bestWay RM.rows RM.rowN RM.sortOf RM.sizeOf RM.numbers RM.holdsWhat RM.holdsWhich RM.holdsMany vM_bodies_3 vM_ran_4 RM.actKind RM.actN RM.actA RM.isParted)) hx hb hts iw9 tyX9 tyX9_ok nmX9 hown hK hP hD hS 0 rfl rfl 24 (by decide) kw1 (fun _ h9 => h9) rfl (by decide +kernel) rfl rfl (Nat.le_of_ble_eq_true rfl) dX9_runs_26 rfl (fun H locs hP hD hS => ?_)
    have ho := Option.some.inj hf
    subst ho; subst hQ
    exact ht_vret hx hb hr hlk hK hP hD hS dX9_runs_29
abbrev rmX9_muttersPlain : Room := { frames := 1, cells := 0, slots := 0, locals := 21 }
theorem hdX9_muttersPlain : yX9_muttersPlain.cls = RX9 ∧ yX9_muttersPlain.cls ≠ "java/lang/invoke/MethodHandle" ∧ yX9_muttersPlain.cls ≠ "java/lang/invoke/VarHandle" ∧ (parseMethodDescriptor yX9_muttersPlain.desc).map (fun d => d.parameters.length) = some 1 := by decide +kernel
def fX9_muttersPlain (RM : ModV) (p0 : Int32) : Option (Int32 × AI × Int32) := ht_bn (fX9_runs RM (10 : Int32)) (fun o_1 => some ((p0 + (RM.actN * (6 : Int32))), o_1.1, o_1.2))
set_option maxHeartbeats 1000000 in
set_option maxRecDepth 100000 in
theorem ctX9_muttersPlain (l : Launch) (D : va_G) (K : Nat → ClassId) (jM : Nat) (aM : Nat → Nat) (RM : ModV) (p0 : Int32) (o : (Int32 × AI × Int32)) (hf : fX9_muttersPlain RM p0 = some o) (sz : Nat) : Met l yX9_muttersPlain wsX9_muttersPlain rmX9_muttersPlain (ht_Pre D K [.ref jM, .int p0] (wMo K jM aM RM.s RM.held RM.aside RM.before RM.isHeld RM.tape RM.taped RM.token RM.frm RM.to RM.value RM.isWrong RM.unpaired RM.bestSound RM.bestWay RM.rows RM.rowN RM.sortOf RM.sizeOf RM.numbers RM.holdsWhat RM.holdsWhich RM.holdsMany RM.bodies RM.ran RM.actKind RM.actN RM.actA RM.isParted) sz) (ht_Qi D K (wMo K jM aM RM.s RM.held RM.aside RM.before RM.isHeld RM.tape RM.taped RM.token RM.frm RM.to RM.value RM.isWrong RM.unpaired RM.bestSound RM.bestWay RM.rows RM.rowN RM.sortOf RM.sizeOf RM.numbers RM.holdsWhat RM.holdsWhich RM.holdsMany o.2.1 o.2.2 RM.actKind RM.actN RM.actA RM.isParted) o.1 (va_A (wMo K jM aM RM.s RM.held RM.aside RM.before RM.isHeld RM.tape RM.taped RM.token RM.frm RM.to RM.value RM.isWrong RM.unpaired RM.bestSound RM.bestWay RM.rows RM.rowN RM.sortOf RM.sizeOf RM.numbers RM.holdsWhat RM.holdsWhich RM.holdsMany RM.bodies RM.ran RM.actKind RM.actN RM.actA RM.isParted) sz)) 0 0 (va_A (wMo K jM aM RM.s RM.held RM.aside RM.before RM.isHeld RM.tape RM.taped RM.token RM.frm RM.to RM.value RM.isWrong RM.unpaired RM.bestSound RM.bestWay RM.rows RM.rowN RM.sortOf RM.sizeOf RM.numbers RM.holdsWhat RM.holdsWhich RM.holdsMany RM.bodies RM.ran RM.actKind RM.actN RM.actA RM.isParted) sz) := by
  refine ht_enter (Qf := ht_Qi D K (wMo K jM aM RM.s RM.held RM.aside RM.before RM.isHeld RM.tape RM.taped RM.token RM.frm RM.to RM.value RM.isWrong RM.unpaired RM.bestSound RM.bestWay RM.rows RM.rowN RM.sortOf RM.sizeOf RM.numbers RM.holdsWhat RM.holdsWhich RM.holdsMany o.2.1 o.2.2 RM.actKind RM.actN RM.actA RM.isParted) o.1) (cc := cX9_muttersPlain) (maxL := 2) (rt := (some .int)) (by decide) rfl (Nat.le_of_ble_eq_true rfl) ?_ sz
  intro p e s m below meth c A Q H locs ls hQ hx hb hr hlk hmn hml hown hts hA hK hP hD hS hl
  have hown : s.vm.findClass RX9 = some m.cls := hown
  have hF : CallFix p m c cX9_muttersPlain 2 s ([.ref jM, .int p0] : List Value).toArray wsX9_muttersPlain RX9 := ⟨hx, hb, hml, hown, hts⟩
  have hl : lv_has ls 2 [(0, .ref jM), (1, .int p0)] := hl
  have iw9 : ∀ w ∈ u_ws RX9 TX9 29, w ∈ wsX9_muttersPlain := by decide +kernel
  have kw1 := hts (.fieldLink RX9 300 "HeldTonguesModel" "actN" "I") (by decide +kernel)
  delta fX9_muttersPlain at hf
  refine lv_aload_n hx hb dX9_muttersPlain_0 rfl (lv_at hl 0 rfl) ?_
  refine lv_bipush (v := 10) hx hb dX9_muttersPlain_1 (by decide) ?_
  obtain ⟨o_1, ho_1, hf⟩ := ht_bn_ob hf
  refine ht_callVv (rest := []) (As := [.int (10 : Int32)]) (wc := (wMo K jM aM RM.s RM.held RM.aside RM.before RM.isHeld RM.tape RM.taped RM.token RM.frm RM.to RM.value RM.isWrong RM.unpaired RM.bestSound RM.bestWay RM.rows RM.rowN RM.sortOf RM.sizeOf RM.numbers RM.holdsWhat RM.holdsWhich RM.holdsMany RM.bodies RM.ran RM.actKind RM.actN RM.actA RM.isParted)) (wr := []) (w1 := (wMo K jM aM RM.s RM.held RM.aside RM.before RM.isHeld RM.tape RM.taped RM.token RM.frm RM.to RM.value RM.isWrong RM.unpaired RM.bestSound RM.bestWay RM.rows RM.rowN RM.sortOf RM.sizeOf RM.numbers RM.holdsWhat RM.holdsWhich RM.holdsMany o_1.1 o_1.2 RM.actKind RM.actN RM.actA RM.isParted)) (w2 := (wMo K jM aM RM.s RM.held RM.aside RM.before RM.isHeld RM.tape RM.taped RM.token RM.frm RM.to RM.value RM.isWrong RM.unpaired RM.bestSound RM.bestWay RM.rows RM.rowN RM.sortOf RM.sizeOf RM.numbers RM.holdsWhat RM.holdsWhich RM.holdsMany o_1.1 o_1.2 RM.actKind RM.actN RM.actA RM.isParted)) hF (ctX9_runs l D K jM aM RM (10 : Int32) o_1 ho_1 H.size) (cwV 1 hts gX9_muttersPlain_X9_runs rfl rfl rfl hdX9_runs ⟨Nat.le_of_ble_eq_true rfl, Nat.le_of_ble_eq_true rfl⟩) hK hP hD hS hA [0, 1, 2, 3, 4, 5, 6, 7, 8, 9, 10, 11, 12, 13, 14, 15] [] rfl rfl (by decide) (by decide) (by decide) [0, 1, 2, 3, 4, 5, 6, 7, 8, 9, 10, 11, 12, 13, 14, 15] rfl (by decide) (va_recv hK hP (ci := 9) (q0 := 0) rfl rfl) rfl hl.1 rfl (Nat.le_of_ble_eq_true rfl) dX9_muttersPlain_3 ⟨Nat.zero_le _, Nat.zero_le _⟩ (fun H locs hP hD hS => ?_)
  refine lv_iload_n hx hb dX9_muttersPlain_6 rfl (lv_at hl 1 rfl) ?_
  refine lv_aload_n hx hb dX9_muttersPlain_7 rfl (lv_at hl 0 rfl) ?_
  refine va_get (D := D) (ci := 9) (v := .int RM.actN) (C := RX9) (T := TX9) (N := 29) hx hb hts iw9 hown hK hP 0 rfl rfl 26 (by decide) kw1 (fun _ h9 => h9) rfl dX9_muttersPlain_8 ?_
  refine lv_bipush (v := 6) hx hb dX9_muttersPlain_11 (by decide) ?_
  refine lv_imul hx hb dX9_muttersPlain_13 ?_
  refine lv_iadd hx hb dX9_muttersPlain_14 ?_
  have ho := Option.some.inj hf
  subst ho; subst hQ
  exact ht_iret hx hb hr hlk rfl hK hP hD hS dX9_muttersPlain_15
abbrev rmX9_muttersOfMonk : Room := { frames := 2, cells := 0, slots := 0, locals := 42 }
theorem hdX9_muttersOfMonk : yX9_muttersOfMonk.cls = RX9 ∧ yX9_muttersOfMonk.cls ≠ "java/lang/invoke/MethodHandle" ∧ yX9_muttersOfMonk.cls ≠ "java/lang/invoke/VarHandle" ∧ (parseMethodDescriptor yX9_muttersOfMonk.desc).map (fun d => d.parameters.length) = some 1 := by decide +kernel
def fX9_muttersOfMonk (RM : ModV) (p0 : Int32) : Option (Int32 × AI × Int32) := ht_bn (fX9_runs RM (30 : Int32)) (fun o_1 => ht_bn (fX9_muttersPlain (RM.s, RM.held, RM.aside, RM.before, RM.isHeld, RM.tape, RM.taped, RM.token, RM.frm, RM.to, RM.value, RM.isWrong, RM.unpaired, RM.bestSound, RM.bestWay, RM.rows, RM.rowN, RM.sortOf, RM.sizeOf, RM.numbers, RM.holdsWhat, RM.holdsWhich, RM.holdsMany, o_1.1, o_1.2, RM.actKind, RM.actN, RM.actA, RM.isParted) p0) (fun o_2 => some (((0 : Int32) - o_2.1), o_2.2.1, o_2.2.2)))
set_option maxHeartbeats 1000000 in
set_option maxRecDepth 100000 in
theorem ctX9_muttersOfMonk (l : Launch) (D : va_G) (K : Nat → ClassId) (jM : Nat) (aM : Nat → Nat) (RM : ModV) (p0 : Int32) (o : (Int32 × AI × Int32)) (hf : fX9_muttersOfMonk RM p0 = some o) (sz : Nat) : Met l yX9_muttersOfMonk wsX9_muttersOfMonk rmX9_muttersOfMonk (ht_Pre D K [.ref jM, .int p0] (wMo K jM aM RM.s RM.held RM.aside RM.before RM.isHeld RM.tape RM.taped RM.token RM.frm RM.to RM.value RM.isWrong RM.unpaired RM.bestSound RM.bestWay RM.rows RM.rowN RM.sortOf RM.sizeOf RM.numbers RM.holdsWhat RM.holdsWhich RM.holdsMany RM.bodies RM.ran RM.actKind RM.actN RM.actA RM.isParted) sz) (ht_Qi D K (wMo K jM aM RM.s RM.held RM.aside RM.before RM.isHeld RM.tape RM.taped RM.token RM.frm RM.to RM.value RM.isWrong RM.unpaired RM.bestSound RM.bestWay RM.rows RM.rowN RM.sortOf RM.sizeOf RM.numbers RM.holdsWhat RM.holdsWhich RM.holdsMany o.2.1 o.2.2 RM.actKind RM.actN RM.actA RM.isParted) o.1 (va_A (wMo K jM aM RM.s RM.held RM.aside RM.before RM.isHeld RM.tape RM.taped RM.token RM.frm RM.to RM.value RM.isWrong RM.unpaired RM.bestSound RM.bestWay RM.rows RM.rowN RM.sortOf RM.sizeOf RM.numbers RM.holdsWhat RM.holdsWhich RM.holdsMany RM.bodies RM.ran RM.actKind RM.actN RM.actA RM.isParted) sz)) 0 0 (va_A (wMo K jM aM RM.s RM.held RM.aside RM.before RM.isHeld RM.tape RM.taped RM.token RM.frm RM.to RM.value RM.isWrong RM.unpaired RM.bestSound RM.bestWay RM.rows RM.rowN RM.sortOf RM.sizeOf RM.numbers RM.holdsWhat RM.holdsWhich RM.holdsMany RM.bodies RM.ran RM.actKind RM.actN RM.actA RM.isParted) sz) := by
  refine ht_enter (Qf := ht_Qi D K (wMo K jM aM RM.s RM.held RM.aside RM.before RM.isHeld RM.tape RM.taped RM.token RM.frm RM.to RM.value RM.isWrong RM.unpaired RM.bestSound RM.bestWay RM.rows RM.rowN RM.sortOf RM.sizeOf RM.numbers RM.holdsWhat RM.holdsWhich RM.holdsMany o.2.1 o.2.2 RM.actKind RM.actN RM.actA RM.isParted) o.1) (cc := cX9_muttersOfMonk) (maxL := 2) (rt := (some .int)) (by decide) rfl (Nat.le_of_ble_eq_true rfl) ?_ sz
  intro p e s m below meth c A Q H locs ls hQ hx hb hr hlk hmn hml hown hts hA hK hP hD hS hl
  have hown : s.vm.findClass RX9 = some m.cls := hown
  have hF : CallFix p m c cX9_muttersOfMonk 2 s ([.ref jM, .int p0] : List Value).toArray wsX9_muttersOfMonk RX9 := ⟨hx, hb, hml, hown, hts⟩
  have hl : lv_has ls 2 [(0, .ref jM), (1, .int p0)] := hl
  delta fX9_muttersOfMonk at hf
  refine lv_aload_n hx hb dX9_muttersOfMonk_0 rfl (lv_at hl 0 rfl) ?_
  refine lv_bipush (v := 30) hx hb dX9_muttersOfMonk_1 (by decide) ?_
  obtain ⟨o_1, ho_1, hf⟩ := ht_bn_ob hf
  refine ht_callVv (rest := []) (As := [.int (30 : Int32)]) (wc := (wMo K jM aM RM.s RM.held RM.aside RM.before RM.isHeld RM.tape RM.taped RM.token RM.frm RM.to RM.value RM.isWrong RM.unpaired RM.bestSound RM.bestWay RM.rows RM.rowN RM.sortOf RM.sizeOf RM.numbers RM.holdsWhat RM.holdsWhich RM.holdsMany RM.bodies RM.ran RM.actKind RM.actN RM.actA RM.isParted)) (wr := []) (w1 := (wMo K jM aM RM.s RM.held RM.aside RM.before RM.isHeld RM.tape RM.taped RM.token RM.frm RM.to RM.value RM.isWrong RM.unpaired RM.bestSound RM.bestWay RM.rows RM.rowN RM.sortOf RM.sizeOf RM.numbers RM.holdsWhat RM.holdsWhich RM.holdsMany o_1.1 o_1.2 RM.actKind RM.actN RM.actA RM.isParted)) (w2 := (wMo K jM aM RM.s RM.held RM.aside RM.before RM.isHeld RM.tape RM.taped RM.token RM.frm RM.to RM.value RM.isWrong RM.unpaired RM.bestSound RM.bestWay RM.rows RM.rowN RM.sortOf RM.sizeOf RM.numbers RM.holdsWhat RM.holdsWhich RM.holdsMany o_1.1 o_1.2 RM.actKind RM.actN RM.actA RM.isParted)) hF (ctX9_runs l D K jM aM RM (30 : Int32) o_1 ho_1 H.size) (cwV 1 hts gX9_muttersOfMonk_X9_runs rfl rfl rfl hdX9_runs ⟨Nat.le_of_ble_eq_true rfl, Nat.le_of_ble_eq_true rfl⟩) hK hP hD hS hA [0, 1, 2, 3, 4, 5, 6, 7, 8, 9, 10, 11, 12, 13, 14, 15] [] rfl rfl (by decide) (by decide) (by decide) [0, 1, 2, 3, 4, 5, 6, 7, 8, 9, 10, 11, 12, 13, 14, 15] rfl (by decide) (va_recv hK hP (ci := 9) (q0 := 0) rfl rfl) rfl hl.1 rfl (Nat.le_of_ble_eq_true rfl) dX9_muttersOfMonk_3 ⟨Nat.zero_le _, Nat.zero_le _⟩ (fun H locs hP hD hS => ?_)
  refine lv_iconst (v := 0) hx hb dX9_muttersOfMonk_6 (by decide) ?_
  refine lv_aload_n hx hb dX9_muttersOfMonk_7 rfl (lv_at hl 0 rfl) ?_
  refine lv_iload_n hx hb dX9_muttersOfMonk_8 rfl (lv_at hl 1 rfl) ?_
  obtain ⟨o_2, ho_2, hf⟩ := ht_bn_ob hf
  refine ht_callVi (r := o_2.1) (rest := [.int (0 : Int32)]) (As := [.int p0]) (wc := (wMo K jM aM RM.s RM.held RM.aside RM.before RM.isHeld RM.tape RM.taped RM.token RM.frm RM.to RM.value RM.isWrong RM.unpaired RM.bestSound RM.bestWay RM.rows RM.rowN RM.sortOf RM.sizeOf RM.numbers RM.holdsWhat RM.holdsWhich RM.holdsMany o_1.1 o_1.2 RM.actKind RM.actN RM.actA RM.isParted)) (wr := []) (w1 := (wMo K jM aM RM.s RM.held RM.aside RM.before RM.isHeld RM.tape RM.taped RM.token RM.frm RM.to RM.value RM.isWrong RM.unpaired RM.bestSound RM.bestWay RM.rows RM.rowN RM.sortOf RM.sizeOf RM.numbers RM.holdsWhat RM.holdsWhich RM.holdsMany o_2.2.1 o_2.2.2 RM.actKind RM.actN RM.actA RM.isParted)) (w2 := (wMo K jM aM RM.s RM.held RM.aside RM.before RM.isHeld RM.tape RM.taped RM.token RM.frm RM.to RM.value RM.isWrong RM.unpaired RM.bestSound RM.bestWay RM.rows RM.rowN RM.sortOf RM.sizeOf RM.numbers RM.holdsWhat RM.holdsWhich RM.holdsMany o_2.2.1 o_2.2.2 RM.actKind RM.actN RM.actA RM.isParted)) hF (ctX9_muttersPlain l D K jM aM (RM.s, RM.held, RM.aside, RM.before, RM.isHeld, RM.tape, RM.taped, RM.token, RM.frm, RM.to, RM.value, RM.isWrong, RM.unpaired, RM.bestSound, RM.bestWay, RM.rows, RM.rowN, RM.sortOf, RM.sizeOf, RM.numbers, RM.holdsWhat, RM.holdsWhich, RM.holdsMany, o_1.1, o_1.2, RM.actKind, RM.actN, RM.actA, RM.isParted) p0 o_2 ho_2 H.size) (cwV 1 hts gX9_muttersOfMonk_X9_muttersPlain rfl rfl rfl hdX9_muttersPlain ⟨Nat.le_of_ble_eq_true rfl, Nat.le_of_ble_eq_true rfl⟩) hK hP hD hS hA [0, 1, 2, 3, 4, 5, 6, 7, 8, 9, 10, 11, 12, 13, 14, 15] [] rfl rfl (by decide) (by decide) (by decide) [0, 1, 2, 3, 4, 5, 6, 7, 8, 9, 10, 11, 12, 13, 14, 15] rfl (by decide) (va_recv hK hP (ci := 9) (q0 := 0) rfl rfl) rfl hl.1 rfl (Nat.le_of_ble_eq_true rfl) dX9_muttersOfMonk_9 ⟨Nat.zero_le _, Nat.zero_le _⟩ (fun H locs hP hD hS => ?_)
  refine lv_isub hx hb dX9_muttersOfMonk_12 ?_
  have ho := Option.some.inj hf
  subst ho; subst hQ
  exact ht_iret hx hb hr hlk rfl hK hP hD hS dX9_muttersOfMonk_13
abbrev rmX9_mutters : Room := { frames := 3, cells := 0, slots := 0, locals := 63 }
theorem hdX9_mutters : yX9_mutters.cls = RX9 ∧ yX9_mutters.cls ≠ "java/lang/invoke/MethodHandle" ∧ yX9_mutters.cls ≠ "java/lang/invoke/VarHandle" ∧ (parseMethodDescriptor yX9_mutters.desc).map (fun d => d.parameters.length) = some 1 := by decide +kernel
def fX9_mutters (RM : ModV) (p0 : Int32) : Option (Int32 × AI × Int32) := ht_nm RM.actKind (fun sw_1 => if sw_1 = 2 then (ht_bn (fX9_muttersOfMonk RM p0) (fun o_3 => some (o_3.1, o_3.2.1, o_3.2.2))) else if sw_1 = 3 then (ht_bn (fX9_runs RM (51 : Int32)) (fun o_5 => ht_bn (fX9_muttersPlain (RM.s, RM.held, RM.aside, RM.before, RM.isHeld, RM.tape, RM.taped, RM.token, RM.frm, RM.to, RM.value, RM.isWrong, RM.unpaired, RM.bestSound, RM.bestWay, RM.rows, RM.rowN, RM.sortOf, RM.sizeOf, RM.numbers, RM.holdsWhat, RM.holdsWhich, RM.holdsMany, o_5.1, o_5.2, RM.actKind, RM.actN, RM.actA, RM.isParted) p0) (fun o_6 => some ((o_6.1 + (7 : Int32)), o_6.2.1, o_6.2.2)))) else if sw_1 = 4 then (ht_bn (fX9_runs RM (40 : Int32)) (fun o_8 => ht_bn (fX9_muttersOfMonk (RM.s, RM.held, RM.aside, RM.before, RM.isHeld, RM.tape, RM.taped, RM.token, RM.frm, RM.to, RM.value, RM.isWrong, RM.unpaired, RM.bestSound, RM.bestWay, RM.rows, RM.rowN, RM.sortOf, RM.sizeOf, RM.numbers, RM.holdsWhat, RM.holdsWhich, RM.holdsMany, o_8.1, o_8.2, RM.actKind, RM.actN, RM.actA, RM.isParted) p0) (fun o_9 => some ((o_9.1 - (5 : Int32)), o_9.2.1, o_9.2.2)))) else (ht_bn (fX9_muttersPlain RM p0) (fun o_10 => some (o_10.1, o_10.2.1, o_10.2.2))))
set_option maxHeartbeats 1000000 in
set_option maxRecDepth 100000 in
theorem ctX9_mutters (l : Launch) (D : va_G) (K : Nat → ClassId) (jM : Nat) (aM : Nat → Nat) (RM : ModV) (p0 : Int32) (o : (Int32 × AI × Int32)) (hf : fX9_mutters RM p0 = some o) (sz : Nat) : Met l yX9_mutters wsX9_mutters rmX9_mutters (ht_Pre D K [.ref jM, .int p0] (wMo K jM aM RM.s RM.held RM.aside RM.before RM.isHeld RM.tape RM.taped RM.token RM.frm RM.to RM.value RM.isWrong RM.unpaired RM.bestSound RM.bestWay RM.rows RM.rowN RM.sortOf RM.sizeOf RM.numbers RM.holdsWhat RM.holdsWhich RM.holdsMany RM.bodies RM.ran RM.actKind RM.actN RM.actA RM.isParted) sz) (ht_Qi D K (wMo K jM aM RM.s RM.held RM.aside RM.before RM.isHeld RM.tape RM.taped RM.token RM.frm RM.to RM.value RM.isWrong RM.unpaired RM.bestSound RM.bestWay RM.rows RM.rowN RM.sortOf RM.sizeOf RM.numbers RM.holdsWhat RM.holdsWhich RM.holdsMany o.2.1 o.2.2 RM.actKind RM.actN RM.actA RM.isParted) o.1 (va_A (wMo K jM aM RM.s RM.held RM.aside RM.before RM.isHeld RM.tape RM.taped RM.token RM.frm RM.to RM.value RM.isWrong RM.unpaired RM.bestSound RM.bestWay RM.rows RM.rowN RM.sortOf RM.sizeOf RM.numbers RM.holdsWhat RM.holdsWhich RM.holdsMany RM.bodies RM.ran RM.actKind RM.actN RM.actA RM.isParted) sz)) 0 0 (va_A (wMo K jM aM RM.s RM.held RM.aside RM.before RM.isHeld RM.tape RM.taped RM.token RM.frm RM.to RM.value RM.isWrong RM.unpaired RM.bestSound RM.bestWay RM.rows RM.rowN RM.sortOf RM.sizeOf RM.numbers RM.holdsWhat RM.holdsWhich RM.holdsMany RM.bodies RM.ran RM.actKind RM.actN RM.actA RM.isParted) sz) := by
  refine ht_enter (Qf := ht_Qi D K (wMo K jM aM RM.s RM.held RM.aside RM.before RM.isHeld RM.tape RM.taped RM.token RM.frm RM.to RM.value RM.isWrong RM.unpaired RM.bestSound RM.bestWay RM.rows RM.rowN RM.sortOf RM.sizeOf RM.numbers RM.holdsWhat RM.holdsWhich RM.holdsMany o.2.1 o.2.2 RM.actKind RM.actN RM.actA RM.isParted) o.1) (cc := cX9_mutters) (maxL := 2) (rt := (some .int)) (by decide) rfl (Nat.le_of_ble_eq_true rfl) ?_ sz
  intro p e s m below meth c A Q H locs ls hQ hx hb hr hlk hmn hml hown hts hA hK hP hD hS hl
  have hown : s.vm.findClass RX9 = some m.cls := hown
  have hF : CallFix p m c cX9_mutters 2 s ([.ref jM, .int p0] : List Value).toArray wsX9_mutters RX9 := ⟨hx, hb, hml, hown, hts⟩
  have hl : lv_has ls 2 [(0, .ref jM), (1, .int p0)] := hl
  have iw9 : ∀ w ∈ u_ws RX9 TX9 29, w ∈ wsX9_mutters := by decide +kernel
  have kw1 := hts (.fieldLink RX9 306 "HeldTonguesModel" "actKind" "I") (by decide +kernel)
  delta fX9_mutters at hf
  refine lv_aload_n hx hb dX9_mutters_0 rfl (lv_at hl 0 rfl) ?_
  refine va_get (D := D) (ci := 9) (v := .int RM.actKind) (C := RX9) (T := TX9) (N := 29) hx hb hts iw9 hown hK hP 0 rfl rfl 25 (by decide) kw1 (fun _ h9 => h9) rfl dX9_mutters_1 ?_
  obtain ⟨sw_1, esw_1, hf⟩ := ht_nm_ob hf
  rw [← esw_1]
  by_cases c_2 : sw_1 = 2
  · replace hf := ht_t c_2 hf
    refine lv_tableIn (tgt := 32) hx hb dX9_mutters_4 (by rw [c_2]; decide) (by rw [c_2]; decide) (by rw [c_2]; rfl) (by decide) ?_
    refine lv_aload_n hx hb dX9_mutters_32 rfl (lv_at hl 0 rfl) ?_
    refine lv_iload_n hx hb dX9_mutters_33 rfl (lv_at hl 1 rfl) ?_
    obtain ⟨o_3, ho_3, hf⟩ := ht_bn_ob hf
    refine ht_callVi (r := o_3.1) (rest := []) (As := [.int p0]) (wc := (wMo K jM aM RM.s RM.held RM.aside RM.before RM.isHeld RM.tape RM.taped RM.token RM.frm RM.to RM.value RM.isWrong RM.unpaired RM.bestSound RM.bestWay RM.rows RM.rowN RM.sortOf RM.sizeOf RM.numbers RM.holdsWhat RM.holdsWhich RM.holdsMany RM.bodies RM.ran RM.actKind RM.actN RM.actA RM.isParted)) (wr := []) (w1 := (wMo K jM aM RM.s RM.held RM.aside RM.before RM.isHeld RM.tape RM.taped RM.token RM.frm RM.to RM.value RM.isWrong RM.unpaired RM.bestSound RM.bestWay RM.rows RM.rowN RM.sortOf RM.sizeOf RM.numbers RM.holdsWhat RM.holdsWhich RM.holdsMany o_3.2.1 o_3.2.2 RM.actKind RM.actN RM.actA RM.isParted)) (w2 := (wMo K jM aM RM.s RM.held RM.aside RM.before RM.isHeld RM.tape RM.taped RM.token RM.frm RM.to RM.value RM.isWrong RM.unpaired RM.bestSound RM.bestWay RM.rows RM.rowN RM.sortOf RM.sizeOf RM.numbers RM.holdsWhat RM.holdsWhich RM.holdsMany o_3.2.1 o_3.2.2 RM.actKind RM.actN RM.actA RM.isParted)) hF (ctX9_muttersOfMonk l D K jM aM RM p0 o_3 ho_3 H.size) (cwV 1 hts gX9_mutters_X9_muttersOfMonk rfl rfl rfl hdX9_muttersOfMonk ⟨Nat.le_of_ble_eq_true rfl, Nat.le_of_ble_eq_true rfl⟩) hK hP hD hS hA [0, 1, 2, 3, 4, 5, 6, 7, 8, 9, 10, 11, 12, 13, 14, 15] [] rfl rfl (by decide) (by decide) (by decide) [0, 1, 2, 3, 4, 5, 6, 7, 8, 9, 10, 11, 12, 13, 14, 15] rfl (by decide) (va_recv hK hP (ci := 9) (q0 := 0) rfl rfl) rfl hl.1 rfl (Nat.le_of_ble_eq_true rfl) dX9_mutters_34 ⟨Nat.zero_le _, Nat.zero_le _⟩ (fun H locs hP hD hS => ?_)
    have ho := Option.some.inj hf
    subst ho; subst hQ
    exact ht_iret hx hb hr hlk rfl hK hP hD hS dX9_mutters_37
  replace hf := ht_f c_2 hf
  by_cases c_4 : sw_1 = 3
  · replace hf := ht_t c_4 hf
    refine lv_tableIn (tgt := 52) hx hb dX9_mutters_4 (by rw [c_4]; decide) (by rw [c_4]; decide) (by rw [c_4]; rfl) (by decide) ?_
    refine lv_aload_n hx hb dX9_mutters_52 rfl (lv_at hl 0 rfl) ?_
    refine lv_bipush (v := 51) hx hb dX9_mutters_53 (by decide) ?_
    obtain ⟨o_5, ho_5, hf⟩ := ht_bn_ob hf
    refine ht_callVv (rest := []) (As := [.int (51 : Int32)]) (wc := (wMo K jM aM RM.s RM.held RM.aside RM.before RM.isHeld RM.tape RM.taped RM.token RM.frm RM.to RM.value RM.isWrong RM.unpaired RM.bestSound RM.bestWay RM.rows RM.rowN RM.sortOf RM.sizeOf RM.numbers RM.holdsWhat RM.holdsWhich RM.holdsMany RM.bodies RM.ran RM.actKind RM.actN RM.actA RM.isParted)) (wr := []) (w1 := (wMo K jM aM RM.s RM.held RM.aside RM.before RM.isHeld RM.tape RM.taped RM.token RM.frm RM.to RM.value RM.isWrong RM.unpaired RM.bestSound RM.bestWay RM.rows RM.rowN RM.sortOf RM.sizeOf RM.numbers RM.holdsWhat RM.holdsWhich RM.holdsMany o_5.1 o_5.2 RM.actKind RM.actN RM.actA RM.isParted)) (w2 := (wMo K jM aM RM.s RM.held RM.aside RM.before RM.isHeld RM.tape RM.taped RM.token RM.frm RM.to RM.value RM.isWrong RM.unpaired RM.bestSound RM.bestWay RM.rows RM.rowN RM.sortOf RM.sizeOf RM.numbers RM.holdsWhat RM.holdsWhich RM.holdsMany o_5.1 o_5.2 RM.actKind RM.actN RM.actA RM.isParted)) hF (ctX9_runs l D K jM aM RM (51 : Int32) o_5 ho_5 H.size) (cwV 1 hts gX9_mutters_X9_runs rfl rfl rfl hdX9_runs ⟨Nat.le_of_ble_eq_true rfl, Nat.le_of_ble_eq_true rfl⟩) hK hP hD hS hA [0, 1, 2, 3, 4, 5, 6, 7, 8, 9, 10, 11, 12, 13, 14, 15] [] rfl rfl (by decide) (by decide) (by decide) [0, 1, 2, 3, 4, 5, 6, 7, 8, 9, 10, 11, 12, 13, 14, 15] rfl (by decide) (va_recv hK hP (ci := 9) (q0 := 0) rfl rfl) rfl hl.1 rfl (Nat.le_of_ble_eq_true rfl) dX9_mutters_55 ⟨Nat.zero_le _, Nat.zero_le _⟩ (fun H locs hP hD hS => ?_)
    refine lv_aload_n hx hb dX9_mutters_58 rfl (lv_at hl 0 rfl) ?_
    refine lv_iload_n hx hb dX9_mutters_59 rfl (lv_at hl 1 rfl) ?_
    obtain ⟨o_6, ho_6, hf⟩ := ht_bn_ob hf
    refine ht_callVi (r := o_6.1) (rest := []) (As := [.int p0]) (wc := (wMo K jM aM RM.s RM.held RM.aside RM.before RM.isHeld RM.tape RM.taped RM.token RM.frm RM.to RM.value RM.isWrong RM.unpaired RM.bestSound RM.bestWay RM.rows RM.rowN RM.sortOf RM.sizeOf RM.numbers RM.holdsWhat RM.holdsWhich RM.holdsMany o_5.1 o_5.2 RM.actKind RM.actN RM.actA RM.isParted)) (wr := []) (w1 := (wMo K jM aM RM.s RM.held RM.aside RM.before RM.isHeld RM.tape RM.taped RM.token RM.frm RM.to RM.value RM.isWrong RM.unpaired RM.bestSound RM.bestWay RM.rows RM.rowN RM.sortOf RM.sizeOf RM.numbers RM.holdsWhat RM.holdsWhich RM.holdsMany o_6.2.1 o_6.2.2 RM.actKind RM.actN RM.actA RM.isParted)) (w2 := (wMo K jM aM RM.s RM.held RM.aside RM.before RM.isHeld RM.tape RM.taped RM.token RM.frm RM.to RM.value RM.isWrong RM.unpaired RM.bestSound RM.bestWay RM.rows RM.rowN RM.sortOf RM.sizeOf RM.numbers RM.holdsWhat RM.holdsWhich RM.holdsMany o_6.2.1 o_6.2.2 RM.actKind RM.actN RM.actA RM.isParted)) hF (ctX9_muttersPlain l D K jM aM (RM.s, RM.held, RM.aside, RM.before, RM.isHeld, RM.tape, RM.taped, RM.token, RM.frm, RM.to, RM.value, RM.isWrong, RM.unpaired, RM.bestSound, RM.bestWay, RM.rows, RM.rowN, RM.sortOf, RM.sizeOf, RM.numbers, RM.holdsWhat, RM.holdsWhich, RM.holdsMany, o_5.1, o_5.2, RM.actKind, RM.actN, RM.actA, RM.isParted) p0 o_6 ho_6 H.size) (cwV 1 hts gX9_mutters_X9_muttersPlain rfl rfl rfl hdX9_muttersPlain ⟨Nat.le_of_ble_eq_true rfl, Nat.le_of_ble_eq_true rfl⟩) hK hP hD hS hA [0, 1, 2, 3, 4, 5, 6, 7, 8, 9, 10, 11, 12, 13, 14, 15] [] rfl rfl (by decide) (by decide) (by decide) [0, 1, 2, 3, 4, 5, 6, 7, 8, 9, 10, 11, 12, 13, 14, 15] rfl (by decide) (va_recv hK hP (ci := 9) (q0 := 0) rfl rfl) rfl hl.1 rfl (Nat.le_of_ble_eq_true rfl) dX9_mutters_60 ⟨Nat.zero_le _, Nat.zero_le _⟩ (fun H locs hP hD hS => ?_)
    refine lv_bipush (v := 7) hx hb dX9_mutters_63 (by decide) ?_
    refine lv_iadd hx hb dX9_mutters_65 ?_
    have ho := Option.some.inj hf
    subst ho; subst hQ
    exact ht_iret hx hb hr hlk rfl hK hP hD hS dX9_mutters_66
  replace hf := ht_f c_4 hf
  by_cases c_7 : sw_1 = 4
  · replace hf := ht_t c_7 hf
    refine lv_tableIn (tgt := 38) hx hb dX9_mutters_4 (by rw [c_7]; decide) (by rw [c_7]; decide) (by rw [c_7]; rfl) (by decide) ?_
    refine lv_aload_n hx hb dX9_mutters_38 rfl (lv_at hl 0 rfl) ?_
    refine lv_bipush (v := 40) hx hb dX9_mutters_39 (by decide) ?_
    obtain ⟨o_8, ho_8, hf⟩ := ht_bn_ob hf
    refine ht_callVv (rest := []) (As := [.int (40 : Int32)]) (wc := (wMo K jM aM RM.s RM.held RM.aside RM.before RM.isHeld RM.tape RM.taped RM.token RM.frm RM.to RM.value RM.isWrong RM.unpaired RM.bestSound RM.bestWay RM.rows RM.rowN RM.sortOf RM.sizeOf RM.numbers RM.holdsWhat RM.holdsWhich RM.holdsMany RM.bodies RM.ran RM.actKind RM.actN RM.actA RM.isParted)) (wr := []) (w1 := (wMo K jM aM RM.s RM.held RM.aside RM.before RM.isHeld RM.tape RM.taped RM.token RM.frm RM.to RM.value RM.isWrong RM.unpaired RM.bestSound RM.bestWay RM.rows RM.rowN RM.sortOf RM.sizeOf RM.numbers RM.holdsWhat RM.holdsWhich RM.holdsMany o_8.1 o_8.2 RM.actKind RM.actN RM.actA RM.isParted)) (w2 := (wMo K jM aM RM.s RM.held RM.aside RM.before RM.isHeld RM.tape RM.taped RM.token RM.frm RM.to RM.value RM.isWrong RM.unpaired RM.bestSound RM.bestWay RM.rows RM.rowN RM.sortOf RM.sizeOf RM.numbers RM.holdsWhat RM.holdsWhich RM.holdsMany o_8.1 o_8.2 RM.actKind RM.actN RM.actA RM.isParted)) hF (ctX9_runs l D K jM aM RM (40 : Int32) o_8 ho_8 H.size) (cwV 1 hts gX9_mutters_X9_runs rfl rfl rfl hdX9_runs ⟨Nat.le_of_ble_eq_true rfl, Nat.le_of_ble_eq_true rfl⟩) hK hP hD hS hA [0, 1, 2, 3, 4, 5, 6, 7, 8, 9, 10, 11, 12, 13, 14, 15] [] rfl rfl (by decide) (by decide) (by decide) [0, 1, 2, 3, 4, 5, 6, 7, 8, 9, 10, 11, 12, 13, 14, 15] rfl (by decide) (va_recv hK hP (ci := 9) (q0 := 0) rfl rfl) rfl hl.1 rfl (Nat.le_of_ble_eq_true rfl) dX9_mutters_41 ⟨Nat.zero_le _, Nat.zero_le _⟩ (fun H locs hP hD hS => ?_)
    refine lv_aload_n hx hb dX9_mutters_44 rfl (lv_at hl 0 rfl) ?_
    refine lv_iload_n hx hb dX9_mutters_45 rfl (lv_at hl 1 rfl) ?_
    obtain ⟨o_9, ho_9, hf⟩ := ht_bn_ob hf
    refine ht_callVi (r := o_9.1) (rest := []) (As := [.int p0]) (wc := (wMo K jM aM RM.s RM.held RM.aside RM.before RM.isHeld RM.tape RM.taped RM.token RM.frm RM.to RM.value RM.isWrong RM.unpaired RM.bestSound RM.bestWay RM.rows RM.rowN RM.sortOf RM.sizeOf RM.numbers RM.holdsWhat RM.holdsWhich RM.holdsMany o_8.1 o_8.2 RM.actKind RM.actN RM.actA RM.isParted)) (wr := []) (w1 := (wMo K jM aM RM.s RM.held RM.aside RM.before RM.isHeld RM.tape RM.taped RM.token RM.frm RM.to RM.value RM.isWrong RM.unpaired RM.bestSound RM.bestWay RM.rows RM.rowN RM.sortOf RM.sizeOf RM.numbers RM.holdsWhat RM.holdsWhich RM.holdsMany o_9.2.1 o_9.2.2 RM.actKind RM.actN RM.actA RM.isParted)) (w2 := (wMo K jM aM RM.s RM.held RM.aside RM.before RM.isHeld RM.tape RM.taped RM.token RM.frm RM.to RM.value RM.isWrong RM.unpaired RM.bestSound RM.bestWay RM.rows RM.rowN RM.sortOf RM.sizeOf RM.numbers RM.holdsWhat RM.holdsWhich RM.holdsMany o_9.2.1 o_9.2.2 RM.actKind RM.actN RM.actA RM.isParted)) hF (ctX9_muttersOfMonk l D K jM aM (RM.s, RM.held, RM.aside, RM.before, RM.isHeld, RM.tape, RM.taped, RM.token, RM.frm, RM.to, RM.value, RM.isWrong, RM.unpaired, RM.bestSound, RM.bestWay, RM.rows, RM.rowN, RM.sortOf, RM.sizeOf, RM.numbers, RM.holdsWhat, RM.holdsWhich, RM.holdsMany, o_8.1, o_8.2, RM.actKind, RM.actN, RM.actA, RM.isParted) p0 o_9 ho_9 H.size) (cwV 1 hts gX9_mutters_X9_muttersOfMonk rfl rfl rfl hdX9_muttersOfMonk ⟨Nat.le_of_ble_eq_true rfl, Nat.le_of_ble_eq_true rfl⟩) hK hP hD hS hA [0, 1, 2, 3, 4, 5, 6, 7, 8, 9, 10, 11, 12, 13, 14, 15] [] rfl rfl (by decide) (by decide) (by decide) [0, 1, 2, 3, 4, 5, 6, 7, 8, 9, 10, 11, 12, 13, 14, 15] rfl (by decide) (va_recv hK hP (ci := 9) (q0 := 0) rfl rfl) rfl hl.1 rfl (Nat.le_of_ble_eq_true rfl) dX9_mutters_46 ⟨Nat.zero_le _, Nat.zero_le _⟩ (fun H locs hP hD hS => ?_)
    refine lv_iconst (v := 5) hx hb dX9_mutters_49 (by decide) ?_
    refine lv_isub hx hb dX9_mutters_50 ?_
    have ho := Option.some.inj hf
    subst ho; subst hQ
    exact ht_iret hx hb hr hlk rfl hK hP hD hS dX9_mutters_51
  replace hf := ht_f c_7 hf
  refine lv_tableOut (tgt := 67) hx hb dX9_mutters_4 (by have := lv_neT c_2 (a := 2) rfl; have := lv_neT c_4 (a := 3) rfl; have := lv_neT c_7 (a := 4) rfl; omega) (by decide) ?_
  refine lv_aload_n hx hb dX9_mutters_67 rfl (lv_at hl 0 rfl) ?_
  refine lv_iload_n hx hb dX9_mutters_68 rfl (lv_at hl 1 rfl) ?_
  obtain ⟨o_10, ho_10, hf⟩ := ht_bn_ob hf
  refine ht_callVi (r := o_10.1) (rest := []) (As := [.int p0]) (wc := (wMo K jM aM RM.s RM.held RM.aside RM.before RM.isHeld RM.tape RM.taped RM.token RM.frm RM.to RM.value RM.isWrong RM.unpaired RM.bestSound RM.bestWay RM.rows RM.rowN RM.sortOf RM.sizeOf RM.numbers RM.holdsWhat RM.holdsWhich RM.holdsMany RM.bodies RM.ran RM.actKind RM.actN RM.actA RM.isParted)) (wr := []) (w1 := (wMo K jM aM RM.s RM.held RM.aside RM.before RM.isHeld RM.tape RM.taped RM.token RM.frm RM.to RM.value RM.isWrong RM.unpaired RM.bestSound RM.bestWay RM.rows RM.rowN RM.sortOf RM.sizeOf RM.numbers RM.holdsWhat RM.holdsWhich RM.holdsMany o_10.2.1 o_10.2.2 RM.actKind RM.actN RM.actA RM.isParted)) (w2 := (wMo K jM aM RM.s RM.held RM.aside RM.before RM.isHeld RM.tape RM.taped RM.token RM.frm RM.to RM.value RM.isWrong RM.unpaired RM.bestSound RM.bestWay RM.rows RM.rowN RM.sortOf RM.sizeOf RM.numbers RM.holdsWhat RM.holdsWhich RM.holdsMany o_10.2.1 o_10.2.2 RM.actKind RM.actN RM.actA RM.isParted)) hF (ctX9_muttersPlain l D K jM aM RM p0 o_10 ho_10 H.size) (cwV 1 hts gX9_mutters_X9_muttersPlain rfl rfl rfl hdX9_muttersPlain ⟨Nat.le_of_ble_eq_true rfl, Nat.le_of_ble_eq_true rfl⟩) hK hP hD hS hA [0, 1, 2, 3, 4, 5, 6, 7, 8, 9, 10, 11, 12, 13, 14, 15] [] rfl rfl (by decide) (by decide) (by decide) [0, 1, 2, 3, 4, 5, 6, 7, 8, 9, 10, 11, 12, 13, 14, 15] rfl (by decide) (va_recv hK hP (ci := 9) (q0 := 0) rfl rfl) rfl hl.1 rfl (Nat.le_of_ble_eq_true rfl) dX9_mutters_69 ⟨Nat.zero_le _, Nat.zero_le _⟩ (fun H locs hP hD hS => ?_)
  have ho := Option.some.inj hf
  subst ho; subst hQ
  exact ht_iret hx hb hr hlk rfl hK hP hD hS dX9_mutters_72
abbrev rmX9_saysPlain : Room := { frames := 4, cells := 0, slots := 0, locals := 84 }
theorem hdX9_saysPlain : yX9_saysPlain.cls = RX9 ∧ yX9_saysPlain.cls ≠ "java/lang/invoke/MethodHandle" ∧ yX9_saysPlain.cls ≠ "java/lang/invoke/VarHandle" ∧ (parseMethodDescriptor yX9_saysPlain.desc).map (fun d => d.parameters.length) = some 1 := by decide +kernel
def fX9_saysPlain (RM : ModV) (p0 : Int32) : Option (Int32 × AI × Int32) := ht_bn (fX9_runs RM (11 : Int32)) (fun o_1 => ht_bn (fX9_mutters (RM.s, RM.held, RM.aside, RM.before, RM.isHeld, RM.tape, RM.taped, RM.token, RM.frm, RM.to, RM.value, RM.isWrong, RM.unpaired, RM.bestSound, RM.bestWay, RM.rows, RM.rowN, RM.sortOf, RM.sizeOf, RM.numbers, RM.holdsWhat, RM.holdsWhich, RM.holdsMany, o_1.1, o_1.2, RM.actKind, RM.actN, RM.actA, RM.isParted) p0) (fun o_2 => some (((o_2.1 * (2 : Int32)) + RM.actA), o_2.2.1, o_2.2.2)))
set_option maxHeartbeats 1000000 in
set_option maxRecDepth 100000 in
theorem ctX9_saysPlain (l : Launch) (D : va_G) (K : Nat → ClassId) (jM : Nat) (aM : Nat → Nat) (RM : ModV) (p0 : Int32) (o : (Int32 × AI × Int32)) (hf : fX9_saysPlain RM p0 = some o) (sz : Nat) : Met l yX9_saysPlain wsX9_saysPlain rmX9_saysPlain (ht_Pre D K [.ref jM, .int p0] (wMo K jM aM RM.s RM.held RM.aside RM.before RM.isHeld RM.tape RM.taped RM.token RM.frm RM.to RM.value RM.isWrong RM.unpaired RM.bestSound RM.bestWay RM.rows RM.rowN RM.sortOf RM.sizeOf RM.numbers RM.holdsWhat RM.holdsWhich RM.holdsMany RM.bodies RM.ran RM.actKind RM.actN RM.actA RM.isParted) sz) (ht_Qi D K (wMo K jM aM RM.s RM.held RM.aside RM.before RM.isHeld RM.tape RM.taped RM.token RM.frm RM.to RM.value RM.isWrong RM.unpaired RM.bestSound RM.bestWay RM.rows RM.rowN RM.sortOf RM.sizeOf RM.numbers RM.holdsWhat RM.holdsWhich RM.holdsMany o.2.1 o.2.2 RM.actKind RM.actN RM.actA RM.isParted) o.1 (va_A (wMo K jM aM RM.s RM.held RM.aside RM.before RM.isHeld RM.tape RM.taped RM.token RM.frm RM.to RM.value RM.isWrong RM.unpaired RM.bestSound RM.bestWay RM.rows RM.rowN RM.sortOf RM.sizeOf RM.numbers RM.holdsWhat RM.holdsWhich RM.holdsMany RM.bodies RM.ran RM.actKind RM.actN RM.actA RM.isParted) sz)) 0 0 (va_A (wMo K jM aM RM.s RM.held RM.aside RM.before RM.isHeld RM.tape RM.taped RM.token RM.frm RM.to RM.value RM.isWrong RM.unpaired RM.bestSound RM.bestWay RM.rows RM.rowN RM.sortOf RM.sizeOf RM.numbers RM.holdsWhat RM.holdsWhich RM.holdsMany RM.bodies RM.ran RM.actKind RM.actN RM.actA RM.isParted) sz) := by
  refine ht_enter (Qf := ht_Qi D K (wMo K jM aM RM.s RM.held RM.aside RM.before RM.isHeld RM.tape RM.taped RM.token RM.frm RM.to RM.value RM.isWrong RM.unpaired RM.bestSound RM.bestWay RM.rows RM.rowN RM.sortOf RM.sizeOf RM.numbers RM.holdsWhat RM.holdsWhich RM.holdsMany o.2.1 o.2.2 RM.actKind RM.actN RM.actA RM.isParted) o.1) (cc := cX9_saysPlain) (maxL := 2) (rt := (some .int)) (by decide) rfl (Nat.le_of_ble_eq_true rfl) ?_ sz
  intro p e s m below meth c A Q H locs ls hQ hx hb hr hlk hmn hml hown hts hA hK hP hD hS hl
  have hown : s.vm.findClass RX9 = some m.cls := hown
  have hF : CallFix p m c cX9_saysPlain 2 s ([.ref jM, .int p0] : List Value).toArray wsX9_saysPlain RX9 := ⟨hx, hb, hml, hown, hts⟩
  have hl : lv_has ls 2 [(0, .ref jM), (1, .int p0)] := hl
  have iw9 : ∀ w ∈ u_ws RX9 TX9 29, w ∈ wsX9_saysPlain := by decide +kernel
  have kw1 := hts (.fieldLink RX9 315 "HeldTonguesModel" "actA" "I") (by decide +kernel)
  delta fX9_saysPlain at hf
  refine lv_aload_n hx hb dX9_saysPlain_0 rfl (lv_at hl 0 rfl) ?_
  refine lv_bipush (v := 11) hx hb dX9_saysPlain_1 (by decide) ?_
  obtain ⟨o_1, ho_1, hf⟩ := ht_bn_ob hf
  refine ht_callVv (rest := []) (As := [.int (11 : Int32)]) (wc := (wMo K jM aM RM.s RM.held RM.aside RM.before RM.isHeld RM.tape RM.taped RM.token RM.frm RM.to RM.value RM.isWrong RM.unpaired RM.bestSound RM.bestWay RM.rows RM.rowN RM.sortOf RM.sizeOf RM.numbers RM.holdsWhat RM.holdsWhich RM.holdsMany RM.bodies RM.ran RM.actKind RM.actN RM.actA RM.isParted)) (wr := []) (w1 := (wMo K jM aM RM.s RM.held RM.aside RM.before RM.isHeld RM.tape RM.taped RM.token RM.frm RM.to RM.value RM.isWrong RM.unpaired RM.bestSound RM.bestWay RM.rows RM.rowN RM.sortOf RM.sizeOf RM.numbers RM.holdsWhat RM.holdsWhich RM.holdsMany o_1.1 o_1.2 RM.actKind RM.actN RM.actA RM.isParted)) (w2 := (wMo K jM aM RM.s RM.held RM.aside RM.before RM.isHeld RM.tape RM.taped RM.token RM.frm RM.to RM.value RM.isWrong RM.unpaired RM.bestSound RM.bestWay RM.rows RM.rowN RM.sortOf RM.sizeOf RM.numbers RM.holdsWhat RM.holdsWhich RM.holdsMany o_1.1 o_1.2 RM.actKind RM.actN RM.actA RM.isParted)) hF (ctX9_runs l D K jM aM RM (11 : Int32) o_1 ho_1 H.size) (cwV 1 hts gX9_saysPlain_X9_runs rfl rfl rfl hdX9_runs ⟨Nat.le_of_ble_eq_true rfl, Nat.le_of_ble_eq_true rfl⟩) hK hP hD hS hA [0, 1, 2, 3, 4, 5, 6, 7, 8, 9, 10, 11, 12, 13, 14, 15] [] rfl rfl (by decide) (by decide) (by decide) [0, 1, 2, 3, 4, 5, 6, 7, 8, 9, 10, 11, 12, 13, 14, 15] rfl (by decide) (va_recv hK hP (ci := 9) (q0 := 0) rfl rfl) rfl hl.1 rfl (Nat.le_of_ble_eq_true rfl) dX9_saysPlain_3 ⟨Nat.zero_le _, Nat.zero_le _⟩ (fun H locs hP hD hS => ?_)
  refine lv_aload_n hx hb dX9_saysPlain_6 rfl (lv_at hl 0 rfl) ?_
  refine lv_iload_n hx hb dX9_saysPlain_7 rfl (lv_at hl 1 rfl) ?_
  obtain ⟨o_2, ho_2, hf⟩ := ht_bn_ob hf
  refine ht_callVi (r := o_2.1) (rest := []) (As := [.int p0]) (wc := (wMo K jM aM RM.s RM.held RM.aside RM.before RM.isHeld RM.tape RM.taped RM.token RM.frm RM.to RM.value RM.isWrong RM.unpaired RM.bestSound RM.bestWay RM.rows RM.rowN RM.sortOf RM.sizeOf RM.numbers RM.holdsWhat RM.holdsWhich RM.holdsMany o_1.1 o_1.2 RM.actKind RM.actN RM.actA RM.isParted)) (wr := []) (w1 := (wMo K jM aM RM.s RM.held RM.aside RM.before RM.isHeld RM.tape RM.taped RM.token RM.frm RM.to RM.value RM.isWrong RM.unpaired RM.bestSound RM.bestWay RM.rows RM.rowN RM.sortOf RM.sizeOf RM.numbers RM.holdsWhat RM.holdsWhich RM.holdsMany o_2.2.1 o_2.2.2 RM.actKind RM.actN RM.actA RM.isParted)) (w2 := (wMo K jM aM RM.s RM.held RM.aside RM.before RM.isHeld RM.tape RM.taped RM.token RM.frm RM.to RM.value RM.isWrong RM.unpaired RM.bestSound RM.bestWay RM.rows RM.rowN RM.sortOf RM.sizeOf RM.numbers RM.holdsWhat RM.holdsWhich RM.holdsMany o_2.2.1 o_2.2.2 RM.actKind RM.actN RM.actA RM.isParted)) hF (ctX9_mutters l D K jM aM (RM.s, RM.held, RM.aside, RM.before, RM.isHeld, RM.tape, RM.taped, RM.token, RM.frm, RM.to, RM.value, RM.isWrong, RM.unpaired, RM.bestSound, RM.bestWay, RM.rows, RM.rowN, RM.sortOf, RM.sizeOf, RM.numbers, RM.holdsWhat, RM.holdsWhich, RM.holdsMany, o_1.1, o_1.2, RM.actKind, RM.actN, RM.actA, RM.isParted) p0 o_2 ho_2 H.size) (cwV 1 hts gX9_saysPlain_X9_mutters rfl rfl rfl hdX9_mutters ⟨Nat.le_of_ble_eq_true rfl, Nat.le_of_ble_eq_true rfl⟩) hK hP hD hS hA [0, 1, 2, 3, 4, 5, 6, 7, 8, 9, 10, 11, 12, 13, 14, 15] [] rfl rfl (by decide) (by decide) (by decide) [0, 1, 2, 3, 4, 5, 6, 7, 8, 9, 10, 11, 12, 13, 14, 15] rfl (by decide) (va_recv hK hP (ci := 9) (q0 := 0) rfl rfl) rfl hl.1 rfl (Nat.le_of_ble_eq_true rfl) dX9_saysPlain_8 ⟨Nat.zero_le _, Nat.zero_le _⟩ (fun H locs hP hD hS => ?_)
  refine lv_iconst (v := 2) hx hb dX9_saysPlain_11 (by decide) ?_
  refine lv_imul hx hb dX9_saysPlain_12 ?_
  refine lv_aload_n hx hb dX9_saysPlain_13 rfl (lv_at hl 0 rfl) ?_
  refine va_get (D := D) (ci := 9) (v := .int RM.actA) (C := RX9) (T := TX9) (N := 29) hx hb hts iw9 hown hK hP 0 rfl rfl 27 (by decide) kw1 (fun _ h9 => h9) rfl dX9_saysPlain_14 ?_
  refine lv_iadd hx hb dX9_saysPlain_17 ?_
  have ho := Option.some.inj hf
  subst ho; subst hQ
  exact ht_iret hx hb hr hlk rfl hK hP hD hS dX9_saysPlain_18
abbrev rmX9_says : Room := { frames := 5, cells := 0, slots := 0, locals := 105 }
theorem hdX9_says : yX9_says.cls = RX9 ∧ yX9_says.cls ≠ "java/lang/invoke/MethodHandle" ∧ yX9_says.cls ≠ "java/lang/invoke/VarHandle" ∧ (parseMethodDescriptor yX9_says.desc).map (fun d => d.parameters.length) = some 1 := by decide +kernel
def fX9_says_b16 (RM : ModV) (x1 : Int32) (vM_bodies : AI) (vM_ran : Int32) : Option (Int32 × AI × Int32) := ht_bn (fX9_runs (RM.s, RM.held, RM.aside, RM.before, RM.isHeld, RM.tape, RM.taped, RM.token, RM.frm, RM.to, RM.value, RM.isWrong, RM.unpaired, RM.bestSound, RM.bestWay, RM.rows, RM.rowN, RM.sortOf, RM.sizeOf, RM.numbers, RM.holdsWhat, RM.holdsWhich, RM.holdsMany, vM_bodies, vM_ran, RM.actKind, RM.actN, RM.actA, RM.isParted) (20 : Int32)) (fun o_1 => ht_bn (fX9_saysPlain (RM.s, RM.held, RM.aside, RM.before, RM.isHeld, RM.tape, RM.taped, RM.token, RM.frm, RM.to, RM.value, RM.isWrong, RM.unpaired, RM.bestSound, RM.bestWay, RM.rows, RM.rowN, RM.sortOf, RM.sizeOf, RM.numbers, RM.holdsWhat, RM.holdsWhich, RM.holdsMany, o_1.1, o_1.2, RM.actKind, RM.actN, RM.actA, RM.isParted) x1) (fun o_2 => some ((o_2.1 * (3 : Int32)), o_2.2.1, o_2.2.2)))
def fX9_says (RM : ModV) (p0 : Int32) : Option (Int32 × AI × Int32) := if RM.actKind = (1 : Int32) then (fX9_says_b16 RM p0 RM.bodies RM.ran) else (if RM.actKind = (3 : Int32) then (fX9_says_b16 RM p0 RM.bodies RM.ran) else (if RM.actKind = (4 : Int32) then (ht_bn (fX9_runs RM (41 : Int32)) (fun o_7 => ht_bn (fX9_saysPlain (RM.s, RM.held, RM.aside, RM.before, RM.isHeld, RM.tape, RM.taped, RM.token, RM.frm, RM.to, RM.value, RM.isWrong, RM.unpaired, RM.bestSound, RM.bestWay, RM.rows, RM.rowN, RM.sortOf, RM.sizeOf, RM.numbers, RM.holdsWhat, RM.holdsWhich, RM.holdsMany, o_7.1, o_7.2, RM.actKind, RM.actN, RM.actA, RM.isParted) p0) (fun o_8 => ht_nm o_8.1 (fun x2_9 => ht_bn (fX9_mutters (RM.s, RM.held, RM.aside, RM.before, RM.isHeld, RM.tape, RM.taped, RM.token, RM.frm, RM.to, RM.value, RM.isWrong, RM.unpaired, RM.bestSound, RM.bestWay, RM.rows, RM.rowN, RM.sortOf, RM.sizeOf, RM.numbers, RM.holdsWhat, RM.holdsWhich, RM.holdsMany, o_8.2.1, o_8.2.2, RM.actKind, RM.actN, RM.actA, RM.isParted) RM.actA) (fun o_10 => some ((x2_9 ^^^ o_10.1), o_10.2.1, o_10.2.2)))))) else (ht_bn (fX9_saysPlain RM p0) (fun o_6 => some (o_6.1, o_6.2.1, o_6.2.2)))))
set_option maxHeartbeats 1000000 in
set_option maxRecDepth 100000 in
theorem ctX9_says (l : Launch) (D : va_G) (K : Nat → ClassId) (jM : Nat) (aM : Nat → Nat) (RM : ModV) (p0 : Int32) (o : (Int32 × AI × Int32)) (hf : fX9_says RM p0 = some o) (sz : Nat) : Met l yX9_says wsX9_says rmX9_says (ht_Pre D K [.ref jM, .int p0] (wMo K jM aM RM.s RM.held RM.aside RM.before RM.isHeld RM.tape RM.taped RM.token RM.frm RM.to RM.value RM.isWrong RM.unpaired RM.bestSound RM.bestWay RM.rows RM.rowN RM.sortOf RM.sizeOf RM.numbers RM.holdsWhat RM.holdsWhich RM.holdsMany RM.bodies RM.ran RM.actKind RM.actN RM.actA RM.isParted) sz) (ht_Qi D K (wMo K jM aM RM.s RM.held RM.aside RM.before RM.isHeld RM.tape RM.taped RM.token RM.frm RM.to RM.value RM.isWrong RM.unpaired RM.bestSound RM.bestWay RM.rows RM.rowN RM.sortOf RM.sizeOf RM.numbers RM.holdsWhat RM.holdsWhich RM.holdsMany o.2.1 o.2.2 RM.actKind RM.actN RM.actA RM.isParted) o.1 (va_A (wMo K jM aM RM.s RM.held RM.aside RM.before RM.isHeld RM.tape RM.taped RM.token RM.frm RM.to RM.value RM.isWrong RM.unpaired RM.bestSound RM.bestWay RM.rows RM.rowN RM.sortOf RM.sizeOf RM.numbers RM.holdsWhat RM.holdsWhich RM.holdsMany RM.bodies RM.ran RM.actKind RM.actN RM.actA RM.isParted) sz)) 0 0 (va_A (wMo K jM aM RM.s RM.held RM.aside RM.before RM.isHeld RM.tape RM.taped RM.token RM.frm RM.to RM.value RM.isWrong RM.unpaired RM.bestSound RM.bestWay RM.rows RM.rowN RM.sortOf RM.sizeOf RM.numbers RM.holdsWhat RM.holdsWhich RM.holdsMany RM.bodies RM.ran RM.actKind RM.actN RM.actA RM.isParted) sz) := by
  refine ht_enter (Qf := ht_Qi D K (wMo K jM aM RM.s RM.held RM.aside RM.before RM.isHeld RM.tape RM.taped RM.token RM.frm RM.to RM.value RM.isWrong RM.unpaired RM.bestSound RM.bestWay RM.rows RM.rowN RM.sortOf RM.sizeOf RM.numbers RM.holdsWhat RM.holdsWhich RM.holdsMany o.2.1 o.2.2 RM.actKind RM.actN RM.actA RM.isParted) o.1) (cc := cX9_says) (maxL := 3) (rt := (some .int)) (by decide) rfl (Nat.le_of_ble_eq_true rfl) ?_ sz
  intro p e s m below meth c A Q H locs ls hQ hx hb hr hlk hmn hml hown hts hA hK hP hD hS hl
  have hown : s.vm.findClass RX9 = some m.cls := hown
  have hF : CallFix p m c cX9_says 3 s ([.ref jM, .int p0] : List Value).toArray wsX9_says RX9 := ⟨hx, hb, hml, hown, hts⟩
  have hl : lv_has ls 3 [(0, .ref jM), (1, .int p0)] := hl
  have iw9 : ∀ w ∈ u_ws RX9 TX9 29, w ∈ wsX9_says := by decide +kernel
  have kw1 := hts (.fieldLink RX9 306 "HeldTonguesModel" "actKind" "I") (by decide +kernel)
  have kw2 := hts (.fieldLink RX9 315 "HeldTonguesModel" "actA" "I") (by decide +kernel)
  have b16 : ∀ (x1 : Int32) (vM_bodies : AI) (vM_ran : Int32) (H : Heap) (locs : List Loc) (ls : Array Slot), fX9_says_b16 RM x1 vM_bodies vM_ran = some o → va_P D vwCl (wMo K jM aM RM.s RM.held RM.aside RM.before RM.isHeld RM.tape RM.taped RM.token RM.frm RM.to RM.value RM.isWrong RM.unpaired RM.bestSound RM.bestWay RM.rows RM.rowN RM.sortOf RM.sizeOf RM.numbers RM.holdsWhat RM.holdsWhich RM.holdsMany vM_bodies vM_ran RM.actKind RM.actN RM.actA RM.isParted) H → va_D A (wMo K jM aM RM.s RM.held RM.aside RM.before RM.isHeld RM.tape RM.taped RM.token RM.frm RM.to RM.value RM.isWrong RM.unpaired RM.bestSound RM.bestWay RM.rows RM.rowN RM.sortOf RM.sizeOf RM.numbers RM.holdsWhat RM.holdsWhich RM.holdsMany vM_bodies vM_ran RM.actKind RM.actN RM.actA RM.isParted) → va_S A s.heap H locs → lv_has ls 3 [(0, .ref jM), (1, .int x1)] → W p l e (headSpec wsX9_says rmX9_says).room s m ([.ref jM, .int p0] : List Value).toArray below meth c H locs 0 0 Q (F0 m 16 ls []) := by
    intro x1 vM_bodies vM_ran H locs ls hf hP hD hS hl
    delta fX9_says_b16 at hf
    refine lv_aload_n hx hb dX9_says_16 rfl (lv_at hl 0 rfl) ?_
    refine lv_bipush (v := 20) hx hb dX9_says_17 (by decide) ?_
    obtain ⟨o_1, ho_1, hf⟩ := ht_bn_ob hf
    refine ht_callVv (rest := []) (As := [.int (20 : Int32)]) (wc := (wMo K jM aM RM.s RM.held RM.aside RM.before RM.isHeld RM.tape RM.taped RM.token RM.frm RM.to RM.value RM.isWrong RM.unpaired RM.bestSound RM.bestWay RM.rows RM.rowN RM.sortOf RM.sizeOf RM.numbers RM.holdsWhat RM.holdsWhich RM.holdsMany vM_bodies vM_ran RM.actKind RM.actN RM.actA RM.isParted)) (wr := []) (w1 := (wMo K jM aM RM.s RM.held RM.aside RM.before RM.isHeld RM.tape RM.taped RM.token RM.frm RM.to RM.value RM.isWrong RM.unpaired RM.bestSound RM.bestWay RM.rows RM.rowN RM.sortOf RM.sizeOf RM.numbers RM.holdsWhat RM.holdsWhich RM.holdsMany o_1.1 o_1.2 RM.actKind RM.actN RM.actA RM.isParted)) (w2 := (wMo K jM aM RM.s RM.held RM.aside RM.before RM.isHeld RM.tape RM.taped RM.token RM.frm RM.to RM.value RM.isWrong RM.unpaired RM.bestSound RM.bestWay RM.rows RM.rowN RM.sortOf RM.sizeOf RM.numbers RM.holdsWhat RM.holdsWhich RM.holdsMany o_1.1 o_1.2 RM.actKind RM.actN RM.actA RM.isParted)) hF (ctX9_runs l D K jM aM (RM.s, RM.held, RM.aside, RM.before, RM.isHeld, RM.tape, RM.taped, RM.token, RM.frm, RM.to, RM.value, RM.isWrong, RM.unpaired, RM.bestSound, RM.bestWay, RM.rows, RM.rowN, RM.sortOf, RM.sizeOf, RM.numbers, RM.holdsWhat, RM.holdsWhich, RM.holdsMany, vM_bodies, vM_ran, RM.actKind, RM.actN, RM.actA, RM.isParted) (20 : Int32) o_1 ho_1 H.size) (cwV 1 hts gX9_says_X9_runs rfl rfl rfl hdX9_runs ⟨Nat.le_of_ble_eq_true rfl, Nat.le_of_ble_eq_true rfl⟩) hK hP hD hS hA [0, 1, 2, 3, 4, 5, 6, 7, 8, 9, 10, 11, 12, 13, 14, 15] [] rfl rfl (by decide) (by decide) (by decide) [0, 1, 2, 3, 4, 5, 6, 7, 8, 9, 10, 11, 12, 13, 14, 15] rfl (by decide) (va_recv hK hP (ci := 9) (q0 := 0) rfl rfl) rfl hl.1 rfl (Nat.le_of_ble_eq_true rfl) dX9_says_19 ⟨Nat.zero_le _, Nat.zero_le _⟩ (fun H locs hP hD hS => ?_)
    refine lv_aload_n hx hb dX9_says_22 rfl (lv_at hl 0 rfl) ?_
    refine lv_iload_n hx hb dX9_says_23 rfl (lv_at hl 1 rfl) ?_
    obtain ⟨o_2, ho_2, hf⟩ := ht_bn_ob hf
    refine ht_callVi (r := o_2.1) (rest := []) (As := [.int x1]) (wc := (wMo K jM aM RM.s RM.held RM.aside RM.before RM.isHeld RM.tape RM.taped RM.token RM.frm RM.to RM.value RM.isWrong RM.unpaired RM.bestSound RM.bestWay RM.rows RM.rowN RM.sortOf RM.sizeOf RM.numbers RM.holdsWhat RM.holdsWhich RM.holdsMany o_1.1 o_1.2 RM.actKind RM.actN RM.actA RM.isParted)) (wr := []) (w1 := (wMo K jM aM RM.s RM.held RM.aside RM.before RM.isHeld RM.tape RM.taped RM.token RM.frm RM.to RM.value RM.isWrong RM.unpaired RM.bestSound RM.bestWay RM.rows RM.rowN RM.sortOf RM.sizeOf RM.numbers RM.holdsWhat RM.holdsWhich RM.holdsMany o_2.2.1 o_2.2.2 RM.actKind RM.actN RM.actA RM.isParted)) (w2 := (wMo K jM aM RM.s RM.held RM.aside RM.before RM.isHeld RM.tape RM.taped RM.token RM.frm RM.to RM.value RM.isWrong RM.unpaired RM.bestSound RM.bestWay RM.rows RM.rowN RM.sortOf RM.sizeOf RM.numbers RM.holdsWhat RM.holdsWhich RM.holdsMany o_2.2.1 o_2.2.2 RM.actKind RM.actN RM.actA RM.isParted)) hF (ctX9_saysPlain l D K jM aM (RM.s, RM.held, RM.aside, RM.before, RM.isHeld, RM.tape, RM.taped, RM.token, RM.frm, RM.to, RM.value, RM.isWrong, RM.unpaired, RM.bestSound, RM.bestWay, RM.rows, RM.rowN, RM.sortOf, RM.sizeOf, RM.numbers, RM.holdsWhat, RM.holdsWhich, RM.holdsMany, o_1.1, o_1.2, RM.actKind, RM.actN, RM.actA, RM.isParted) x1 o_2 ho_2 H.size) (cwV 1 hts gX9_says_X9_saysPlain rfl rfl rfl hdX9_saysPlain ⟨Nat.le_of_ble_eq_true rfl, Nat.le_of_ble_eq_true rfl⟩) hK hP hD hS hA [0, 1, 2, 3, 4, 5, 6, 7, 8, 9, 10, 11, 12, 13, 14, 15] [] rfl rfl (by decide) (by decide) (by decide) [0, 1, 2, 3, 4, 5, 6, 7, 8, 9, 10, 11, 12, 13, 14, 15] rfl (by decide) (va_recv hK hP (ci := 9) (q0 := 0) rfl rfl) rfl hl.1 rfl (Nat.le_of_ble_eq_true rfl) dX9_says_24 ⟨Nat.zero_le _, Nat.zero_le _⟩ (fun H locs hP hD hS => ?_)
    refine lv_iconst (v := 3) hx hb dX9_says_27 (by decide) ?_
    refine lv_imul hx hb dX9_says_28 ?_
    have ho := Option.some.inj hf
    subst ho; subst hQ
    exact ht_iret hx hb hr hlk rfl hK hP hD hS dX9_says_29
  delta fX9_says at hf
  refine lv_aload_n hx hb dX9_says_0 rfl (lv_at hl 0 rfl) ?_
  refine va_get (D := D) (ci := 9) (v := .int RM.actKind) (C := RX9) (T := TX9) (N := 29) hx hb hts iw9 hown hK hP 0 rfl rfl 25 (by decide) kw1 (fun _ h9 => h9) rfl dX9_says_1 ?_
  refine lv_iconst (v := 1) hx hb dX9_says_4 (by decide) ?_
  refine lv_icmp_eq (tgt := 16) hx hb dX9_says_5 (by decide) (fun c_3 => ?_) (fun c_3 => ?_)
  · replace hf := ht_t c_3 hf
    exact b16  p0 RM.bodies RM.ran _ _ _ hf hP hD hS hl
  · replace hf := ht_f c_3 hf
    refine lv_aload_n hx hb dX9_says_8 rfl (lv_at hl 0 rfl) ?_
    refine va_get (D := D) (ci := 9) (v := .int RM.actKind) (C := RX9) (T := TX9) (N := 29) hx hb hts iw9 hown hK hP 0 rfl rfl 25 (by decide) kw1 (fun _ h9 => h9) rfl dX9_says_9 ?_
    refine lv_iconst (v := 3) hx hb dX9_says_12 (by decide) ?_
    refine lv_icmp_ne (tgt := 30) hx hb dX9_says_13 (by decide) (fun c_4 => ?_) (fun c_4 => ?_)
    · replace hf := ht_f c_4 hf
      refine lv_aload_n hx hb dX9_says_30 rfl (lv_at hl 0 rfl) ?_
      refine va_get (D := D) (ci := 9) (v := .int RM.actKind) (C := RX9) (T := TX9) (N := 29) hx hb hts iw9 hown hK hP 0 rfl rfl 25 (by decide) kw1 (fun _ h9 => h9) rfl dX9_says_31 ?_
      refine lv_iconst (v := 4) hx hb dX9_says_34 (by decide) ?_
      refine lv_icmp_ne (tgt := 61) hx hb dX9_says_35 (by decide) (fun c_5 => ?_) (fun c_5 => ?_)
      · replace hf := ht_f c_5 hf
        refine lv_aload_n hx hb dX9_says_61 rfl (lv_at hl 0 rfl) ?_
        refine lv_iload_n hx hb dX9_says_62 rfl (lv_at hl 1 rfl) ?_
        obtain ⟨o_6, ho_6, hf⟩ := ht_bn_ob hf
        refine ht_callVi (r := o_6.1) (rest := []) (As := [.int p0]) (wc := (wMo K jM aM RM.s RM.held RM.aside RM.before RM.isHeld RM.tape RM.taped RM.token RM.frm RM.to RM.value RM.isWrong RM.unpaired RM.bestSound RM.bestWay RM.rows RM.rowN RM.sortOf RM.sizeOf RM.numbers RM.holdsWhat RM.holdsWhich RM.holdsMany RM.bodies RM.ran RM.actKind RM.actN RM.actA RM.isParted)) (wr := []) (w1 := (wMo K jM aM RM.s RM.held RM.aside RM.before RM.isHeld RM.tape RM.taped RM.token RM.frm RM.to RM.value RM.isWrong RM.unpaired RM.bestSound RM.bestWay RM.rows RM.rowN RM.sortOf RM.sizeOf RM.numbers RM.holdsWhat RM.holdsWhich RM.holdsMany o_6.2.1 o_6.2.2 RM.actKind RM.actN RM.actA RM.isParted)) (w2 := (wMo K jM aM RM.s RM.held RM.aside RM.before RM.isHeld RM.tape RM.taped RM.token RM.frm RM.to RM.value RM.isWrong RM.unpaired RM.bestSound RM.bestWay RM.rows RM.rowN RM.sortOf RM.sizeOf RM.numbers RM.holdsWhat RM.holdsWhich RM.holdsMany o_6.2.1 o_6.2.2 RM.actKind RM.actN RM.actA RM.isParted)) hF (ctX9_saysPlain l D K jM aM RM p0 o_6 ho_6 H.size) (cwV 1 hts gX9_says_X9_saysPlain rfl rfl rfl hdX9_saysPlain ⟨Nat.le_of_ble_eq_true rfl, Nat.le_of_ble_eq_true rfl⟩) hK hP hD hS hA [0, 1, 2, 3, 4, 5, 6, 7, 8, 9, 10, 11, 12, 13, 14, 15] [] rfl rfl (by decide) (by decide) (by decide) [0, 1, 2, 3, 4, 5, 6, 7, 8, 9, 10, 11, 12, 13, 14, 15] rfl (by decide) (va_recv hK hP (ci := 9) (q0 := 0) rfl rfl) rfl hl.1 rfl (Nat.le_of_ble_eq_true rfl) dX9_says_63 ⟨Nat.zero_le _, Nat.zero_le _⟩ (fun H locs hP hD hS => ?_)
        have ho := Option.some.inj hf
        subst ho; subst hQ
        exact ht_iret hx hb hr hlk rfl hK hP hD hS dX9_says_66
      · replace hf := ht_t c_5 hf
        refine lv_aload_n hx hb dX9_says_38 rfl (lv_at hl 0 rfl) ?_
        refine lv_bipush (v := 41) hx hb dX9_says_39 (by decide) ?_
        obtain ⟨o_7, ho_7, hf⟩ := ht_bn_ob hf
        refine ht_callVv (rest := []) (As := [.int (41 : Int32)]) (wc := (wMo K jM aM RM.s RM.held RM.aside RM.before RM.isHeld RM.tape RM.taped RM.token RM.frm RM.to RM.value RM.isWrong RM.unpaired RM.bestSound RM.bestWay RM.rows RM.rowN RM.sortOf RM.sizeOf RM.numbers RM.holdsWhat RM.holdsWhich RM.holdsMany RM.bodies RM.ran RM.actKind RM.actN RM.actA RM.isParted)) (wr := []) (w1 := (wMo K jM aM RM.s RM.held RM.aside RM.before RM.isHeld RM.tape RM.taped RM.token RM.frm RM.to RM.value RM.isWrong RM.unpaired RM.bestSound RM.bestWay RM.rows RM.rowN RM.sortOf RM.sizeOf RM.numbers RM.holdsWhat RM.holdsWhich RM.holdsMany o_7.1 o_7.2 RM.actKind RM.actN RM.actA RM.isParted)) (w2 := (wMo K jM aM RM.s RM.held RM.aside RM.before RM.isHeld RM.tape RM.taped RM.token RM.frm RM.to RM.value RM.isWrong RM.unpaired RM.bestSound RM.bestWay RM.rows RM.rowN RM.sortOf RM.sizeOf RM.numbers RM.holdsWhat RM.holdsWhich RM.holdsMany o_7.1 o_7.2 RM.actKind RM.actN RM.actA RM.isParted)) hF (ctX9_runs l D K jM aM RM (41 : Int32) o_7 ho_7 H.size) (cwV 1 hts gX9_says_X9_runs rfl rfl rfl hdX9_runs ⟨Nat.le_of_ble_eq_true rfl, Nat.le_of_ble_eq_true rfl⟩) hK hP hD hS hA [0, 1, 2, 3, 4, 5, 6, 7, 8, 9, 10, 11, 12, 13, 14, 15] [] rfl rfl (by decide) (by decide) (by decide) [0, 1, 2, 3, 4, 5, 6, 7, 8, 9, 10, 11, 12, 13, 14, 15] rfl (by decide) (va_recv hK hP (ci := 9) (q0 := 0) rfl rfl) rfl hl.1 rfl (Nat.le_of_ble_eq_true rfl) dX9_says_41 ⟨Nat.zero_le _, Nat.zero_le _⟩ (fun H locs hP hD hS => ?_)
        refine lv_aload_n hx hb dX9_says_44 rfl (lv_at hl 0 rfl) ?_
        refine lv_iload_n hx hb dX9_says_45 rfl (lv_at hl 1 rfl) ?_
        obtain ⟨o_8, ho_8, hf⟩ := ht_bn_ob hf
        refine ht_callVi (r := o_8.1) (rest := []) (As := [.int p0]) (wc := (wMo K jM aM RM.s RM.held RM.aside RM.before RM.isHeld RM.tape RM.taped RM.token RM.frm RM.to RM.value RM.isWrong RM.unpaired RM.bestSound RM.bestWay RM.rows RM.rowN RM.sortOf RM.sizeOf RM.numbers RM.holdsWhat RM.holdsWhich RM.holdsMany o_7.1 o_7.2 RM.actKind RM.actN RM.actA RM.isParted)) (wr := []) (w1 := (wMo K jM aM RM.s RM.held RM.aside RM.before RM.isHeld RM.tape RM.taped RM.token RM.frm RM.to RM.value RM.isWrong RM.unpaired RM.bestSound RM.bestWay RM.rows RM.rowN RM.sortOf RM.sizeOf RM.numbers RM.holdsWhat RM.holdsWhich RM.holdsMany o_8.2.1 o_8.2.2 RM.actKind RM.actN RM.actA RM.isParted)) (w2 := (wMo K jM aM RM.s RM.held RM.aside RM.before RM.isHeld RM.tape RM.taped RM.token RM.frm RM.to RM.value RM.isWrong RM.unpaired RM.bestSound RM.bestWay RM.rows RM.rowN RM.sortOf RM.sizeOf RM.numbers RM.holdsWhat RM.holdsWhich RM.holdsMany o_8.2.1 o_8.2.2 RM.actKind RM.actN RM.actA RM.isParted)) hF (ctX9_saysPlain l D K jM aM (RM.s, RM.held, RM.aside, RM.before, RM.isHeld, RM.tape, RM.taped, RM.token, RM.frm, RM.to, RM.value, RM.isWrong, RM.unpaired, RM.bestSound, RM.bestWay, RM.rows, RM.rowN, RM.sortOf, RM.sizeOf, RM.numbers, RM.holdsWhat, RM.holdsWhich, RM.holdsMany, o_7.1, o_7.2, RM.actKind, RM.actN, RM.actA, RM.isParted) p0 o_8 ho_8 H.size) (cwV 1 hts gX9_says_X9_saysPlain rfl rfl rfl hdX9_saysPlain ⟨Nat.le_of_ble_eq_true rfl, Nat.le_of_ble_eq_true rfl⟩) hK hP hD hS hA [0, 1, 2, 3, 4, 5, 6, 7, 8, 9, 10, 11, 12, 13, 14, 15] [] rfl rfl (by decide) (by decide) (by decide) [0, 1, 2, 3, 4, 5, 6, 7, 8, 9, 10, 11, 12, 13, 14, 15] rfl (by decide) (va_recv hK hP (ci := 9) (q0 := 0) rfl rfl) rfl hl.1 rfl (Nat.le_of_ble_eq_true rfl) dX9_says_46 ⟨Nat.zero_le _, Nat.zero_le _⟩ (fun H locs hP hD hS => ?_)
        obtain ⟨x2_9, ex2_9, hf⟩ := ht_nm_ob hf
        rw [← ex2_9]
        refine lv_istore_n (lv' := [(2, .int x2_9), (0, .ref jM), (1, .int p0)]) hx hb dX9_says_49 rfl hl (by decide) rfl (fun ls hl => ?_)
        refine lv_iload_n hx hb dX9_says_50 rfl (lv_at hl 0 rfl) ?_
        refine lv_aload_n hx hb dX9_says_51 rfl (lv_at hl 1 rfl) ?_
        refine lv_aload_n hx hb dX9_says_52 rfl (lv_at hl 1 rfl) ?_
        refine va_get (D := D) (ci := 9) (v := .int RM.actA) (C := RX9) (T := TX9) (N := 29) hx hb hts iw9 hown hK hP 0 rfl rfl 27 (by decide) kw2 (fun _ h9 => h9) rfl dX9_says_53 ?_
        obtain ⟨o_10, ho_10, hf⟩ := ht_bn_ob hf
        refine ht_callVi (r := o_10.1) (rest := [.int x2_9]) (As := [.int RM.actA]) (wc := (wMo K jM aM RM.s RM.held RM.aside RM.before RM.isHeld RM.tape RM.taped RM.token RM.frm RM.to RM.value RM.isWrong RM.unpaired RM.bestSound RM.bestWay RM.rows RM.rowN RM.sortOf RM.sizeOf RM.numbers RM.holdsWhat RM.holdsWhich RM.holdsMany o_8.2.1 o_8.2.2 RM.actKind RM.actN RM.actA RM.isParted)) (wr := []) (w1 := (wMo K jM aM RM.s RM.held RM.aside RM.before RM.isHeld RM.tape RM.taped RM.token RM.frm RM.to RM.value RM.isWrong RM.unpaired RM.bestSound RM.bestWay RM.rows RM.rowN RM.sortOf RM.sizeOf RM.numbers RM.holdsWhat RM.holdsWhich RM.holdsMany o_10.2.1 o_10.2.2 RM.actKind RM.actN RM.actA RM.isParted)) (w2 := (wMo K jM aM RM.s RM.held RM.aside RM.before RM.isHeld RM.tape RM.taped RM.token RM.frm RM.to RM.value RM.isWrong RM.unpaired RM.bestSound RM.bestWay RM.rows RM.rowN RM.sortOf RM.sizeOf RM.numbers RM.holdsWhat RM.holdsWhich RM.holdsMany o_10.2.1 o_10.2.2 RM.actKind RM.actN RM.actA RM.isParted)) hF (ctX9_mutters l D K jM aM (RM.s, RM.held, RM.aside, RM.before, RM.isHeld, RM.tape, RM.taped, RM.token, RM.frm, RM.to, RM.value, RM.isWrong, RM.unpaired, RM.bestSound, RM.bestWay, RM.rows, RM.rowN, RM.sortOf, RM.sizeOf, RM.numbers, RM.holdsWhat, RM.holdsWhich, RM.holdsMany, o_8.2.1, o_8.2.2, RM.actKind, RM.actN, RM.actA, RM.isParted) RM.actA o_10 ho_10 H.size) (cwV 1 hts gX9_says_X9_mutters rfl rfl rfl hdX9_mutters ⟨Nat.le_of_ble_eq_true rfl, Nat.le_of_ble_eq_true rfl⟩) hK hP hD hS hA [0, 1, 2, 3, 4, 5, 6, 7, 8, 9, 10, 11, 12, 13, 14, 15] [] rfl rfl (by decide) (by decide) (by decide) [0, 1, 2, 3, 4, 5, 6, 7, 8, 9, 10, 11, 12, 13, 14, 15] rfl (by decide) (va_recv hK hP (ci := 9) (q0 := 0) rfl rfl) rfl hl.1 rfl (Nat.le_of_ble_eq_true rfl) dX9_says_56 ⟨Nat.zero_le _, Nat.zero_le _⟩ (fun H locs hP hD hS => ?_)
        refine lv_ixor hx hb dX9_says_59 ?_
        have ho := Option.some.inj hf
        subst ho; subst hQ
        exact ht_iret hx hb hr hlk rfl hK hP hD hS dX9_says_60
    · replace hf := ht_t c_4 hf
      exact b16  p0 RM.bodies RM.ran _ _ _ hf hP hD hS hl
abbrev rmX9_partsPlain : Room := { frames := 1, cells := 0, slots := 0, locals := 21 }
theorem hdX9_partsPlain : yX9_partsPlain.cls = RX9 ∧ yX9_partsPlain.cls ≠ "java/lang/invoke/MethodHandle" ∧ yX9_partsPlain.cls ≠ "java/lang/invoke/VarHandle" ∧ (parseMethodDescriptor yX9_partsPlain.desc).map (fun d => d.parameters.length) = some 1 := by decide +kernel
def fX9_partsPlain_b30 (RM : ModV) (x1 : Int32) (t1 : Int32) (vM_bodies : AI) (vM_ran : Int32) (vM_isParted : Int32) : Option (Int32 × AI × Int32 × Int32) := ht_gd (ht_bz t1) (if t1 = 0 then (ht_gd (ht_nz (RM.actA - RM.actN)) (some ((x1 / (RM.actA - RM.actN)), vM_bodies, vM_ran, t1))) else (some ((0 : Int32), vM_bodies, vM_ran, t1)))
def fX9_partsPlain_b25 (RM : ModV) (x1 : Int32) (vM_bodies : AI) (vM_ran : Int32) (vM_isParted : Int32) : Option (Int32 × AI × Int32 × Int32) := fX9_partsPlain_b30 RM x1 (1 : Int32) vM_bodies vM_ran vM_isParted
def fX9_partsPlain (RM : ModV) (p0 : Int32) : Option (Int32 × AI × Int32 × Int32) := ht_bn (fX9_runs RM (12 : Int32)) (fun o_4 => if RM.isParted = 0 then (if RM.actN = RM.actA then (fX9_partsPlain_b25 RM p0 o_4.1 o_4.2 RM.isParted) else (fX9_partsPlain_b30 RM p0 (0 : Int32) o_4.1 o_4.2 RM.isParted)) else (fX9_partsPlain_b25 RM p0 o_4.1 o_4.2 RM.isParted))
set_option maxHeartbeats 1000000 in
set_option maxRecDepth 100000 in
theorem ctX9_partsPlain (l : Launch) (D : va_G) (K : Nat → ClassId) (jM : Nat) (aM : Nat → Nat) (RM : ModV) (p0 : Int32) (o : (Int32 × AI × Int32 × Int32)) (hf : fX9_partsPlain RM p0 = some o) (sz : Nat) : Met l yX9_partsPlain wsX9_partsPlain rmX9_partsPlain (ht_Pre D K [.ref jM, .int p0] (wMo K jM aM RM.s RM.held RM.aside RM.before RM.isHeld RM.tape RM.taped RM.token RM.frm RM.to RM.value RM.isWrong RM.unpaired RM.bestSound RM.bestWay RM.rows RM.rowN RM.sortOf RM.sizeOf RM.numbers RM.holdsWhat RM.holdsWhich RM.holdsMany RM.bodies RM.ran RM.actKind RM.actN RM.actA RM.isParted) sz) (ht_Qi D K (wMo K jM aM RM.s RM.held RM.aside RM.before RM.isHeld RM.tape RM.taped RM.token RM.frm RM.to RM.value RM.isWrong RM.unpaired RM.bestSound RM.bestWay RM.rows RM.rowN RM.sortOf RM.sizeOf RM.numbers RM.holdsWhat RM.holdsWhich RM.holdsMany o.2.1 o.2.2.1 RM.actKind RM.actN RM.actA o.2.2.2) o.1 (va_A (wMo K jM aM RM.s RM.held RM.aside RM.before RM.isHeld RM.tape RM.taped RM.token RM.frm RM.to RM.value RM.isWrong RM.unpaired RM.bestSound RM.bestWay RM.rows RM.rowN RM.sortOf RM.sizeOf RM.numbers RM.holdsWhat RM.holdsWhich RM.holdsMany RM.bodies RM.ran RM.actKind RM.actN RM.actA RM.isParted) sz)) 0 0 (va_A (wMo K jM aM RM.s RM.held RM.aside RM.before RM.isHeld RM.tape RM.taped RM.token RM.frm RM.to RM.value RM.isWrong RM.unpaired RM.bestSound RM.bestWay RM.rows RM.rowN RM.sortOf RM.sizeOf RM.numbers RM.holdsWhat RM.holdsWhich RM.holdsMany RM.bodies RM.ran RM.actKind RM.actN RM.actA RM.isParted) sz) := by
  refine ht_enter (Qf := ht_Qi D K (wMo K jM aM RM.s RM.held RM.aside RM.before RM.isHeld RM.tape RM.taped RM.token RM.frm RM.to RM.value RM.isWrong RM.unpaired RM.bestSound RM.bestWay RM.rows RM.rowN RM.sortOf RM.sizeOf RM.numbers RM.holdsWhat RM.holdsWhich RM.holdsMany o.2.1 o.2.2.1 RM.actKind RM.actN RM.actA o.2.2.2) o.1) (cc := cX9_partsPlain) (maxL := 2) (rt := (some .int)) (by decide) rfl (Nat.le_of_ble_eq_true rfl) ?_ sz
  intro p e s m below meth c A Q H locs ls hQ hx hb hr hlk hmn hml hown hts hA hK hP hD hS hl
  have hown : s.vm.findClass RX9 = some m.cls := hown
  have hF : CallFix p m c cX9_partsPlain 2 s ([.ref jM, .int p0] : List Value).toArray wsX9_partsPlain RX9 := ⟨hx, hb, hml, hown, hts⟩
  have hl : lv_has ls 2 [(0, .ref jM), (1, .int p0)] := hl
  have iw9 : ∀ w ∈ u_ws RX9 TX9 29, w ∈ wsX9_partsPlain := by decide +kernel
  have kw1 := hts (.fieldLink RX9 321 "HeldTonguesModel" "isParted" "Z") (by decide +kernel)
  have kw2 := hts (.fieldLink RX9 315 "HeldTonguesModel" "actA" "I") (by decide +kernel)
  have kw3 := hts (.fieldLink RX9 300 "HeldTonguesModel" "actN" "I") (by decide +kernel)
  have b30 : ∀ (x1 : Int32) (t1 : Int32) (vM_bodies : AI) (vM_ran : Int32) (vM_isParted : Int32) (H : Heap) (locs : List Loc) (ls : Array Slot), fX9_partsPlain_b30 RM x1 t1 vM_bodies vM_ran vM_isParted = some o → va_P D vwCl (wMo K jM aM RM.s RM.held RM.aside RM.before RM.isHeld RM.tape RM.taped RM.token RM.frm RM.to RM.value RM.isWrong RM.unpaired RM.bestSound RM.bestWay RM.rows RM.rowN RM.sortOf RM.sizeOf RM.numbers RM.holdsWhat RM.holdsWhich RM.holdsMany vM_bodies vM_ran RM.actKind RM.actN RM.actA vM_isParted) H → va_D A (wMo K jM aM RM.s RM.held RM.aside RM.before RM.isHeld RM.tape RM.taped RM.token RM.frm RM.to RM.value RM.isWrong RM.unpaired RM.bestSound RM.bestWay RM.rows RM.rowN RM.sortOf RM.sizeOf RM.numbers RM.holdsWhat RM.holdsWhich RM.holdsMany vM_bodies vM_ran RM.actKind RM.actN RM.actA vM_isParted) → va_S A s.heap H locs → lv_has ls 2 [(0, .ref jM), (1, .int x1)] → W p l e (headSpec wsX9_partsPlain rmX9_partsPlain).room s m ([.ref jM, .int p0] : List Value).toArray below meth c H locs 0 0 Q (F0 m 30 ls [.int t1, .ref jM]) := by
    intro x1 t1 vM_bodies vM_ran vM_isParted H locs ls hf hP hD hS hl
    delta fX9_partsPlain_b30 at hf
    obtain ⟨g_1, hf⟩ := ht_gd_ob hf
    refine ht_put (ci := 9) (v := .int t1) (ty := .boolean) (C := RX9) (T := TX9) (N := 29) (w2 := (wMo K jM aM RM.s RM.held RM.aside RM.before RM.isHeld RM.tape RM.taped RM.token RM.frm RM.to RM.value RM.isWrong RM.unpaired RM.bestSound RM.bestWay RM.rows RM.rowN RM.sortOf RM.sizeOf RM.numbers RM.holdsWhat RM.holdsWhich RM.holdsMany vM_bodies vM_ran RM.actKind RM.actN RM.actA t1)) hx hb hts iw9 tyX9 tyX9_ok nmX9 hown hK hP hD hS 0 rfl rfl 28 (by decide) kw1 (fun _ h9 => h9) rfl (by decide +kernel) (ht_bz_nar g_1) (ht_bz_fit g_1) (Nat.le_of_ble_eq_true rfl) dX9_partsPlain_30 rfl (fun H locs hP hD hS => ?_)
    refine lv_aload_n hx hb dX9_partsPlain_33 rfl (lv_at hl 0 rfl) ?_
    refine va_get (D := D) (ci := 9) (v := .int t1) (C := RX9) (T := TX9) (N := 29) hx hb hts iw9 hown hK hP 0 rfl rfl 28 (by decide) kw1 (fun _ h9 => h9) rfl dX9_partsPlain_34 ?_
    refine lv_if_eq (tgt := 44) hx hb dX9_partsPlain_37 (by decide) (fun c_2 => ?_) (fun c_2 => ?_)
    · replace hf := ht_t c_2 hf
      refine lv_iload_n hx hb dX9_partsPlain_44 rfl (lv_at hl 1 rfl) ?_
      refine lv_aload_n hx hb dX9_partsPlain_45 rfl (lv_at hl 0 rfl) ?_
      refine va_get (D := D) (ci := 9) (v := .int RM.actA) (C := RX9) (T := TX9) (N := 29) hx hb hts iw9 hown hK hP 0 rfl rfl 27 (by decide) kw2 (fun _ h9 => h9) rfl dX9_partsPlain_46 ?_
      refine lv_aload_n hx hb dX9_partsPlain_49 rfl (lv_at hl 0 rfl) ?_
      refine va_get (D := D) (ci := 9) (v := .int RM.actN) (C := RX9) (T := TX9) (N := 29) hx hb hts iw9 hown hK hP 0 rfl rfl 26 (by decide) kw3 (fun _ h9 => h9) rfl dX9_partsPlain_50 ?_
      refine lv_isub hx hb dX9_partsPlain_53 ?_
      obtain ⟨g_3, hf⟩ := ht_gd_ob hf
      refine lv_idiv hx hb dX9_partsPlain_54 (ht_nz_ne g_3) ?_
      have ho := Option.some.inj hf
      subst ho; subst hQ
      exact ht_iret hx hb hr hlk rfl hK hP hD hS dX9_partsPlain_55
    · replace hf := ht_f c_2 hf
      refine lv_iconst (v := 0) hx hb dX9_partsPlain_40 (by decide) ?_
      refine lv_goto (tgt := 55) hx hb dX9_partsPlain_41 (by decide) ?_
      have ho := Option.some.inj hf
      subst ho; subst hQ
      exact ht_iret hx hb hr hlk rfl hK hP hD hS dX9_partsPlain_55
  have b25 : ∀ (x1 : Int32) (vM_bodies : AI) (vM_ran : Int32) (vM_isParted : Int32) (H : Heap) (locs : List Loc) (ls : Array Slot), fX9_partsPlain_b25 RM x1 vM_bodies vM_ran vM_isParted = some o → va_P D vwCl (wMo K jM aM RM.s RM.held RM.aside RM.before RM.isHeld RM.tape RM.taped RM.token RM.frm RM.to RM.value RM.isWrong RM.unpaired RM.bestSound RM.bestWay RM.rows RM.rowN RM.sortOf RM.sizeOf RM.numbers RM.holdsWhat RM.holdsWhich RM.holdsMany vM_bodies vM_ran RM.actKind RM.actN RM.actA vM_isParted) H → va_D A (wMo K jM aM RM.s RM.held RM.aside RM.before RM.isHeld RM.tape RM.taped RM.token RM.frm RM.to RM.value RM.isWrong RM.unpaired RM.bestSound RM.bestWay RM.rows RM.rowN RM.sortOf RM.sizeOf RM.numbers RM.holdsWhat RM.holdsWhich RM.holdsMany vM_bodies vM_ran RM.actKind RM.actN RM.actA vM_isParted) → va_S A s.heap H locs → lv_has ls 2 [(0, .ref jM), (1, .int x1)] → W p l e (headSpec wsX9_partsPlain rmX9_partsPlain).room s m ([.ref jM, .int p0] : List Value).toArray below meth c H locs 0 0 Q (F0 m 25 ls [.ref jM]) := by
    intro x1 vM_bodies vM_ran vM_isParted H locs ls hf hP hD hS hl
    delta fX9_partsPlain_b25 at hf
    refine lv_iconst (v := 1) hx hb dX9_partsPlain_25 (by decide) ?_
    refine lv_goto (tgt := 30) hx hb dX9_partsPlain_26 (by decide) ?_
    exact b30  x1 (1 : Int32) vM_bodies vM_ran vM_isParted _ _ _ hf hP hD hS hl
  delta fX9_partsPlain at hf
  refine lv_aload_n hx hb dX9_partsPlain_0 rfl (lv_at hl 0 rfl) ?_
  refine lv_bipush (v := 12) hx hb dX9_partsPlain_1 (by decide) ?_
  obtain ⟨o_4, ho_4, hf⟩ := ht_bn_ob hf
  refine ht_callVv (rest := []) (As := [.int (12 : Int32)]) (wc := (wMo K jM aM RM.s RM.held RM.aside RM.before RM.isHeld RM.tape RM.taped RM.token RM.frm RM.to RM.value RM.isWrong RM.unpaired RM.bestSound RM.bestWay RM.rows RM.rowN RM.sortOf RM.sizeOf RM.numbers RM.holdsWhat RM.holdsWhich RM.holdsMany RM.bodies RM.ran RM.actKind RM.actN RM.actA RM.isParted)) (wr := []) (w1 := (wMo K jM aM RM.s RM.held RM.aside RM.before RM.isHeld RM.tape RM.taped RM.token RM.frm RM.to RM.value RM.isWrong RM.unpaired RM.bestSound RM.bestWay RM.rows RM.rowN RM.sortOf RM.sizeOf RM.numbers RM.holdsWhat RM.holdsWhich RM.holdsMany o_4.1 o_4.2 RM.actKind RM.actN RM.actA RM.isParted)) (w2 := (wMo K jM aM RM.s RM.held RM.aside RM.before RM.isHeld RM.tape RM.taped RM.token RM.frm RM.to RM.value RM.isWrong RM.unpaired RM.bestSound RM.bestWay RM.rows RM.rowN RM.sortOf RM.sizeOf RM.numbers RM.holdsWhat RM.holdsWhich RM.holdsMany o_4.1 o_4.2 RM.actKind RM.actN RM.actA RM.isParted)) hF (ctX9_runs l D K jM aM RM (12 : Int32) o_4 ho_4 H.size) (cwV 1 hts gX9_partsPlain_X9_runs rfl rfl rfl hdX9_runs ⟨Nat.le_of_ble_eq_true rfl, Nat.le_of_ble_eq_true rfl⟩) hK hP hD hS hA [0, 1, 2, 3, 4, 5, 6, 7, 8, 9, 10, 11, 12, 13, 14, 15] [] rfl rfl (by decide) (by decide) (by decide) [0, 1, 2, 3, 4, 5, 6, 7, 8, 9, 10, 11, 12, 13, 14, 15] rfl (by decide) (va_recv hK hP (ci := 9) (q0 := 0) rfl rfl) rfl hl.1 rfl (Nat.le_of_ble_eq_true rfl) dX9_partsPlain_3 ⟨Nat.zero_le _, Nat.zero_le _⟩ (fun H locs hP hD hS => ?_)
  refine lv_aload_n hx hb dX9_partsPlain_6 rfl (lv_at hl 0 rfl) ?_
  refine lv_aload_n hx hb dX9_partsPlain_7 rfl (lv_at hl 0 rfl) ?_
  refine va_get (D := D) (ci := 9) (v := .int RM.isParted) (C := RX9) (T := TX9) (N := 29) hx hb hts iw9 hown hK hP 0 rfl rfl 28 (by decide) kw1 (fun _ h9 => h9) rfl dX9_partsPlain_8 ?_
  refine lv_if_ne (tgt := 25) hx hb dX9_partsPlain_11 (by decide) (fun c_5 => ?_) (fun c_5 => ?_)
  · replace hf := ht_f c_5 hf
    exact b25  p0 o_4.1 o_4.2 RM.isParted _ _ _ hf hP hD hS hl
  · replace hf := ht_t c_5 hf
    refine lv_aload_n hx hb dX9_partsPlain_14 rfl (lv_at hl 0 rfl) ?_
    refine va_get (D := D) (ci := 9) (v := .int RM.actN) (C := RX9) (T := TX9) (N := 29) hx hb hts iw9 hown hK hP 0 rfl rfl 26 (by decide) kw3 (fun _ h9 => h9) rfl dX9_partsPlain_15 ?_
    refine lv_aload_n hx hb dX9_partsPlain_18 rfl (lv_at hl 0 rfl) ?_
    refine va_get (D := D) (ci := 9) (v := .int RM.actA) (C := RX9) (T := TX9) (N := 29) hx hb hts iw9 hown hK hP 0 rfl rfl 27 (by decide) kw2 (fun _ h9 => h9) rfl dX9_partsPlain_19 ?_
    refine lv_icmp_ne (tgt := 29) hx hb dX9_partsPlain_22 (by decide) (fun c_6 => ?_) (fun c_6 => ?_)
    · replace hf := ht_f c_6 hf
      refine lv_iconst (v := 0) hx hb dX9_partsPlain_29 (by decide) ?_
      exact b30  p0 (0 : Int32) o_4.1 o_4.2 RM.isParted _ _ _ hf hP hD hS hl
    · replace hf := ht_t c_6 hf
      exact b25  p0 o_4.1 o_4.2 RM.isParted _ _ _ hf hP hD hS hl
abbrev rmX9_parts : Room := { frames := 4, cells := 0, slots := 0, locals := 84 }
theorem hdX9_parts : yX9_parts.cls = RX9 ∧ yX9_parts.cls ≠ "java/lang/invoke/MethodHandle" ∧ yX9_parts.cls ≠ "java/lang/invoke/VarHandle" ∧ (parseMethodDescriptor yX9_parts.desc).map (fun d => d.parameters.length) = some 1 := by decide +kernel
def fX9_parts (RM : ModV) (p0 : Int32) : Option (Int32 × AI × Int32 × Int32) := if RM.actKind = (3 : Int32) then (ht_bn (fX9_runs RM (50 : Int32)) (fun o_9 => ht_bn (fX9_partsPlain (RM.s, RM.held, RM.aside, RM.before, RM.isHeld, RM.tape, RM.taped, RM.token, RM.frm, RM.to, RM.value, RM.isWrong, RM.unpaired, RM.bestSound, RM.bestWay, RM.rows, RM.rowN, RM.sortOf, RM.sizeOf, RM.numbers, RM.holdsWhat, RM.holdsWhich, RM.holdsMany, o_9.1, o_9.2, RM.actKind, RM.actN, RM.actA, RM.isParted) (p0 * (2 : Int32))) (fun o_10 => some ((o_10.1 + RM.actN), o_10.2.1, o_10.2.2.1, o_10.2.2.2)))) else (if RM.actKind = (5 : Int32) then (ht_bn (fX9_runs RM (61 : Int32)) (fun o_4 => ht_bn (fX9_partsPlain (RM.s, RM.held, RM.aside, RM.before, RM.isHeld, RM.tape, RM.taped, RM.token, RM.frm, RM.to, RM.value, RM.isWrong, RM.unpaired, RM.bestSound, RM.bestWay, RM.rows, RM.rowN, RM.sortOf, RM.sizeOf, RM.numbers, RM.holdsWhat, RM.holdsWhich, RM.holdsMany, o_4.1, o_4.2, RM.actKind, RM.actN, RM.actA, RM.isParted) p0) (fun o_5 => ht_nm o_5.1 (fun x2_6 => if o_5.2.2.2 = 0 then (ht_bn (fX9_mutters (RM.s, RM.held, RM.aside, RM.before, RM.isHeld, RM.tape, RM.taped, RM.token, RM.frm, RM.to, RM.value, RM.isWrong, RM.unpaired, RM.bestSound, RM.bestWay, RM.rows, RM.rowN, RM.sortOf, RM.sizeOf, RM.numbers, RM.holdsWhat, RM.holdsWhich, RM.holdsMany, o_5.2.1, o_5.2.2.1, RM.actKind, RM.actN, RM.actA, o_5.2.2.2) RM.actN) (fun o_8 => some ((x2_6 + o_8.1), o_8.2.1, o_8.2.2, o_5.2.2.2))) else (some ((0 : Int32), o_5.2.1, o_5.2.2.1, o_5.2.2.2)))))) else (ht_bn (fX9_partsPlain RM p0) (fun o_3 => some (o_3.1, o_3.2.1, o_3.2.2.1, o_3.2.2.2))))
set_option maxHeartbeats 1000000 in
set_option maxRecDepth 100000 in
theorem ctX9_parts (l : Launch) (D : va_G) (K : Nat → ClassId) (jM : Nat) (aM : Nat → Nat) (RM : ModV) (p0 : Int32) (o : (Int32 × AI × Int32 × Int32)) (hf : fX9_parts RM p0 = some o) (sz : Nat) : Met l yX9_parts wsX9_parts rmX9_parts (ht_Pre D K [.ref jM, .int p0] (wMo K jM aM RM.s RM.held RM.aside RM.before RM.isHeld RM.tape RM.taped RM.token RM.frm RM.to RM.value RM.isWrong RM.unpaired RM.bestSound RM.bestWay RM.rows RM.rowN RM.sortOf RM.sizeOf RM.numbers RM.holdsWhat RM.holdsWhich RM.holdsMany RM.bodies RM.ran RM.actKind RM.actN RM.actA RM.isParted) sz) (ht_Qi D K (wMo K jM aM RM.s RM.held RM.aside RM.before RM.isHeld RM.tape RM.taped RM.token RM.frm RM.to RM.value RM.isWrong RM.unpaired RM.bestSound RM.bestWay RM.rows RM.rowN RM.sortOf RM.sizeOf RM.numbers RM.holdsWhat RM.holdsWhich RM.holdsMany o.2.1 o.2.2.1 RM.actKind RM.actN RM.actA o.2.2.2) o.1 (va_A (wMo K jM aM RM.s RM.held RM.aside RM.before RM.isHeld RM.tape RM.taped RM.token RM.frm RM.to RM.value RM.isWrong RM.unpaired RM.bestSound RM.bestWay RM.rows RM.rowN RM.sortOf RM.sizeOf RM.numbers RM.holdsWhat RM.holdsWhich RM.holdsMany RM.bodies RM.ran RM.actKind RM.actN RM.actA RM.isParted) sz)) 0 0 (va_A (wMo K jM aM RM.s RM.held RM.aside RM.before RM.isHeld RM.tape RM.taped RM.token RM.frm RM.to RM.value RM.isWrong RM.unpaired RM.bestSound RM.bestWay RM.rows RM.rowN RM.sortOf RM.sizeOf RM.numbers RM.holdsWhat RM.holdsWhich RM.holdsMany RM.bodies RM.ran RM.actKind RM.actN RM.actA RM.isParted) sz) := by
  refine ht_enter (Qf := ht_Qi D K (wMo K jM aM RM.s RM.held RM.aside RM.before RM.isHeld RM.tape RM.taped RM.token RM.frm RM.to RM.value RM.isWrong RM.unpaired RM.bestSound RM.bestWay RM.rows RM.rowN RM.sortOf RM.sizeOf RM.numbers RM.holdsWhat RM.holdsWhich RM.holdsMany o.2.1 o.2.2.1 RM.actKind RM.actN RM.actA o.2.2.2) o.1) (cc := cX9_parts) (maxL := 3) (rt := (some .int)) (by decide) rfl (Nat.le_of_ble_eq_true rfl) ?_ sz
  intro p e s m below meth c A Q H locs ls hQ hx hb hr hlk hmn hml hown hts hA hK hP hD hS hl
  have hown : s.vm.findClass RX9 = some m.cls := hown
  have hF : CallFix p m c cX9_parts 3 s ([.ref jM, .int p0] : List Value).toArray wsX9_parts RX9 := ⟨hx, hb, hml, hown, hts⟩
  have hl : lv_has ls 3 [(0, .ref jM), (1, .int p0)] := hl
  have iw9 : ∀ w ∈ u_ws RX9 TX9 29, w ∈ wsX9_parts := by decide +kernel
  have kw1 := hts (.fieldLink RX9 306 "HeldTonguesModel" "actKind" "I") (by decide +kernel)
  have kw2 := hts (.fieldLink RX9 321 "HeldTonguesModel" "isParted" "Z") (by decide +kernel)
  have kw3 := hts (.fieldLink RX9 300 "HeldTonguesModel" "actN" "I") (by decide +kernel)
  delta fX9_parts at hf
  refine lv_aload_n hx hb dX9_parts_0 rfl (lv_at hl 0 rfl) ?_
  refine va_get (D := D) (ci := 9) (v := .int RM.actKind) (C := RX9) (T := TX9) (N := 29) hx hb hts iw9 hown hK hP 0 rfl rfl 25 (by decide) kw1 (fun _ h9 => h9) rfl dX9_parts_1 ?_
  refine lv_iconst (v := 3) hx hb dX9_parts_4 (by decide) ?_
  refine lv_icmp_ne (tgt := 27) hx hb dX9_parts_5 (by decide) (fun c_1 => ?_) (fun c_1 => ?_)
  · replace hf := ht_f c_1 hf
    refine lv_aload_n hx hb dX9_parts_27 rfl (lv_at hl 0 rfl) ?_
    refine va_get (D := D) (ci := 9) (v := .int RM.actKind) (C := RX9) (T := TX9) (N := 29) hx hb hts iw9 hown hK hP 0 rfl rfl 25 (by decide) kw1 (fun _ h9 => h9) rfl dX9_parts_28 ?_
    refine lv_iconst (v := 5) hx hb dX9_parts_31 (by decide) ?_
    refine lv_icmp_ne (tgt := 69) hx hb dX9_parts_32 (by decide) (fun c_2 => ?_) (fun c_2 => ?_)
    · replace hf := ht_f c_2 hf
      refine lv_aload_n hx hb dX9_parts_69 rfl (lv_at hl 0 rfl) ?_
      refine lv_iload_n hx hb dX9_parts_70 rfl (lv_at hl 1 rfl) ?_
      obtain ⟨o_3, ho_3, hf⟩ := ht_bn_ob hf
      refine ht_callVi (r := o_3.1) (rest := []) (As := [.int p0]) (wc := (wMo K jM aM RM.s RM.held RM.aside RM.before RM.isHeld RM.tape RM.taped RM.token RM.frm RM.to RM.value RM.isWrong RM.unpaired RM.bestSound RM.bestWay RM.rows RM.rowN RM.sortOf RM.sizeOf RM.numbers RM.holdsWhat RM.holdsWhich RM.holdsMany RM.bodies RM.ran RM.actKind RM.actN RM.actA RM.isParted)) (wr := []) (w1 := (wMo K jM aM RM.s RM.held RM.aside RM.before RM.isHeld RM.tape RM.taped RM.token RM.frm RM.to RM.value RM.isWrong RM.unpaired RM.bestSound RM.bestWay RM.rows RM.rowN RM.sortOf RM.sizeOf RM.numbers RM.holdsWhat RM.holdsWhich RM.holdsMany o_3.2.1 o_3.2.2.1 RM.actKind RM.actN RM.actA o_3.2.2.2)) (w2 := (wMo K jM aM RM.s RM.held RM.aside RM.before RM.isHeld RM.tape RM.taped RM.token RM.frm RM.to RM.value RM.isWrong RM.unpaired RM.bestSound RM.bestWay RM.rows RM.rowN RM.sortOf RM.sizeOf RM.numbers RM.holdsWhat RM.holdsWhich RM.holdsMany o_3.2.1 o_3.2.2.1 RM.actKind RM.actN RM.actA o_3.2.2.2)) hF (ctX9_partsPlain l D K jM aM RM p0 o_3 ho_3 H.size) (cwV 1 hts gX9_parts_X9_partsPlain rfl rfl rfl hdX9_partsPlain ⟨Nat.le_of_ble_eq_true rfl, Nat.le_of_ble_eq_true rfl⟩) hK hP hD hS hA [0, 1, 2, 3, 4, 5, 6, 7, 8, 9, 10, 11, 12, 13, 14, 15] [] rfl rfl (by decide) (by decide) (by decide) [0, 1, 2, 3, 4, 5, 6, 7, 8, 9, 10, 11, 12, 13, 14, 15] rfl (by decide) (va_recv hK hP (ci := 9) (q0 := 0) rfl rfl) rfl hl.1 rfl (Nat.le_of_ble_eq_true rfl) dX9_parts_71 ⟨Nat.zero_le _, Nat.zero_le _⟩ (fun H locs hP hD hS => ?_)
      have ho := Option.some.inj hf
      subst ho; subst hQ
      exact ht_iret hx hb hr hlk rfl hK hP hD hS dX9_parts_74
    · replace hf := ht_t c_2 hf
      refine lv_aload_n hx hb dX9_parts_35 rfl (lv_at hl 0 rfl) ?_
      refine lv_bipush (v := 61) hx hb dX9_parts_36 (by decide) ?_
      obtain ⟨o_4, ho_4, hf⟩ := ht_bn_ob hf
      refine ht_callVv (rest := []) (As := [.int (61 : Int32)]) (wc := (wMo K jM aM RM.s RM.held RM.aside RM.before RM.isHeld RM.tape RM.taped RM.token RM.frm RM.to RM.value RM.isWrong RM.unpaired RM.bestSound RM.bestWay RM.rows RM.rowN RM.sortOf RM.sizeOf RM.numbers RM.holdsWhat RM.holdsWhich RM.holdsMany RM.bodies RM.ran RM.actKind RM.actN RM.actA RM.isParted)) (wr := []) (w1 := (wMo K jM aM RM.s RM.held RM.aside RM.before RM.isHeld RM.tape RM.taped RM.token RM.frm RM.to RM.value RM.isWrong RM.unpaired RM.bestSound RM.bestWay RM.rows RM.rowN RM.sortOf RM.sizeOf RM.numbers RM.holdsWhat RM.holdsWhich RM.holdsMany o_4.1 o_4.2 RM.actKind RM.actN RM.actA RM.isParted)) (w2 := (wMo K jM aM RM.s RM.held RM.aside RM.before RM.isHeld RM.tape RM.taped RM.token RM.frm RM.to RM.value RM.isWrong RM.unpaired RM.bestSound RM.bestWay RM.rows RM.rowN RM.sortOf RM.sizeOf RM.numbers RM.holdsWhat RM.holdsWhich RM.holdsMany o_4.1 o_4.2 RM.actKind RM.actN RM.actA RM.isParted)) hF (ctX9_runs l D K jM aM RM (61 : Int32) o_4 ho_4 H.size) (cwV 1 hts gX9_parts_X9_runs rfl rfl rfl hdX9_runs ⟨Nat.le_of_ble_eq_true rfl, Nat.le_of_ble_eq_true rfl⟩) hK hP hD hS hA [0, 1, 2, 3, 4, 5, 6, 7, 8, 9, 10, 11, 12, 13, 14, 15] [] rfl rfl (by decide) (by decide) (by decide) [0, 1, 2, 3, 4, 5, 6, 7, 8, 9, 10, 11, 12, 13, 14, 15] rfl (by decide) (va_recv hK hP (ci := 9) (q0 := 0) rfl rfl) rfl hl.1 rfl (Nat.le_of_ble_eq_true rfl) dX9_parts_38 ⟨Nat.zero_le _, Nat.zero_le _⟩ (fun H locs hP hD hS => ?_)
      refine lv_aload_n hx hb dX9_parts_41 rfl (lv_at hl 0 rfl) ?_
      refine lv_iload_n hx hb dX9_parts_42 rfl (lv_at hl 1 rfl) ?_
      obtain ⟨o_5, ho_5, hf⟩ := ht_bn_ob hf
      refine ht_callVi (r := o_5.1) (rest := []) (As := [.int p0]) (wc := (wMo K jM aM RM.s RM.held RM.aside RM.before RM.isHeld RM.tape RM.taped RM.token RM.frm RM.to RM.value RM.isWrong RM.unpaired RM.bestSound RM.bestWay RM.rows RM.rowN RM.sortOf RM.sizeOf RM.numbers RM.holdsWhat RM.holdsWhich RM.holdsMany o_4.1 o_4.2 RM.actKind RM.actN RM.actA RM.isParted)) (wr := []) (w1 := (wMo K jM aM RM.s RM.held RM.aside RM.before RM.isHeld RM.tape RM.taped RM.token RM.frm RM.to RM.value RM.isWrong RM.unpaired RM.bestSound RM.bestWay RM.rows RM.rowN RM.sortOf RM.sizeOf RM.numbers RM.holdsWhat RM.holdsWhich RM.holdsMany o_5.2.1 o_5.2.2.1 RM.actKind RM.actN RM.actA o_5.2.2.2)) (w2 := (wMo K jM aM RM.s RM.held RM.aside RM.before RM.isHeld RM.tape RM.taped RM.token RM.frm RM.to RM.value RM.isWrong RM.unpaired RM.bestSound RM.bestWay RM.rows RM.rowN RM.sortOf RM.sizeOf RM.numbers RM.holdsWhat RM.holdsWhich RM.holdsMany o_5.2.1 o_5.2.2.1 RM.actKind RM.actN RM.actA o_5.2.2.2)) hF (ctX9_partsPlain l D K jM aM (RM.s, RM.held, RM.aside, RM.before, RM.isHeld, RM.tape, RM.taped, RM.token, RM.frm, RM.to, RM.value, RM.isWrong, RM.unpaired, RM.bestSound, RM.bestWay, RM.rows, RM.rowN, RM.sortOf, RM.sizeOf, RM.numbers, RM.holdsWhat, RM.holdsWhich, RM.holdsMany, o_4.1, o_4.2, RM.actKind, RM.actN, RM.actA, RM.isParted) p0 o_5 ho_5 H.size) (cwV 1 hts gX9_parts_X9_partsPlain rfl rfl rfl hdX9_partsPlain ⟨Nat.le_of_ble_eq_true rfl, Nat.le_of_ble_eq_true rfl⟩) hK hP hD hS hA [0, 1, 2, 3, 4, 5, 6, 7, 8, 9, 10, 11, 12, 13, 14, 15] [] rfl rfl (by decide) (by decide) (by decide) [0, 1, 2, 3, 4, 5, 6, 7, 8, 9, 10, 11, 12, 13, 14, 15] rfl (by decide) (va_recv hK hP (ci := 9) (q0 := 0) rfl rfl) rfl hl.1 rfl (Nat.le_of_ble_eq_true rfl) dX9_parts_43 ⟨Nat.zero_le _, Nat.zero_le _⟩ (fun H locs hP hD hS => ?_)
      obtain ⟨x2_6, ex2_6, hf⟩ := ht_nm_ob hf
      rw [← ex2_6]
      refine lv_istore_n (lv' := [(2, .int x2_6), (0, .ref jM), (1, .int p0)]) hx hb dX9_parts_46 rfl hl (by decide) rfl (fun ls hl => ?_)
      refine lv_aload_n hx hb dX9_parts_47 rfl (lv_at hl 1 rfl) ?_
      refine va_get (D := D) (ci := 9) (v := .int o_5.2.2.2) (C := RX9) (T := TX9) (N := 29) hx hb hts iw9 hown hK hP 0 rfl rfl 28 (by decide) kw2 (fun _ h9 => h9) rfl dX9_parts_48 ?_
      refine lv_if_eq (tgt := 58) hx hb dX9_parts_51 (by decide) (fun c_7 => ?_) (fun c_7 => ?_)
      · replace hf := ht_t c_7 hf
        refine lv_iload_n hx hb dX9_parts_58 rfl (lv_at hl 0 rfl) ?_
        refine lv_aload_n hx hb dX9_parts_59 rfl (lv_at hl 1 rfl) ?_
        refine lv_aload_n hx hb dX9_parts_60 rfl (lv_at hl 1 rfl) ?_
        refine va_get (D := D) (ci := 9) (v := .int RM.actN) (C := RX9) (T := TX9) (N := 29) hx hb hts iw9 hown hK hP 0 rfl rfl 26 (by decide) kw3 (fun _ h9 => h9) rfl dX9_parts_61 ?_
        obtain ⟨o_8, ho_8, hf⟩ := ht_bn_ob hf
        refine ht_callVi (r := o_8.1) (rest := [.int x2_6]) (As := [.int RM.actN]) (wc := (wMo K jM aM RM.s RM.held RM.aside RM.before RM.isHeld RM.tape RM.taped RM.token RM.frm RM.to RM.value RM.isWrong RM.unpaired RM.bestSound RM.bestWay RM.rows RM.rowN RM.sortOf RM.sizeOf RM.numbers RM.holdsWhat RM.holdsWhich RM.holdsMany o_5.2.1 o_5.2.2.1 RM.actKind RM.actN RM.actA o_5.2.2.2)) (wr := []) (w1 := (wMo K jM aM RM.s RM.held RM.aside RM.before RM.isHeld RM.tape RM.taped RM.token RM.frm RM.to RM.value RM.isWrong RM.unpaired RM.bestSound RM.bestWay RM.rows RM.rowN RM.sortOf RM.sizeOf RM.numbers RM.holdsWhat RM.holdsWhich RM.holdsMany o_8.2.1 o_8.2.2 RM.actKind RM.actN RM.actA o_5.2.2.2)) (w2 := (wMo K jM aM RM.s RM.held RM.aside RM.before RM.isHeld RM.tape RM.taped RM.token RM.frm RM.to RM.value RM.isWrong RM.unpaired RM.bestSound RM.bestWay RM.rows RM.rowN RM.sortOf RM.sizeOf RM.numbers RM.holdsWhat RM.holdsWhich RM.holdsMany o_8.2.1 o_8.2.2 RM.actKind RM.actN RM.actA o_5.2.2.2)) hF (ctX9_mutters l D K jM aM (RM.s, RM.held, RM.aside, RM.before, RM.isHeld, RM.tape, RM.taped, RM.token, RM.frm, RM.to, RM.value, RM.isWrong, RM.unpaired, RM.bestSound, RM.bestWay, RM.rows, RM.rowN, RM.sortOf, RM.sizeOf, RM.numbers, RM.holdsWhat, RM.holdsWhich, RM.holdsMany, o_5.2.1, o_5.2.2.1, RM.actKind, RM.actN, RM.actA, o_5.2.2.2) RM.actN o_8 ho_8 H.size) (cwV 1 hts gX9_parts_X9_mutters rfl rfl rfl hdX9_mutters ⟨Nat.le_of_ble_eq_true rfl, Nat.le_of_ble_eq_true rfl⟩) hK hP hD hS hA [0, 1, 2, 3, 4, 5, 6, 7, 8, 9, 10, 11, 12, 13, 14, 15] [] rfl rfl (by decide) (by decide) (by decide) [0, 1, 2, 3, 4, 5, 6, 7, 8, 9, 10, 11, 12, 13, 14, 15] rfl (by decide) (va_recv hK hP (ci := 9) (q0 := 0) rfl rfl) rfl hl.1 rfl (Nat.le_of_ble_eq_true rfl) dX9_parts_64 ⟨Nat.zero_le _, Nat.zero_le _⟩ (fun H locs hP hD hS => ?_)
        refine lv_iadd hx hb dX9_parts_67 ?_
        have ho := Option.some.inj hf
        subst ho; subst hQ
        exact ht_iret hx hb hr hlk rfl hK hP hD hS dX9_parts_68
      · replace hf := ht_f c_7 hf
        refine lv_iconst (v := 0) hx hb dX9_parts_54 (by decide) ?_
        refine lv_goto (tgt := 68) hx hb dX9_parts_55 (by decide) ?_
        have ho := Option.some.inj hf
        subst ho; subst hQ
        exact ht_iret hx hb hr hlk rfl hK hP hD hS dX9_parts_68
  · replace hf := ht_t c_1 hf
    refine lv_aload_n hx hb dX9_parts_8 rfl (lv_at hl 0 rfl) ?_
    refine lv_bipush (v := 50) hx hb dX9_parts_9 (by decide) ?_
    obtain ⟨o_9, ho_9, hf⟩ := ht_bn_ob hf
    refine ht_callVv (rest := []) (As := [.int (50 : Int32)]) (wc := (wMo K jM aM RM.s RM.held RM.aside RM.before RM.isHeld RM.tape RM.taped RM.token RM.frm RM.to RM.value RM.isWrong RM.unpaired RM.bestSound RM.bestWay RM.rows RM.rowN RM.sortOf RM.sizeOf RM.numbers RM.holdsWhat RM.holdsWhich RM.holdsMany RM.bodies RM.ran RM.actKind RM.actN RM.actA RM.isParted)) (wr := []) (w1 := (wMo K jM aM RM.s RM.held RM.aside RM.before RM.isHeld RM.tape RM.taped RM.token RM.frm RM.to RM.value RM.isWrong RM.unpaired RM.bestSound RM.bestWay RM.rows RM.rowN RM.sortOf RM.sizeOf RM.numbers RM.holdsWhat RM.holdsWhich RM.holdsMany o_9.1 o_9.2 RM.actKind RM.actN RM.actA RM.isParted)) (w2 := (wMo K jM aM RM.s RM.held RM.aside RM.before RM.isHeld RM.tape RM.taped RM.token RM.frm RM.to RM.value RM.isWrong RM.unpaired RM.bestSound RM.bestWay RM.rows RM.rowN RM.sortOf RM.sizeOf RM.numbers RM.holdsWhat RM.holdsWhich RM.holdsMany o_9.1 o_9.2 RM.actKind RM.actN RM.actA RM.isParted)) hF (ctX9_runs l D K jM aM RM (50 : Int32) o_9 ho_9 H.size) (cwV 1 hts gX9_parts_X9_runs rfl rfl rfl hdX9_runs ⟨Nat.le_of_ble_eq_true rfl, Nat.le_of_ble_eq_true rfl⟩) hK hP hD hS hA [0, 1, 2, 3, 4, 5, 6, 7, 8, 9, 10, 11, 12, 13, 14, 15] [] rfl rfl (by decide) (by decide) (by decide) [0, 1, 2, 3, 4, 5, 6, 7, 8, 9, 10, 11, 12, 13, 14, 15] rfl (by decide) (va_recv hK hP (ci := 9) (q0 := 0) rfl rfl) rfl hl.1 rfl (Nat.le_of_ble_eq_true rfl) dX9_parts_11 ⟨Nat.zero_le _, Nat.zero_le _⟩ (fun H locs hP hD hS => ?_)
    refine lv_aload_n hx hb dX9_parts_14 rfl (lv_at hl 0 rfl) ?_
    refine lv_iload_n hx hb dX9_parts_15 rfl (lv_at hl 1 rfl) ?_
    refine lv_iconst (v := 2) hx hb dX9_parts_16 (by decide) ?_
    refine lv_imul hx hb dX9_parts_17 ?_
    obtain ⟨o_10, ho_10, hf⟩ := ht_bn_ob hf
    refine ht_callVi (r := o_10.1) (rest := []) (As := [.int (p0 * (2 : Int32))]) (wc := (wMo K jM aM RM.s RM.held RM.aside RM.before RM.isHeld RM.tape RM.taped RM.token RM.frm RM.to RM.value RM.isWrong RM.unpaired RM.bestSound RM.bestWay RM.rows RM.rowN RM.sortOf RM.sizeOf RM.numbers RM.holdsWhat RM.holdsWhich RM.holdsMany o_9.1 o_9.2 RM.actKind RM.actN RM.actA RM.isParted)) (wr := []) (w1 := (wMo K jM aM RM.s RM.held RM.aside RM.before RM.isHeld RM.tape RM.taped RM.token RM.frm RM.to RM.value RM.isWrong RM.unpaired RM.bestSound RM.bestWay RM.rows RM.rowN RM.sortOf RM.sizeOf RM.numbers RM.holdsWhat RM.holdsWhich RM.holdsMany o_10.2.1 o_10.2.2.1 RM.actKind RM.actN RM.actA o_10.2.2.2)) (w2 := (wMo K jM aM RM.s RM.held RM.aside RM.before RM.isHeld RM.tape RM.taped RM.token RM.frm RM.to RM.value RM.isWrong RM.unpaired RM.bestSound RM.bestWay RM.rows RM.rowN RM.sortOf RM.sizeOf RM.numbers RM.holdsWhat RM.holdsWhich RM.holdsMany o_10.2.1 o_10.2.2.1 RM.actKind RM.actN RM.actA o_10.2.2.2)) hF (ctX9_partsPlain l D K jM aM (RM.s, RM.held, RM.aside, RM.before, RM.isHeld, RM.tape, RM.taped, RM.token, RM.frm, RM.to, RM.value, RM.isWrong, RM.unpaired, RM.bestSound, RM.bestWay, RM.rows, RM.rowN, RM.sortOf, RM.sizeOf, RM.numbers, RM.holdsWhat, RM.holdsWhich, RM.holdsMany, o_9.1, o_9.2, RM.actKind, RM.actN, RM.actA, RM.isParted) (p0 * (2 : Int32)) o_10 ho_10 H.size) (cwV 1 hts gX9_parts_X9_partsPlain rfl rfl rfl hdX9_partsPlain ⟨Nat.le_of_ble_eq_true rfl, Nat.le_of_ble_eq_true rfl⟩) hK hP hD hS hA [0, 1, 2, 3, 4, 5, 6, 7, 8, 9, 10, 11, 12, 13, 14, 15] [] rfl rfl (by decide) (by decide) (by decide) [0, 1, 2, 3, 4, 5, 6, 7, 8, 9, 10, 11, 12, 13, 14, 15] rfl (by decide) (va_recv hK hP (ci := 9) (q0 := 0) rfl rfl) rfl hl.1 rfl (Nat.le_of_ble_eq_true rfl) dX9_parts_18 ⟨Nat.zero_le _, Nat.zero_le _⟩ (fun H locs hP hD hS => ?_)
    refine lv_aload_n hx hb dX9_parts_21 rfl (lv_at hl 0 rfl) ?_
    refine va_get (D := D) (ci := 9) (v := .int RM.actN) (C := RX9) (T := TX9) (N := 29) hx hb hts iw9 hown hK hP 0 rfl rfl 26 (by decide) kw3 (fun _ h9 => h9) rfl dX9_parts_22 ?_
    refine lv_iadd hx hb dX9_parts_25 ?_
    have ho := Option.some.inj hf
    subst ho; subst hQ
    exact ht_iret hx hb hr hlk rfl hK hP hD hS dX9_parts_26
abbrev rmX9_shoutsPlain : Room := { frames := 6, cells := 0, slots := 0, locals := 127 }
theorem hdX9_shoutsPlain : yX9_shoutsPlain.cls = RX9 ∧ yX9_shoutsPlain.cls ≠ "java/lang/invoke/MethodHandle" ∧ yX9_shoutsPlain.cls ≠ "java/lang/invoke/VarHandle" ∧ (parseMethodDescriptor yX9_shoutsPlain.desc).map (fun d => d.parameters.length) = some 1 := by decide +kernel
def fX9_shoutsPlain (RM : ModV) (p0 : Int32) : Option (Int32 × AI × Int32) := ht_bn (fX9_runs RM (13 : Int32)) (fun o_1 => ht_bn (fX9_says (RM.s, RM.held, RM.aside, RM.before, RM.isHeld, RM.tape, RM.taped, RM.token, RM.frm, RM.to, RM.value, RM.isWrong, RM.unpaired, RM.bestSound, RM.bestWay, RM.rows, RM.rowN, RM.sortOf, RM.sizeOf, RM.numbers, RM.holdsWhat, RM.holdsWhich, RM.holdsMany, o_1.1, o_1.2, RM.actKind, RM.actN, RM.actA, RM.isParted) p0) (fun o_2 => some ((o_2.1 ^^^ (60 : Int32)), o_2.2.1, o_2.2.2)))
set_option maxHeartbeats 1000000 in
set_option maxRecDepth 100000 in
theorem ctX9_shoutsPlain (l : Launch) (D : va_G) (K : Nat → ClassId) (jM : Nat) (aM : Nat → Nat) (RM : ModV) (p0 : Int32) (o : (Int32 × AI × Int32)) (hf : fX9_shoutsPlain RM p0 = some o) (sz : Nat) : Met l yX9_shoutsPlain wsX9_shoutsPlain rmX9_shoutsPlain (ht_Pre D K [.ref jM, .int p0] (wMo K jM aM RM.s RM.held RM.aside RM.before RM.isHeld RM.tape RM.taped RM.token RM.frm RM.to RM.value RM.isWrong RM.unpaired RM.bestSound RM.bestWay RM.rows RM.rowN RM.sortOf RM.sizeOf RM.numbers RM.holdsWhat RM.holdsWhich RM.holdsMany RM.bodies RM.ran RM.actKind RM.actN RM.actA RM.isParted) sz) (ht_Qi D K (wMo K jM aM RM.s RM.held RM.aside RM.before RM.isHeld RM.tape RM.taped RM.token RM.frm RM.to RM.value RM.isWrong RM.unpaired RM.bestSound RM.bestWay RM.rows RM.rowN RM.sortOf RM.sizeOf RM.numbers RM.holdsWhat RM.holdsWhich RM.holdsMany o.2.1 o.2.2 RM.actKind RM.actN RM.actA RM.isParted) o.1 (va_A (wMo K jM aM RM.s RM.held RM.aside RM.before RM.isHeld RM.tape RM.taped RM.token RM.frm RM.to RM.value RM.isWrong RM.unpaired RM.bestSound RM.bestWay RM.rows RM.rowN RM.sortOf RM.sizeOf RM.numbers RM.holdsWhat RM.holdsWhich RM.holdsMany RM.bodies RM.ran RM.actKind RM.actN RM.actA RM.isParted) sz)) 0 0 (va_A (wMo K jM aM RM.s RM.held RM.aside RM.before RM.isHeld RM.tape RM.taped RM.token RM.frm RM.to RM.value RM.isWrong RM.unpaired RM.bestSound RM.bestWay RM.rows RM.rowN RM.sortOf RM.sizeOf RM.numbers RM.holdsWhat RM.holdsWhich RM.holdsMany RM.bodies RM.ran RM.actKind RM.actN RM.actA RM.isParted) sz) := by
  refine ht_enter (Qf := ht_Qi D K (wMo K jM aM RM.s RM.held RM.aside RM.before RM.isHeld RM.tape RM.taped RM.token RM.frm RM.to RM.value RM.isWrong RM.unpaired RM.bestSound RM.bestWay RM.rows RM.rowN RM.sortOf RM.sizeOf RM.numbers RM.holdsWhat RM.holdsWhich RM.holdsMany o.2.1 o.2.2 RM.actKind RM.actN RM.actA RM.isParted) o.1) (cc := cX9_shoutsPlain) (maxL := 2) (rt := (some .int)) (by decide) rfl (Nat.le_of_ble_eq_true rfl) ?_ sz
  intro p e s m below meth c A Q H locs ls hQ hx hb hr hlk hmn hml hown hts hA hK hP hD hS hl
  have hown : s.vm.findClass RX9 = some m.cls := hown
  have hF : CallFix p m c cX9_shoutsPlain 2 s ([.ref jM, .int p0] : List Value).toArray wsX9_shoutsPlain RX9 := ⟨hx, hb, hml, hown, hts⟩
  have hl : lv_has ls 2 [(0, .ref jM), (1, .int p0)] := hl
  delta fX9_shoutsPlain at hf
  refine lv_aload_n hx hb dX9_shoutsPlain_0 rfl (lv_at hl 0 rfl) ?_
  refine lv_bipush (v := 13) hx hb dX9_shoutsPlain_1 (by decide) ?_
  obtain ⟨o_1, ho_1, hf⟩ := ht_bn_ob hf
  refine ht_callVv (rest := []) (As := [.int (13 : Int32)]) (wc := (wMo K jM aM RM.s RM.held RM.aside RM.before RM.isHeld RM.tape RM.taped RM.token RM.frm RM.to RM.value RM.isWrong RM.unpaired RM.bestSound RM.bestWay RM.rows RM.rowN RM.sortOf RM.sizeOf RM.numbers RM.holdsWhat RM.holdsWhich RM.holdsMany RM.bodies RM.ran RM.actKind RM.actN RM.actA RM.isParted)) (wr := []) (w1 := (wMo K jM aM RM.s RM.held RM.aside RM.before RM.isHeld RM.tape RM.taped RM.token RM.frm RM.to RM.value RM.isWrong RM.unpaired RM.bestSound RM.bestWay RM.rows RM.rowN RM.sortOf RM.sizeOf RM.numbers RM.holdsWhat RM.holdsWhich RM.holdsMany o_1.1 o_1.2 RM.actKind RM.actN RM.actA RM.isParted)) (w2 := (wMo K jM aM RM.s RM.held RM.aside RM.before RM.isHeld RM.tape RM.taped RM.token RM.frm RM.to RM.value RM.isWrong RM.unpaired RM.bestSound RM.bestWay RM.rows RM.rowN RM.sortOf RM.sizeOf RM.numbers RM.holdsWhat RM.holdsWhich RM.holdsMany o_1.1 o_1.2 RM.actKind RM.actN RM.actA RM.isParted)) hF (ctX9_runs l D K jM aM RM (13 : Int32) o_1 ho_1 H.size) (cwV 1 hts gX9_shoutsPlain_X9_runs rfl rfl rfl hdX9_runs ⟨Nat.le_of_ble_eq_true rfl, Nat.le_of_ble_eq_true rfl⟩) hK hP hD hS hA [0, 1, 2, 3, 4, 5, 6, 7, 8, 9, 10, 11, 12, 13, 14, 15] [] rfl rfl (by decide) (by decide) (by decide) [0, 1, 2, 3, 4, 5, 6, 7, 8, 9, 10, 11, 12, 13, 14, 15] rfl (by decide) (va_recv hK hP (ci := 9) (q0 := 0) rfl rfl) rfl hl.1 rfl (Nat.le_of_ble_eq_true rfl) dX9_shoutsPlain_3 ⟨Nat.zero_le _, Nat.zero_le _⟩ (fun H locs hP hD hS => ?_)
  refine lv_aload_n hx hb dX9_shoutsPlain_6 rfl (lv_at hl 0 rfl) ?_
  refine lv_iload_n hx hb dX9_shoutsPlain_7 rfl (lv_at hl 1 rfl) ?_
  obtain ⟨o_2, ho_2, hf⟩ := ht_bn_ob hf
  refine ht_callVi (r := o_2.1) (rest := []) (As := [.int p0]) (wc := (wMo K jM aM RM.s RM.held RM.aside RM.before RM.isHeld RM.tape RM.taped RM.token RM.frm RM.to RM.value RM.isWrong RM.unpaired RM.bestSound RM.bestWay RM.rows RM.rowN RM.sortOf RM.sizeOf RM.numbers RM.holdsWhat RM.holdsWhich RM.holdsMany o_1.1 o_1.2 RM.actKind RM.actN RM.actA RM.isParted)) (wr := []) (w1 := (wMo K jM aM RM.s RM.held RM.aside RM.before RM.isHeld RM.tape RM.taped RM.token RM.frm RM.to RM.value RM.isWrong RM.unpaired RM.bestSound RM.bestWay RM.rows RM.rowN RM.sortOf RM.sizeOf RM.numbers RM.holdsWhat RM.holdsWhich RM.holdsMany o_2.2.1 o_2.2.2 RM.actKind RM.actN RM.actA RM.isParted)) (w2 := (wMo K jM aM RM.s RM.held RM.aside RM.before RM.isHeld RM.tape RM.taped RM.token RM.frm RM.to RM.value RM.isWrong RM.unpaired RM.bestSound RM.bestWay RM.rows RM.rowN RM.sortOf RM.sizeOf RM.numbers RM.holdsWhat RM.holdsWhich RM.holdsMany o_2.2.1 o_2.2.2 RM.actKind RM.actN RM.actA RM.isParted)) hF (ctX9_says l D K jM aM (RM.s, RM.held, RM.aside, RM.before, RM.isHeld, RM.tape, RM.taped, RM.token, RM.frm, RM.to, RM.value, RM.isWrong, RM.unpaired, RM.bestSound, RM.bestWay, RM.rows, RM.rowN, RM.sortOf, RM.sizeOf, RM.numbers, RM.holdsWhat, RM.holdsWhich, RM.holdsMany, o_1.1, o_1.2, RM.actKind, RM.actN, RM.actA, RM.isParted) p0 o_2 ho_2 H.size) (cwV 1 hts gX9_shoutsPlain_X9_says rfl rfl rfl hdX9_says ⟨Nat.le_of_ble_eq_true rfl, Nat.le_of_ble_eq_true rfl⟩) hK hP hD hS hA [0, 1, 2, 3, 4, 5, 6, 7, 8, 9, 10, 11, 12, 13, 14, 15] [] rfl rfl (by decide) (by decide) (by decide) [0, 1, 2, 3, 4, 5, 6, 7, 8, 9, 10, 11, 12, 13, 14, 15] rfl (by decide) (va_recv hK hP (ci := 9) (q0 := 0) rfl rfl) rfl hl.1 rfl (Nat.le_of_ble_eq_true rfl) dX9_shoutsPlain_8 ⟨Nat.zero_le _, Nat.zero_le _⟩ (fun H locs hP hD hS => ?_)
  refine lv_bipush (v := 60) hx hb dX9_shoutsPlain_11 (by decide) ?_
  refine lv_ixor hx hb dX9_shoutsPlain_13 ?_
  have ho := Option.some.inj hf
  subst ho; subst hQ
  exact ht_iret hx hb hr hlk rfl hK hP hD hS dX9_shoutsPlain_14
abbrev rmX9_shouts : Room := { frames := 7, cells := 0, slots := 0, locals := 148 }
theorem hdX9_shouts : yX9_shouts.cls = RX9 ∧ yX9_shouts.cls ≠ "java/lang/invoke/MethodHandle" ∧ yX9_shouts.cls ≠ "java/lang/invoke/VarHandle" ∧ (parseMethodDescriptor yX9_shouts.desc).map (fun d => d.parameters.length) = some 1 := by decide +kernel
def fX9_shouts_b16 (RM : ModV) (x1 : Int32) (vM_bodies : AI) (vM_ran : Int32) (vM_isParted : Int32) : Option (Int32 × AI × Int32 × Int32) := ht_bn (fX9_runs (RM.s, RM.held, RM.aside, RM.before, RM.isHeld, RM.tape, RM.taped, RM.token, RM.frm, RM.to, RM.value, RM.isWrong, RM.unpaired, RM.bestSound, RM.bestWay, RM.rows, RM.rowN, RM.sortOf, RM.sizeOf, RM.numbers, RM.holdsWhat, RM.holdsWhich, RM.holdsMany, vM_bodies, vM_ran, RM.actKind, RM.actN, RM.actA, vM_isParted) (31 : Int32)) (fun o_1 => ht_bn (fX9_shoutsPlain (RM.s, RM.held, RM.aside, RM.before, RM.isHeld, RM.tape, RM.taped, RM.token, RM.frm, RM.to, RM.value, RM.isWrong, RM.unpaired, RM.bestSound, RM.bestWay, RM.rows, RM.rowN, RM.sortOf, RM.sizeOf, RM.numbers, RM.holdsWhat, RM.holdsWhich, RM.holdsMany, o_1.1, o_1.2, RM.actKind, RM.actN, RM.actA, vM_isParted) x1) (fun o_2 => ht_nm o_2.1 (fun x2_3 => ht_bn (fX9_parts (RM.s, RM.held, RM.aside, RM.before, RM.isHeld, RM.tape, RM.taped, RM.token, RM.frm, RM.to, RM.value, RM.isWrong, RM.unpaired, RM.bestSound, RM.bestWay, RM.rows, RM.rowN, RM.sortOf, RM.sizeOf, RM.numbers, RM.holdsWhat, RM.holdsWhich, RM.holdsMany, o_2.2.1, o_2.2.2, RM.actKind, RM.actN, RM.actA, vM_isParted) RM.actN) (fun o_4 => some ((x2_3 + o_4.1), o_4.2.1, o_4.2.2.1, o_4.2.2.2)))))
def fX9_shouts (RM : ModV) (p0 : Int32) : Option (Int32 × AI × Int32 × Int32) := if RM.actKind = (2 : Int32) then (fX9_shouts_b16 RM p0 RM.bodies RM.ran RM.isParted) else (if RM.actKind = (4 : Int32) then (fX9_shouts_b16 RM p0 RM.bodies RM.ran RM.isParted) else (if RM.actKind = (5 : Int32) then (ht_bn (fX9_runs RM (60 : Int32)) (fun o_9 => ht_bn (fX9_shoutsPlain (RM.s, RM.held, RM.aside, RM.before, RM.isHeld, RM.tape, RM.taped, RM.token, RM.frm, RM.to, RM.value, RM.isWrong, RM.unpaired, RM.bestSound, RM.bestWay, RM.rows, RM.rowN, RM.sortOf, RM.sizeOf, RM.numbers, RM.holdsWhat, RM.holdsWhich, RM.holdsMany, o_9.1, o_9.2, RM.actKind, RM.actN, RM.actA, RM.isParted) p0) (fun o_10 => some (((9 : Int32) - o_10.1), o_10.2.1, o_10.2.2, RM.isParted)))) else (ht_bn (fX9_shoutsPlain RM p0) (fun o_8 => some (o_8.1, o_8.2.1, o_8.2.2, RM.isParted)))))
set_option maxHeartbeats 1000000 in
set_option maxRecDepth 100000 in
theorem ctX9_shouts (l : Launch) (D : va_G) (K : Nat → ClassId) (jM : Nat) (aM : Nat → Nat) (RM : ModV) (p0 : Int32) (o : (Int32 × AI × Int32 × Int32)) (hf : fX9_shouts RM p0 = some o) (sz : Nat) : Met l yX9_shouts wsX9_shouts rmX9_shouts (ht_Pre D K [.ref jM, .int p0] (wMo K jM aM RM.s RM.held RM.aside RM.before RM.isHeld RM.tape RM.taped RM.token RM.frm RM.to RM.value RM.isWrong RM.unpaired RM.bestSound RM.bestWay RM.rows RM.rowN RM.sortOf RM.sizeOf RM.numbers RM.holdsWhat RM.holdsWhich RM.holdsMany RM.bodies RM.ran RM.actKind RM.actN RM.actA RM.isParted) sz) (ht_Qi D K (wMo K jM aM RM.s RM.held RM.aside RM.before RM.isHeld RM.tape RM.taped RM.token RM.frm RM.to RM.value RM.isWrong RM.unpaired RM.bestSound RM.bestWay RM.rows RM.rowN RM.sortOf RM.sizeOf RM.numbers RM.holdsWhat RM.holdsWhich RM.holdsMany o.2.1 o.2.2.1 RM.actKind RM.actN RM.actA o.2.2.2) o.1 (va_A (wMo K jM aM RM.s RM.held RM.aside RM.before RM.isHeld RM.tape RM.taped RM.token RM.frm RM.to RM.value RM.isWrong RM.unpaired RM.bestSound RM.bestWay RM.rows RM.rowN RM.sortOf RM.sizeOf RM.numbers RM.holdsWhat RM.holdsWhich RM.holdsMany RM.bodies RM.ran RM.actKind RM.actN RM.actA RM.isParted) sz)) 0 0 (va_A (wMo K jM aM RM.s RM.held RM.aside RM.before RM.isHeld RM.tape RM.taped RM.token RM.frm RM.to RM.value RM.isWrong RM.unpaired RM.bestSound RM.bestWay RM.rows RM.rowN RM.sortOf RM.sizeOf RM.numbers RM.holdsWhat RM.holdsWhich RM.holdsMany RM.bodies RM.ran RM.actKind RM.actN RM.actA RM.isParted) sz) := by
  refine ht_enter (Qf := ht_Qi D K (wMo K jM aM RM.s RM.held RM.aside RM.before RM.isHeld RM.tape RM.taped RM.token RM.frm RM.to RM.value RM.isWrong RM.unpaired RM.bestSound RM.bestWay RM.rows RM.rowN RM.sortOf RM.sizeOf RM.numbers RM.holdsWhat RM.holdsWhich RM.holdsMany o.2.1 o.2.2.1 RM.actKind RM.actN RM.actA o.2.2.2) o.1) (cc := cX9_shouts) (maxL := 3) (rt := (some .int)) (by decide) rfl (Nat.le_of_ble_eq_true rfl) ?_ sz
  intro p e s m below meth c A Q H locs ls hQ hx hb hr hlk hmn hml hown hts hA hK hP hD hS hl
  have hown : s.vm.findClass RX9 = some m.cls := hown
  have hF : CallFix p m c cX9_shouts 3 s ([.ref jM, .int p0] : List Value).toArray wsX9_shouts RX9 := ⟨hx, hb, hml, hown, hts⟩
  have hl : lv_has ls 3 [(0, .ref jM), (1, .int p0)] := hl
  have iw9 : ∀ w ∈ u_ws RX9 TX9 29, w ∈ wsX9_shouts := by decide +kernel
  have kw1 := hts (.fieldLink RX9 300 "HeldTonguesModel" "actN" "I") (by decide +kernel)
  have kw2 := hts (.fieldLink RX9 306 "HeldTonguesModel" "actKind" "I") (by decide +kernel)
  have b16 : ∀ (x1 : Int32) (vM_bodies : AI) (vM_ran : Int32) (vM_isParted : Int32) (H : Heap) (locs : List Loc) (ls : Array Slot), fX9_shouts_b16 RM x1 vM_bodies vM_ran vM_isParted = some o → va_P D vwCl (wMo K jM aM RM.s RM.held RM.aside RM.before RM.isHeld RM.tape RM.taped RM.token RM.frm RM.to RM.value RM.isWrong RM.unpaired RM.bestSound RM.bestWay RM.rows RM.rowN RM.sortOf RM.sizeOf RM.numbers RM.holdsWhat RM.holdsWhich RM.holdsMany vM_bodies vM_ran RM.actKind RM.actN RM.actA vM_isParted) H → va_D A (wMo K jM aM RM.s RM.held RM.aside RM.before RM.isHeld RM.tape RM.taped RM.token RM.frm RM.to RM.value RM.isWrong RM.unpaired RM.bestSound RM.bestWay RM.rows RM.rowN RM.sortOf RM.sizeOf RM.numbers RM.holdsWhat RM.holdsWhich RM.holdsMany vM_bodies vM_ran RM.actKind RM.actN RM.actA vM_isParted) → va_S A s.heap H locs → lv_has ls 3 [(0, .ref jM), (1, .int x1)] → W p l e (headSpec wsX9_shouts rmX9_shouts).room s m ([.ref jM, .int p0] : List Value).toArray below meth c H locs 0 0 Q (F0 m 16 ls []) := by
    intro x1 vM_bodies vM_ran vM_isParted H locs ls hf hP hD hS hl
    delta fX9_shouts_b16 at hf
    refine lv_aload_n hx hb dX9_shouts_16 rfl (lv_at hl 0 rfl) ?_
    refine lv_bipush (v := 31) hx hb dX9_shouts_17 (by decide) ?_
    obtain ⟨o_1, ho_1, hf⟩ := ht_bn_ob hf
    refine ht_callVv (rest := []) (As := [.int (31 : Int32)]) (wc := (wMo K jM aM RM.s RM.held RM.aside RM.before RM.isHeld RM.tape RM.taped RM.token RM.frm RM.to RM.value RM.isWrong RM.unpaired RM.bestSound RM.bestWay RM.rows RM.rowN RM.sortOf RM.sizeOf RM.numbers RM.holdsWhat RM.holdsWhich RM.holdsMany vM_bodies vM_ran RM.actKind RM.actN RM.actA vM_isParted)) (wr := []) (w1 := (wMo K jM aM RM.s RM.held RM.aside RM.before RM.isHeld RM.tape RM.taped RM.token RM.frm RM.to RM.value RM.isWrong RM.unpaired RM.bestSound RM.bestWay RM.rows RM.rowN RM.sortOf RM.sizeOf RM.numbers RM.holdsWhat RM.holdsWhich RM.holdsMany o_1.1 o_1.2 RM.actKind RM.actN RM.actA vM_isParted)) (w2 := (wMo K jM aM RM.s RM.held RM.aside RM.before RM.isHeld RM.tape RM.taped RM.token RM.frm RM.to RM.value RM.isWrong RM.unpaired RM.bestSound RM.bestWay RM.rows RM.rowN RM.sortOf RM.sizeOf RM.numbers RM.holdsWhat RM.holdsWhich RM.holdsMany o_1.1 o_1.2 RM.actKind RM.actN RM.actA vM_isParted)) hF (ctX9_runs l D K jM aM (RM.s, RM.held, RM.aside, RM.before, RM.isHeld, RM.tape, RM.taped, RM.token, RM.frm, RM.to, RM.value, RM.isWrong, RM.unpaired, RM.bestSound, RM.bestWay, RM.rows, RM.rowN, RM.sortOf, RM.sizeOf, RM.numbers, RM.holdsWhat, RM.holdsWhich, RM.holdsMany, vM_bodies, vM_ran, RM.actKind, RM.actN, RM.actA, vM_isParted) (31 : Int32) o_1 ho_1 H.size) (cwV 1 hts gX9_shouts_X9_runs rfl rfl rfl hdX9_runs ⟨Nat.le_of_ble_eq_true rfl, Nat.le_of_ble_eq_true rfl⟩) hK hP hD hS hA [0, 1, 2, 3, 4, 5, 6, 7, 8, 9, 10, 11, 12, 13, 14, 15] [] rfl rfl (by decide) (by decide) (by decide) [0, 1, 2, 3, 4, 5, 6, 7, 8, 9, 10, 11, 12, 13, 14, 15] rfl (by decide) (va_recv hK hP (ci := 9) (q0 := 0) rfl rfl) rfl hl.1 rfl (Nat.le_of_ble_eq_true rfl) dX9_shouts_19 ⟨Nat.zero_le _, Nat.zero_le _⟩ (fun H locs hP hD hS => ?_)
    refine lv_aload_n hx hb dX9_shouts_22 rfl (lv_at hl 0 rfl) ?_
    refine lv_iload_n hx hb dX9_shouts_23 rfl (lv_at hl 1 rfl) ?_
    obtain ⟨o_2, ho_2, hf⟩ := ht_bn_ob hf
    refine ht_callVi (r := o_2.1) (rest := []) (As := [.int x1]) (wc := (wMo K jM aM RM.s RM.held RM.aside RM.before RM.isHeld RM.tape RM.taped RM.token RM.frm RM.to RM.value RM.isWrong RM.unpaired RM.bestSound RM.bestWay RM.rows RM.rowN RM.sortOf RM.sizeOf RM.numbers RM.holdsWhat RM.holdsWhich RM.holdsMany o_1.1 o_1.2 RM.actKind RM.actN RM.actA vM_isParted)) (wr := []) (w1 := (wMo K jM aM RM.s RM.held RM.aside RM.before RM.isHeld RM.tape RM.taped RM.token RM.frm RM.to RM.value RM.isWrong RM.unpaired RM.bestSound RM.bestWay RM.rows RM.rowN RM.sortOf RM.sizeOf RM.numbers RM.holdsWhat RM.holdsWhich RM.holdsMany o_2.2.1 o_2.2.2 RM.actKind RM.actN RM.actA vM_isParted)) (w2 := (wMo K jM aM RM.s RM.held RM.aside RM.before RM.isHeld RM.tape RM.taped RM.token RM.frm RM.to RM.value RM.isWrong RM.unpaired RM.bestSound RM.bestWay RM.rows RM.rowN RM.sortOf RM.sizeOf RM.numbers RM.holdsWhat RM.holdsWhich RM.holdsMany o_2.2.1 o_2.2.2 RM.actKind RM.actN RM.actA vM_isParted)) hF (ctX9_shoutsPlain l D K jM aM (RM.s, RM.held, RM.aside, RM.before, RM.isHeld, RM.tape, RM.taped, RM.token, RM.frm, RM.to, RM.value, RM.isWrong, RM.unpaired, RM.bestSound, RM.bestWay, RM.rows, RM.rowN, RM.sortOf, RM.sizeOf, RM.numbers, RM.holdsWhat, RM.holdsWhich, RM.holdsMany, o_1.1, o_1.2, RM.actKind, RM.actN, RM.actA, vM_isParted) x1 o_2 ho_2 H.size) (cwV 1 hts gX9_shouts_X9_shoutsPlain rfl rfl rfl hdX9_shoutsPlain ⟨Nat.le_of_ble_eq_true rfl, Nat.le_of_ble_eq_true rfl⟩) hK hP hD hS hA [0, 1, 2, 3, 4, 5, 6, 7, 8, 9, 10, 11, 12, 13, 14, 15] [] rfl rfl (by decide) (by decide) (by decide) [0, 1, 2, 3, 4, 5, 6, 7, 8, 9, 10, 11, 12, 13, 14, 15] rfl (by decide) (va_recv hK hP (ci := 9) (q0 := 0) rfl rfl) rfl hl.1 rfl (Nat.le_of_ble_eq_true rfl) dX9_shouts_24 ⟨Nat.zero_le _, Nat.zero_le _⟩ (fun H locs hP hD hS => ?_)
    obtain ⟨x2_3, ex2_3, hf⟩ := ht_nm_ob hf
    rw [← ex2_3]
    refine lv_istore_n (lv' := [(2, .int x2_3), (0, .ref jM), (1, .int x1)]) hx hb dX9_shouts_27 rfl hl (by decide) rfl (fun ls hl => ?_)
    refine lv_iload_n hx hb dX9_shouts_28 rfl (lv_at hl 0 rfl) ?_
    refine lv_aload_n hx hb dX9_shouts_29 rfl (lv_at hl 1 rfl) ?_
    refine lv_aload_n hx hb dX9_shouts_30 rfl (lv_at hl 1 rfl) ?_
    refine va_get (D := D) (ci := 9) (v := .int RM.actN) (C := RX9) (T := TX9) (N := 29) hx hb hts iw9 hown hK hP 0 rfl rfl 26 (by decide) kw1 (fun _ h9 => h9) rfl dX9_shouts_31 ?_
    obtain ⟨o_4, ho_4, hf⟩ := ht_bn_ob hf
    refine ht_callVi (r := o_4.1) (rest := [.int x2_3]) (As := [.int RM.actN]) (wc := (wMo K jM aM RM.s RM.held RM.aside RM.before RM.isHeld RM.tape RM.taped RM.token RM.frm RM.to RM.value RM.isWrong RM.unpaired RM.bestSound RM.bestWay RM.rows RM.rowN RM.sortOf RM.sizeOf RM.numbers RM.holdsWhat RM.holdsWhich RM.holdsMany o_2.2.1 o_2.2.2 RM.actKind RM.actN RM.actA vM_isParted)) (wr := []) (w1 := (wMo K jM aM RM.s RM.held RM.aside RM.before RM.isHeld RM.tape RM.taped RM.token RM.frm RM.to RM.value RM.isWrong RM.unpaired RM.bestSound RM.bestWay RM.rows RM.rowN RM.sortOf RM.sizeOf RM.numbers RM.holdsWhat RM.holdsWhich RM.holdsMany o_4.2.1 o_4.2.2.1 RM.actKind RM.actN RM.actA o_4.2.2.2)) (w2 := (wMo K jM aM RM.s RM.held RM.aside RM.before RM.isHeld RM.tape RM.taped RM.token RM.frm RM.to RM.value RM.isWrong RM.unpaired RM.bestSound RM.bestWay RM.rows RM.rowN RM.sortOf RM.sizeOf RM.numbers RM.holdsWhat RM.holdsWhich RM.holdsMany o_4.2.1 o_4.2.2.1 RM.actKind RM.actN RM.actA o_4.2.2.2)) hF (ctX9_parts l D K jM aM (RM.s, RM.held, RM.aside, RM.before, RM.isHeld, RM.tape, RM.taped, RM.token, RM.frm, RM.to, RM.value, RM.isWrong, RM.unpaired, RM.bestSound, RM.bestWay, RM.rows, RM.rowN, RM.sortOf, RM.sizeOf, RM.numbers, RM.holdsWhat, RM.holdsWhich, RM.holdsMany, o_2.2.1, o_2.2.2, RM.actKind, RM.actN, RM.actA, vM_isParted) RM.actN o_4 ho_4 H.size) (cwV 1 hts gX9_shouts_X9_parts rfl rfl rfl hdX9_parts ⟨Nat.le_of_ble_eq_true rfl, Nat.le_of_ble_eq_true rfl⟩) hK hP hD hS hA [0, 1, 2, 3, 4, 5, 6, 7, 8, 9, 10, 11, 12, 13, 14, 15] [] rfl rfl (by decide) (by decide) (by decide) [0, 1, 2, 3, 4, 5, 6, 7, 8, 9, 10, 11, 12, 13, 14, 15] rfl (by decide) (va_recv hK hP (ci := 9) (q0 := 0) rfl rfl) rfl hl.1 rfl (Nat.le_of_ble_eq_true rfl) dX9_shouts_34 ⟨Nat.zero_le _, Nat.zero_le _⟩ (fun H locs hP hD hS => ?_)
    refine lv_iadd hx hb dX9_shouts_37 ?_
    have ho := Option.some.inj hf
    subst ho; subst hQ
    exact ht_iret hx hb hr hlk rfl hK hP hD hS dX9_shouts_38
  delta fX9_shouts at hf
  refine lv_aload_n hx hb dX9_shouts_0 rfl (lv_at hl 0 rfl) ?_
  refine va_get (D := D) (ci := 9) (v := .int RM.actKind) (C := RX9) (T := TX9) (N := 29) hx hb hts iw9 hown hK hP 0 rfl rfl 25 (by decide) kw2 (fun _ h9 => h9) rfl dX9_shouts_1 ?_
  refine lv_iconst (v := 2) hx hb dX9_shouts_4 (by decide) ?_
  refine lv_icmp_eq (tgt := 16) hx hb dX9_shouts_5 (by decide) (fun c_5 => ?_) (fun c_5 => ?_)
  · replace hf := ht_t c_5 hf
    exact b16  p0 RM.bodies RM.ran RM.isParted _ _ _ hf hP hD hS hl
  · replace hf := ht_f c_5 hf
    refine lv_aload_n hx hb dX9_shouts_8 rfl (lv_at hl 0 rfl) ?_
    refine va_get (D := D) (ci := 9) (v := .int RM.actKind) (C := RX9) (T := TX9) (N := 29) hx hb hts iw9 hown hK hP 0 rfl rfl 25 (by decide) kw2 (fun _ h9 => h9) rfl dX9_shouts_9 ?_
    refine lv_iconst (v := 4) hx hb dX9_shouts_12 (by decide) ?_
    refine lv_icmp_ne (tgt := 39) hx hb dX9_shouts_13 (by decide) (fun c_6 => ?_) (fun c_6 => ?_)
    · replace hf := ht_f c_6 hf
      refine lv_aload_n hx hb dX9_shouts_39 rfl (lv_at hl 0 rfl) ?_
      refine va_get (D := D) (ci := 9) (v := .int RM.actKind) (C := RX9) (T := TX9) (N := 29) hx hb hts iw9 hown hK hP 0 rfl rfl 25 (by decide) kw2 (fun _ h9 => h9) rfl dX9_shouts_40 ?_
      refine lv_iconst (v := 5) hx hb dX9_shouts_43 (by decide) ?_
      refine lv_icmp_ne (tgt := 62) hx hb dX9_shouts_44 (by decide) (fun c_7 => ?_) (fun c_7 => ?_)
      · replace hf := ht_f c_7 hf
        refine lv_aload_n hx hb dX9_shouts_62 rfl (lv_at hl 0 rfl) ?_
        refine lv_iload_n hx hb dX9_shouts_63 rfl (lv_at hl 1 rfl) ?_
        obtain ⟨o_8, ho_8, hf⟩ := ht_bn_ob hf
        refine ht_callVi (r := o_8.1) (rest := []) (As := [.int p0]) (wc := (wMo K jM aM RM.s RM.held RM.aside RM.before RM.isHeld RM.tape RM.taped RM.token RM.frm RM.to RM.value RM.isWrong RM.unpaired RM.bestSound RM.bestWay RM.rows RM.rowN RM.sortOf RM.sizeOf RM.numbers RM.holdsWhat RM.holdsWhich RM.holdsMany RM.bodies RM.ran RM.actKind RM.actN RM.actA RM.isParted)) (wr := []) (w1 := (wMo K jM aM RM.s RM.held RM.aside RM.before RM.isHeld RM.tape RM.taped RM.token RM.frm RM.to RM.value RM.isWrong RM.unpaired RM.bestSound RM.bestWay RM.rows RM.rowN RM.sortOf RM.sizeOf RM.numbers RM.holdsWhat RM.holdsWhich RM.holdsMany o_8.2.1 o_8.2.2 RM.actKind RM.actN RM.actA RM.isParted)) (w2 := (wMo K jM aM RM.s RM.held RM.aside RM.before RM.isHeld RM.tape RM.taped RM.token RM.frm RM.to RM.value RM.isWrong RM.unpaired RM.bestSound RM.bestWay RM.rows RM.rowN RM.sortOf RM.sizeOf RM.numbers RM.holdsWhat RM.holdsWhich RM.holdsMany o_8.2.1 o_8.2.2 RM.actKind RM.actN RM.actA RM.isParted)) hF (ctX9_shoutsPlain l D K jM aM RM p0 o_8 ho_8 H.size) (cwV 1 hts gX9_shouts_X9_shoutsPlain rfl rfl rfl hdX9_shoutsPlain ⟨Nat.le_of_ble_eq_true rfl, Nat.le_of_ble_eq_true rfl⟩) hK hP hD hS hA [0, 1, 2, 3, 4, 5, 6, 7, 8, 9, 10, 11, 12, 13, 14, 15] [] rfl rfl (by decide) (by decide) (by decide) [0, 1, 2, 3, 4, 5, 6, 7, 8, 9, 10, 11, 12, 13, 14, 15] rfl (by decide) (va_recv hK hP (ci := 9) (q0 := 0) rfl rfl) rfl hl.1 rfl (Nat.le_of_ble_eq_true rfl) dX9_shouts_64 ⟨Nat.zero_le _, Nat.zero_le _⟩ (fun H locs hP hD hS => ?_)
        have ho := Option.some.inj hf
        subst ho; subst hQ
        exact ht_iret hx hb hr hlk rfl hK hP hD hS dX9_shouts_67
      · replace hf := ht_t c_7 hf
        refine lv_aload_n hx hb dX9_shouts_47 rfl (lv_at hl 0 rfl) ?_
        refine lv_bipush (v := 60) hx hb dX9_shouts_48 (by decide) ?_
        obtain ⟨o_9, ho_9, hf⟩ := ht_bn_ob hf
        refine ht_callVv (rest := []) (As := [.int (60 : Int32)]) (wc := (wMo K jM aM RM.s RM.held RM.aside RM.before RM.isHeld RM.tape RM.taped RM.token RM.frm RM.to RM.value RM.isWrong RM.unpaired RM.bestSound RM.bestWay RM.rows RM.rowN RM.sortOf RM.sizeOf RM.numbers RM.holdsWhat RM.holdsWhich RM.holdsMany RM.bodies RM.ran RM.actKind RM.actN RM.actA RM.isParted)) (wr := []) (w1 := (wMo K jM aM RM.s RM.held RM.aside RM.before RM.isHeld RM.tape RM.taped RM.token RM.frm RM.to RM.value RM.isWrong RM.unpaired RM.bestSound RM.bestWay RM.rows RM.rowN RM.sortOf RM.sizeOf RM.numbers RM.holdsWhat RM.holdsWhich RM.holdsMany o_9.1 o_9.2 RM.actKind RM.actN RM.actA RM.isParted)) (w2 := (wMo K jM aM RM.s RM.held RM.aside RM.before RM.isHeld RM.tape RM.taped RM.token RM.frm RM.to RM.value RM.isWrong RM.unpaired RM.bestSound RM.bestWay RM.rows RM.rowN RM.sortOf RM.sizeOf RM.numbers RM.holdsWhat RM.holdsWhich RM.holdsMany o_9.1 o_9.2 RM.actKind RM.actN RM.actA RM.isParted)) hF (ctX9_runs l D K jM aM RM (60 : Int32) o_9 ho_9 H.size) (cwV 1 hts gX9_shouts_X9_runs rfl rfl rfl hdX9_runs ⟨Nat.le_of_ble_eq_true rfl, Nat.le_of_ble_eq_true rfl⟩) hK hP hD hS hA [0, 1, 2, 3, 4, 5, 6, 7, 8, 9, 10, 11, 12, 13, 14, 15] [] rfl rfl (by decide) (by decide) (by decide) [0, 1, 2, 3, 4, 5, 6, 7, 8, 9, 10, 11, 12, 13, 14, 15] rfl (by decide) (va_recv hK hP (ci := 9) (q0 := 0) rfl rfl) rfl hl.1 rfl (Nat.le_of_ble_eq_true rfl) dX9_shouts_50 ⟨Nat.zero_le _, Nat.zero_le _⟩ (fun H locs hP hD hS => ?_)
        refine lv_bipush (v := 9) hx hb dX9_shouts_53 (by decide) ?_
        refine lv_aload_n hx hb dX9_shouts_55 rfl (lv_at hl 0 rfl) ?_
        refine lv_iload_n hx hb dX9_shouts_56 rfl (lv_at hl 1 rfl) ?_
        obtain ⟨o_10, ho_10, hf⟩ := ht_bn_ob hf
        refine ht_callVi (r := o_10.1) (rest := [.int (9 : Int32)]) (As := [.int p0]) (wc := (wMo K jM aM RM.s RM.held RM.aside RM.before RM.isHeld RM.tape RM.taped RM.token RM.frm RM.to RM.value RM.isWrong RM.unpaired RM.bestSound RM.bestWay RM.rows RM.rowN RM.sortOf RM.sizeOf RM.numbers RM.holdsWhat RM.holdsWhich RM.holdsMany o_9.1 o_9.2 RM.actKind RM.actN RM.actA RM.isParted)) (wr := []) (w1 := (wMo K jM aM RM.s RM.held RM.aside RM.before RM.isHeld RM.tape RM.taped RM.token RM.frm RM.to RM.value RM.isWrong RM.unpaired RM.bestSound RM.bestWay RM.rows RM.rowN RM.sortOf RM.sizeOf RM.numbers RM.holdsWhat RM.holdsWhich RM.holdsMany o_10.2.1 o_10.2.2 RM.actKind RM.actN RM.actA RM.isParted)) (w2 := (wMo K jM aM RM.s RM.held RM.aside RM.before RM.isHeld RM.tape RM.taped RM.token RM.frm RM.to RM.value RM.isWrong RM.unpaired RM.bestSound RM.bestWay RM.rows RM.rowN RM.sortOf RM.sizeOf RM.numbers RM.holdsWhat RM.holdsWhich RM.holdsMany o_10.2.1 o_10.2.2 RM.actKind RM.actN RM.actA RM.isParted)) hF (ctX9_shoutsPlain l D K jM aM (RM.s, RM.held, RM.aside, RM.before, RM.isHeld, RM.tape, RM.taped, RM.token, RM.frm, RM.to, RM.value, RM.isWrong, RM.unpaired, RM.bestSound, RM.bestWay, RM.rows, RM.rowN, RM.sortOf, RM.sizeOf, RM.numbers, RM.holdsWhat, RM.holdsWhich, RM.holdsMany, o_9.1, o_9.2, RM.actKind, RM.actN, RM.actA, RM.isParted) p0 o_10 ho_10 H.size) (cwV 1 hts gX9_shouts_X9_shoutsPlain rfl rfl rfl hdX9_shoutsPlain ⟨Nat.le_of_ble_eq_true rfl, Nat.le_of_ble_eq_true rfl⟩) hK hP hD hS hA [0, 1, 2, 3, 4, 5, 6, 7, 8, 9, 10, 11, 12, 13, 14, 15] [] rfl rfl (by decide) (by decide) (by decide) [0, 1, 2, 3, 4, 5, 6, 7, 8, 9, 10, 11, 12, 13, 14, 15] rfl (by decide) (va_recv hK hP (ci := 9) (q0 := 0) rfl rfl) rfl hl.1 rfl (Nat.le_of_ble_eq_true rfl) dX9_shouts_57 ⟨Nat.zero_le _, Nat.zero_le _⟩ (fun H locs hP hD hS => ?_)
        refine lv_isub hx hb dX9_shouts_60 ?_
        have ho := Option.some.inj hf
        subst ho; subst hQ
        exact ht_iret hx hb hr hlk rfl hK hP hD hS dX9_shouts_61
    · replace hf := ht_t c_6 hf
      exact b16  p0 RM.bodies RM.ran RM.isParted _ _ _ hf hP hD hS hl
abbrev rmX9_act : Room := { frames := 8, cells := 0, slots := 0, locals := 170 }
theorem hdX9_act : yX9_act.cls = RX9 ∧ yX9_act.cls ≠ "java/lang/invoke/MethodHandle" ∧ yX9_act.cls ≠ "java/lang/invoke/VarHandle" ∧ (parseMethodDescriptor yX9_act.desc).map (fun d => d.parameters.length) = some 3 := by decide +kernel
def fX9_act_b123 (RM : ModV) (t0 : Int32) (vM_bodies : AI) (vM_ran : Int32) (vM_actKind : Int32) (vM_actN : Int32) (vM_actA : Int32) (vM_isParted : Int32) : Option (Int32 × AI × Int32 × Int32 × Int32 × Int32 × Int32) := if vM_isParted = 0 then (some (t0, vM_bodies, vM_ran, vM_actKind, vM_actN, vM_actA, vM_isParted)) else (some ((-15 : Int32), vM_bodies, vM_ran, vM_actKind, vM_actN, vM_actA, vM_isParted))
def fX9_act (RM : ModV) (p0 : Int32) (p1 : Int32) (p2 : Int32) : Option (Int32 × AI × Int32 × Int32 × Int32 × Int32 × Int32) := ht_bn (fX9_isShelf p0) (fun o_2 => if o_2 = 0 then (some ((0 : Int32), RM.bodies, (0 : Int32), RM.actKind, RM.actN, RM.actA, RM.isParted)) else (ht_bn (fX9_isIn p1.toInt64 (0 : Int64) (3 : Int64)) (fun o_4 => if o_4 = 0 then (some ((0 : Int32), RM.bodies, (0 : Int32), RM.actKind, RM.actN, RM.actA, RM.isParted)) else (ht_bn (fX9_heldOn (RM.s, RM.held, RM.aside, RM.before, RM.isHeld, RM.tape, RM.taped, RM.token, RM.frm, RM.to, RM.value, RM.isWrong, RM.unpaired, RM.bestSound, RM.bestWay, RM.rows, RM.rowN, RM.sortOf, RM.sizeOf, RM.numbers, RM.holdsWhat, RM.holdsWhich, RM.holdsMany, RM.bodies, (0 : Int32), RM.actKind, RM.actN, RM.actA, RM.isParted) p0) (fun o_6 => if o_6 = (1 : Int32) then (ht_gd (ht_ix p0 4) (ht_bn (fX9_its (RM.s, RM.held, RM.aside, RM.before, RM.isHeld, RM.tape, RM.taped, RM.token, RM.frm, RM.to, RM.value, RM.isWrong, RM.unpaired, RM.bestSound, RM.bestWay, RM.rows, RM.rowN, RM.sortOf, RM.sizeOf, RM.numbers, RM.holdsWhat, RM.holdsWhich, RM.holdsMany, RM.bodies, (0 : Int32), RM.actKind, RM.actN, RM.actA, (0 : Int32)) (RM.holdsWhich p0.toNatClampNeg) (0 : Int32)) (fun o_9 => ht_gd (ht_ix p0 4) (ht_nm (RM.holdsWhich p0.toNatClampNeg) (fun vM_actN_11 => ht_gd (ht_ix p0 4) (ht_bn (fX9_its (RM.s, RM.held, RM.aside, RM.before, RM.isHeld, RM.tape, RM.taped, RM.token, RM.frm, RM.to, RM.value, RM.isWrong, RM.unpaired, RM.bestSound, RM.bestWay, RM.rows, RM.rowN, RM.sortOf, RM.sizeOf, RM.numbers, RM.holdsWhat, RM.holdsWhich, RM.holdsMany, RM.bodies, (0 : Int32), o_9, vM_actN_11, RM.actA, (0 : Int32)) (RM.holdsWhich p0.toNatClampNeg) (3 : Int32)) (fun o_13 => if p1 = 0 then (ht_bn (fX9_mutters (RM.s, RM.held, RM.aside, RM.before, RM.isHeld, RM.tape, RM.taped, RM.token, RM.frm, RM.to, RM.value, RM.isWrong, RM.unpaired, RM.bestSound, RM.bestWay, RM.rows, RM.rowN, RM.sortOf, RM.sizeOf, RM.numbers, RM.holdsWhat, RM.holdsWhich, RM.holdsMany, RM.bodies, (0 : Int32), o_9, vM_actN_11, o_13, (0 : Int32)) p2) (fun o_20 => fX9_act_b123 RM o_20.1 o_20.2.1 o_20.2.2 o_9 vM_actN_11 o_13 (0 : Int32))) else (if p1 = (1 : Int32) then (ht_bn (fX9_says (RM.s, RM.held, RM.aside, RM.before, RM.isHeld, RM.tape, RM.taped, RM.token, RM.frm, RM.to, RM.value, RM.isWrong, RM.unpaired, RM.bestSound, RM.bestWay, RM.rows, RM.rowN, RM.sortOf, RM.sizeOf, RM.numbers, RM.holdsWhat, RM.holdsWhich, RM.holdsMany, RM.bodies, (0 : Int32), o_9, vM_actN_11, o_13, (0 : Int32)) p2) (fun o_19 => fX9_act_b123 RM o_19.1 o_19.2.1 o_19.2.2 o_9 vM_actN_11 o_13 (0 : Int32))) else (if p1 = (2 : Int32) then (ht_bn (fX9_parts (RM.s, RM.held, RM.aside, RM.before, RM.isHeld, RM.tape, RM.taped, RM.token, RM.frm, RM.to, RM.value, RM.isWrong, RM.unpaired, RM.bestSound, RM.bestWay, RM.rows, RM.rowN, RM.sortOf, RM.sizeOf, RM.numbers, RM.holdsWhat, RM.holdsWhich, RM.holdsMany, RM.bodies, (0 : Int32), o_9, vM_actN_11, o_13, (0 : Int32)) p2) (fun o_18 => fX9_act_b123 RM o_18.1 o_18.2.1 o_18.2.2.1 o_9 vM_actN_11 o_13 o_18.2.2.2)) else (ht_bn (fX9_shouts (RM.s, RM.held, RM.aside, RM.before, RM.isHeld, RM.tape, RM.taped, RM.token, RM.frm, RM.to, RM.value, RM.isWrong, RM.unpaired, RM.bestSound, RM.bestWay, RM.rows, RM.rowN, RM.sortOf, RM.sizeOf, RM.numbers, RM.holdsWhat, RM.holdsWhich, RM.holdsMany, RM.bodies, (0 : Int32), o_9, vM_actN_11, o_13, (0 : Int32)) p2) (fun o_17 => fX9_act_b123 RM o_17.1 o_17.2.1 o_17.2.2.1 o_9 vM_actN_11 o_13 o_17.2.2.2))))))))))) else (some ((0 : Int32), RM.bodies, (0 : Int32), RM.actKind, RM.actN, RM.actA, RM.isParted)))))))
set_option maxHeartbeats 1000000 in
set_option maxRecDepth 100000 in
theorem ctX9_act (l : Launch) (D : va_G) (K : Nat → ClassId) (jM : Nat) (aM : Nat → Nat) (RM : ModV) (p0 : Int32) (p1 : Int32) (p2 : Int32) (o : (Int32 × AI × Int32 × Int32 × Int32 × Int32 × Int32)) (hf : fX9_act RM p0 p1 p2 = some o) (sz : Nat) : Met l yX9_act wsX9_act rmX9_act (ht_Pre D K [.ref jM, .int p0, .int p1, .int p2] (wMo K jM aM RM.s RM.held RM.aside RM.before RM.isHeld RM.tape RM.taped RM.token RM.frm RM.to RM.value RM.isWrong RM.unpaired RM.bestSound RM.bestWay RM.rows RM.rowN RM.sortOf RM.sizeOf RM.numbers RM.holdsWhat RM.holdsWhich RM.holdsMany RM.bodies RM.ran RM.actKind RM.actN RM.actA RM.isParted) sz) (ht_Qi D K (wMo K jM aM RM.s RM.held RM.aside RM.before RM.isHeld RM.tape RM.taped RM.token RM.frm RM.to RM.value RM.isWrong RM.unpaired RM.bestSound RM.bestWay RM.rows RM.rowN RM.sortOf RM.sizeOf RM.numbers RM.holdsWhat RM.holdsWhich RM.holdsMany o.2.1 o.2.2.1 o.2.2.2.1 o.2.2.2.2.1 o.2.2.2.2.2.1 o.2.2.2.2.2.2) o.1 (va_A (wMo K jM aM RM.s RM.held RM.aside RM.before RM.isHeld RM.tape RM.taped RM.token RM.frm RM.to RM.value RM.isWrong RM.unpaired RM.bestSound RM.bestWay RM.rows RM.rowN RM.sortOf RM.sizeOf RM.numbers RM.holdsWhat RM.holdsWhich RM.holdsMany RM.bodies RM.ran RM.actKind RM.actN RM.actA RM.isParted) sz)) 0 0 (va_A (wMo K jM aM RM.s RM.held RM.aside RM.before RM.isHeld RM.tape RM.taped RM.token RM.frm RM.to RM.value RM.isWrong RM.unpaired RM.bestSound RM.bestWay RM.rows RM.rowN RM.sortOf RM.sizeOf RM.numbers RM.holdsWhat RM.holdsWhich RM.holdsMany RM.bodies RM.ran RM.actKind RM.actN RM.actA RM.isParted) sz) := by
  refine ht_enter (Qf := ht_Qi D K (wMo K jM aM RM.s RM.held RM.aside RM.before RM.isHeld RM.tape RM.taped RM.token RM.frm RM.to RM.value RM.isWrong RM.unpaired RM.bestSound RM.bestWay RM.rows RM.rowN RM.sortOf RM.sizeOf RM.numbers RM.holdsWhat RM.holdsWhich RM.holdsMany o.2.1 o.2.2.1 o.2.2.2.1 o.2.2.2.2.1 o.2.2.2.2.2.1 o.2.2.2.2.2.2) o.1) (cc := cX9_act) (maxL := 5) (rt := (some .int)) (by decide) rfl (Nat.le_of_ble_eq_true rfl) ?_ sz
  intro p e s m below meth c A Q H locs ls hQ hx hb hr hlk hmn hml hown hts hA hK hP hD hS hl
  have hown : s.vm.findClass RX9 = some m.cls := hown
  have hF : CallFix p m c cX9_act 5 s ([.ref jM, .int p0, .int p1, .int p2] : List Value).toArray wsX9_act RX9 := ⟨hx, hb, hml, hown, hts⟩
  have hl : lv_has ls 5 [(0, .ref jM), (1, .int p0), (2, .int p1), (3, .int p2)] := hl
  have iw9 : ∀ w ∈ u_ws RX9 TX9 29, w ∈ wsX9_act := by decide +kernel
  have kw1 := hts (.fieldLink RX9 321 "HeldTonguesModel" "isParted" "Z") (by decide +kernel)
  have kw2 := hts (.fieldLink RX9 294 "HeldTonguesModel" "ran" "I") (by decide +kernel)
  have kw3 := hts (.constantLong RX9 160 (3)) (by decide +kernel)
  have kw4 := hts (.fieldLink RX9 46 "HeldTonguesModel" "holdsWhich" "[I") (by decide +kernel)
  have kw5 := hts (.fieldLink RX9 306 "HeldTonguesModel" "actKind" "I") (by decide +kernel)
  have kw6 := hts (.fieldLink RX9 300 "HeldTonguesModel" "actN" "I") (by decide +kernel)
  have kw7 := hts (.fieldLink RX9 315 "HeldTonguesModel" "actA" "I") (by decide +kernel)
  have b123 : ∀ (t0 : Int32) (vM_bodies : AI) (vM_ran : Int32) (vM_actKind : Int32) (vM_actN : Int32) (vM_actA : Int32) (vM_isParted : Int32) (H : Heap) (locs : List Loc) (ls : Array Slot), fX9_act_b123 RM t0 vM_bodies vM_ran vM_actKind vM_actN vM_actA vM_isParted = some o → va_P D vwCl (wMo K jM aM RM.s RM.held RM.aside RM.before RM.isHeld RM.tape RM.taped RM.token RM.frm RM.to RM.value RM.isWrong RM.unpaired RM.bestSound RM.bestWay RM.rows RM.rowN RM.sortOf RM.sizeOf RM.numbers RM.holdsWhat RM.holdsWhich RM.holdsMany vM_bodies vM_ran vM_actKind vM_actN vM_actA vM_isParted) H → va_D A (wMo K jM aM RM.s RM.held RM.aside RM.before RM.isHeld RM.tape RM.taped RM.token RM.frm RM.to RM.value RM.isWrong RM.unpaired RM.bestSound RM.bestWay RM.rows RM.rowN RM.sortOf RM.sizeOf RM.numbers RM.holdsWhat RM.holdsWhich RM.holdsMany vM_bodies vM_ran vM_actKind vM_actN vM_actA vM_isParted) → va_S A s.heap H locs → lv_has ls 5 [(0, .ref jM)] → W p l e (headSpec wsX9_act rmX9_act).room s m ([.ref jM, .int p0, .int p1, .int p2] : List Value).toArray below meth c H locs 0 0 Q (F0 m 123 ls [.int t0]) := by
    intro t0 vM_bodies vM_ran vM_actKind vM_actN vM_actA vM_isParted H locs ls hf hP hD hS hl
    delta fX9_act_b123 at hf
    refine lv_istore (lv' := [(4, .int t0), (0, .ref jM)]) hx hb dX9_act_123 hl (by decide) rfl (fun ls hl => ?_)
    refine lv_aload_n hx hb dX9_act_125 rfl (lv_at hl 1 rfl) ?_
    refine va_get (D := D) (ci := 9) (v := .int vM_isParted) (C := RX9) (T := TX9) (N := 29) hx hb hts iw9 hown hK hP 0 rfl rfl 28 (by decide) kw1 (fun _ h9 => h9) rfl dX9_act_126 ?_
    refine lv_if_eq (tgt := 137) hx hb dX9_act_129 (by decide) (fun c_1 => ?_) (fun c_1 => ?_)
    · replace hf := ht_t c_1 hf
      refine lv_iload hx hb dX9_act_137 (lv_at hl 0 rfl) ?_
      have ho := Option.some.inj hf
      subst ho; subst hQ
      exact ht_iret hx hb hr hlk rfl hK hP hD hS dX9_act_139
    · replace hf := ht_f c_1 hf
      refine lv_bipush (v := -15) hx hb dX9_act_132 (by decide) ?_
      refine lv_goto (tgt := 139) hx hb dX9_act_134 (by decide) ?_
      have ho := Option.some.inj hf
      subst ho; subst hQ
      exact ht_iret hx hb hr hlk rfl hK hP hD hS dX9_act_139
  delta fX9_act at hf
  refine lv_aload_n hx hb dX9_act_0 rfl (lv_at hl 0 rfl) ?_
  refine lv_iconst (v := 0) hx hb dX9_act_1 (by decide) ?_
  refine ht_put (ci := 9) (v := .int (0 : Int32)) (ty := .int) (C := RX9) (T := TX9) (N := 29) (w2 := (wMo K jM aM RM.s RM.held RM.aside RM.before RM.isHeld RM.tape RM.taped RM.token RM.frm RM.to RM.value RM.isWrong RM.unpaired RM.bestSound RM.bestWay RM.rows RM.rowN RM.sortOf RM.sizeOf RM.numbers RM.holdsWhat RM.holdsWhich RM.holdsMany RM.bodies (0 : Int32) RM.actKind RM.actN RM.actA RM.isParted)) hx hb hts iw9 tyX9 tyX9_ok nmX9 hown hK hP hD hS 0 rfl rfl 24 (by decide) kw2 (fun _ h9 => h9) rfl (by decide +kernel) rfl rfl (Nat.le_of_ble_eq_true rfl) dX9_act_2 rfl (fun H locs hP hD hS => ?_)
  refine lv_iload_n hx hb dX9_act_5 rfl (lv_at hl 1 rfl) ?_
  obtain ⟨o_2, ho_2, hf⟩ := ht_bn_ob hf
  refine ht_callSi (r := o_2) (rest := []) (As := [.int p0]) (wc := []) (wr := (wMo K jM aM RM.s RM.held RM.aside RM.before RM.isHeld RM.tape RM.taped RM.token RM.frm RM.to RM.value RM.isWrong RM.unpaired RM.bestSound RM.bestWay RM.rows RM.rowN RM.sortOf RM.sizeOf RM.numbers RM.holdsWhat RM.holdsWhich RM.holdsMany RM.bodies (0 : Int32) RM.actKind RM.actN RM.actA RM.isParted)) (w1 := []) (w2 := (wMo K jM aM RM.s RM.held RM.aside RM.before RM.isHeld RM.tape RM.taped RM.token RM.frm RM.to RM.value RM.isWrong RM.unpaired RM.bestSound RM.bestWay RM.rows RM.rowN RM.sortOf RM.sizeOf RM.numbers RM.holdsWhat RM.holdsWhich RM.holdsMany RM.bodies (0 : Int32) RM.actKind RM.actN RM.actA RM.isParted)) hF (ctX9_isShelf l D K p0 o_2 ho_2 H.size) (va_cwS 1 hts gX9_act_X9_isShelf rfl rfl rfl hdX9_isShelf ⟨Nat.le_of_ble_eq_true rfl, Nat.le_of_ble_eq_true rfl⟩) hK hP hD hS hA [] [0, 1, 2, 3, 4, 5, 6, 7, 8, 9, 10, 11, 12, 13, 14, 15] rfl rfl (by decide) (by decide) (by decide) [0, 1, 2, 3, 4, 5, 6, 7, 8, 9, 10, 11, 12, 13, 14, 15] rfl (by decide) rfl hl.1 rfl (Nat.le_of_ble_eq_true rfl) dX9_act_6 ⟨Nat.zero_le _, Nat.zero_le _⟩ (fun H locs hP hD hS => ?_)
  refine lv_if_eq (tgt := 33) hx hb dX9_act_9 (by decide) (fun c_3 => ?_) (fun c_3 => ?_)
  · replace hf := ht_t c_3 hf
    refine lv_iconst (v := 0) hx hb dX9_act_33 (by decide) ?_
    have ho := Option.some.inj hf
    subst ho; subst hQ
    exact ht_iret hx hb hr hlk rfl hK hP hD hS dX9_act_34
  · replace hf := ht_f c_3 hf
    refine lv_iload_n hx hb dX9_act_12 rfl (lv_at hl 2 rfl) ?_
    refine lv_i2l hx hb dX9_act_13 rfl ?_
    refine lv_lconst (v := 0) hx hb dX9_act_14 (by decide) ?_
    refine lv_ldc2 hx hb hown kw3 dX9_act_15 ?_
    obtain ⟨o_4, ho_4, hf⟩ := ht_bn_ob hf
    refine ht_callSi (r := o_4) (rest := []) (As := [.long p1.toInt64, .long (0 : Int64), .long (3 : Int64)]) (wc := []) (wr := (wMo K jM aM RM.s RM.held RM.aside RM.before RM.isHeld RM.tape RM.taped RM.token RM.frm RM.to RM.value RM.isWrong RM.unpaired RM.bestSound RM.bestWay RM.rows RM.rowN RM.sortOf RM.sizeOf RM.numbers RM.holdsWhat RM.holdsWhich RM.holdsMany RM.bodies (0 : Int32) RM.actKind RM.actN RM.actA RM.isParted)) (w1 := []) (w2 := (wMo K jM aM RM.s RM.held RM.aside RM.before RM.isHeld RM.tape RM.taped RM.token RM.frm RM.to RM.value RM.isWrong RM.unpaired RM.bestSound RM.bestWay RM.rows RM.rowN RM.sortOf RM.sizeOf RM.numbers RM.holdsWhat RM.holdsWhich RM.holdsMany RM.bodies (0 : Int32) RM.actKind RM.actN RM.actA RM.isParted)) hF (ctX9_isIn l D K p1.toInt64 (0 : Int64) (3 : Int64) o_4 ho_4 H.size) (va_cwS 3 hts gX9_act_X9_isIn rfl rfl rfl hdX9_isIn ⟨Nat.le_of_ble_eq_true rfl, Nat.le_of_ble_eq_true rfl⟩) hK hP hD hS hA [] [0, 1, 2, 3, 4, 5, 6, 7, 8, 9, 10, 11, 12, 13, 14, 15] rfl rfl (by decide) (by decide) (by decide) [0, 1, 2, 3, 4, 5, 6, 7, 8, 9, 10, 11, 12, 13, 14, 15] rfl (by decide) rfl hl.1 rfl (Nat.le_of_ble_eq_true rfl) dX9_act_18 ⟨Nat.zero_le _, Nat.zero_le _⟩ (fun H locs hP hD hS => ?_)
    refine lv_if_eq (tgt := 33) hx hb dX9_act_21 (by decide) (fun c_5 => ?_) (fun c_5 => ?_)
    · replace hf := ht_t c_5 hf
      refine lv_iconst (v := 0) hx hb dX9_act_33 (by decide) ?_
      have ho := Option.some.inj hf
      subst ho; subst hQ
      exact ht_iret hx hb hr hlk rfl hK hP hD hS dX9_act_34
    · replace hf := ht_f c_5 hf
      refine lv_aload_n hx hb dX9_act_24 rfl (lv_at hl 0 rfl) ?_
      refine lv_iload_n hx hb dX9_act_25 rfl (lv_at hl 1 rfl) ?_
      obtain ⟨o_6, ho_6, hf⟩ := ht_bn_ob hf
      refine ht_callVi (r := o_6) (rest := []) (As := [.int p0]) (wc := (wMo K jM aM RM.s RM.held RM.aside RM.before RM.isHeld RM.tape RM.taped RM.token RM.frm RM.to RM.value RM.isWrong RM.unpaired RM.bestSound RM.bestWay RM.rows RM.rowN RM.sortOf RM.sizeOf RM.numbers RM.holdsWhat RM.holdsWhich RM.holdsMany RM.bodies (0 : Int32) RM.actKind RM.actN RM.actA RM.isParted)) (wr := []) (w1 := (wMo K jM aM RM.s RM.held RM.aside RM.before RM.isHeld RM.tape RM.taped RM.token RM.frm RM.to RM.value RM.isWrong RM.unpaired RM.bestSound RM.bestWay RM.rows RM.rowN RM.sortOf RM.sizeOf RM.numbers RM.holdsWhat RM.holdsWhich RM.holdsMany RM.bodies (0 : Int32) RM.actKind RM.actN RM.actA RM.isParted)) (w2 := (wMo K jM aM RM.s RM.held RM.aside RM.before RM.isHeld RM.tape RM.taped RM.token RM.frm RM.to RM.value RM.isWrong RM.unpaired RM.bestSound RM.bestWay RM.rows RM.rowN RM.sortOf RM.sizeOf RM.numbers RM.holdsWhat RM.holdsWhich RM.holdsMany RM.bodies (0 : Int32) RM.actKind RM.actN RM.actA RM.isParted)) hF (ctX9_heldOn l D K jM aM (RM.s, RM.held, RM.aside, RM.before, RM.isHeld, RM.tape, RM.taped, RM.token, RM.frm, RM.to, RM.value, RM.isWrong, RM.unpaired, RM.bestSound, RM.bestWay, RM.rows, RM.rowN, RM.sortOf, RM.sizeOf, RM.numbers, RM.holdsWhat, RM.holdsWhich, RM.holdsMany, RM.bodies, (0 : Int32), RM.actKind, RM.actN, RM.actA, RM.isParted) p0 o_6 ho_6 H.size) (cwV 1 hts gX9_act_X9_heldOn rfl rfl rfl hdX9_heldOn ⟨Nat.le_of_ble_eq_true rfl, Nat.le_of_ble_eq_true rfl⟩) hK hP hD hS hA [0, 1, 2, 3, 4, 5, 6, 7, 8, 9, 10, 11, 12, 13, 14, 15] [] rfl rfl (by decide) (by decide) (by decide) [0, 1, 2, 3, 4, 5, 6, 7, 8, 9, 10, 11, 12, 13, 14, 15] rfl (by decide) (va_recv hK hP (ci := 9) (q0 := 0) rfl rfl) rfl hl.1 rfl (Nat.le_of_ble_eq_true rfl) dX9_act_26 ⟨Nat.zero_le _, Nat.zero_le _⟩ (fun H locs hP hD hS => ?_)
      refine lv_iconst (v := 1) hx hb dX9_act_29 (by decide) ?_
      refine lv_icmp_eq (tgt := 35) hx hb dX9_act_30 (by decide) (fun c_7 => ?_) (fun c_7 => ?_)
      · replace hf := ht_t c_7 hf
        refine lv_aload_n hx hb dX9_act_35 rfl (lv_at hl 0 rfl) ?_
        refine lv_iconst (v := 0) hx hb dX9_act_36 (by decide) ?_
        refine ht_put (ci := 9) (v := .int (0 : Int32)) (ty := .boolean) (C := RX9) (T := TX9) (N := 29) (w2 := (wMo K jM aM RM.s RM.held RM.aside RM.before RM.isHeld RM.tape RM.taped RM.token RM.frm RM.to RM.value RM.isWrong RM.unpaired RM.bestSound RM.bestWay RM.rows RM.rowN RM.sortOf RM.sizeOf RM.numbers RM.holdsWhat RM.holdsWhich RM.holdsMany RM.bodies (0 : Int32) RM.actKind RM.actN RM.actA (0 : Int32))) hx hb hts iw9 tyX9 tyX9_ok nmX9 hown hK hP hD hS 0 rfl rfl 28 (by decide) kw1 (fun _ h9 => h9) rfl (by decide +kernel) rfl rfl (Nat.le_of_ble_eq_true rfl) dX9_act_37 rfl (fun H locs hP hD hS => ?_)
        refine lv_aload_n hx hb dX9_act_40 rfl (lv_at hl 0 rfl) ?_
        refine lv_aload_n hx hb dX9_act_41 rfl (lv_at hl 0 rfl) ?_
        refine lv_aload_n hx hb dX9_act_42 rfl (lv_at hl 0 rfl) ?_
        refine va_get (D := D) (ci := 9) (v := .ref (aM 12)) (C := RX9) (T := TX9) (N := 29) hx hb hts iw9 hown hK hP 0 rfl rfl 21 (by decide) kw4 (fun _ h9 => h9) rfl dX9_act_43 ?_
        refine lv_iload_n hx hb dX9_act_46 rfl (lv_at hl 1 rfl) ?_
        obtain ⟨g_8, hf⟩ := ht_gd_ob hf
        refine va_iald hx hb hK hP 13 1 rfl rfl (ht_ix_in g_8) dX9_act_47 ?_
        refine lv_iconst (v := 0) hx hb dX9_act_48 (by decide) ?_
        obtain ⟨o_9, ho_9, hf⟩ := ht_bn_ob hf
        refine ht_callVi (r := o_9) (rest := [.ref jM]) (As := [.int (RM.holdsWhich p0.toNatClampNeg), .int (0 : Int32)]) (wc := (wMo K jM aM RM.s RM.held RM.aside RM.before RM.isHeld RM.tape RM.taped RM.token RM.frm RM.to RM.value RM.isWrong RM.unpaired RM.bestSound RM.bestWay RM.rows RM.rowN RM.sortOf RM.sizeOf RM.numbers RM.holdsWhat RM.holdsWhich RM.holdsMany RM.bodies (0 : Int32) RM.actKind RM.actN RM.actA (0 : Int32))) (wr := []) (w1 := (wMo K jM aM RM.s RM.held RM.aside RM.before RM.isHeld RM.tape RM.taped RM.token RM.frm RM.to RM.value RM.isWrong RM.unpaired RM.bestSound RM.bestWay RM.rows RM.rowN RM.sortOf RM.sizeOf RM.numbers RM.holdsWhat RM.holdsWhich RM.holdsMany RM.bodies (0 : Int32) RM.actKind RM.actN RM.actA (0 : Int32))) (w2 := (wMo K jM aM RM.s RM.held RM.aside RM.before RM.isHeld RM.tape RM.taped RM.token RM.frm RM.to RM.value RM.isWrong RM.unpaired RM.bestSound RM.bestWay RM.rows RM.rowN RM.sortOf RM.sizeOf RM.numbers RM.holdsWhat RM.holdsWhich RM.holdsMany RM.bodies (0 : Int32) RM.actKind RM.actN RM.actA (0 : Int32))) hF (ctX9_its l D K jM aM (RM.s, RM.held, RM.aside, RM.before, RM.isHeld, RM.tape, RM.taped, RM.token, RM.frm, RM.to, RM.value, RM.isWrong, RM.unpaired, RM.bestSound, RM.bestWay, RM.rows, RM.rowN, RM.sortOf, RM.sizeOf, RM.numbers, RM.holdsWhat, RM.holdsWhich, RM.holdsMany, RM.bodies, (0 : Int32), RM.actKind, RM.actN, RM.actA, (0 : Int32)) (RM.holdsWhich p0.toNatClampNeg) (0 : Int32) o_9 ho_9 H.size) (cwV 2 hts gX9_act_X9_its rfl rfl rfl hdX9_its ⟨Nat.le_of_ble_eq_true rfl, Nat.le_of_ble_eq_true rfl⟩) hK hP hD hS hA [0, 1, 2, 3, 4, 5, 6, 7, 8, 9, 10, 11, 12, 13, 14, 15] [] rfl rfl (by decide) (by decide) (by decide) [0, 1, 2, 3, 4, 5, 6, 7, 8, 9, 10, 11, 12, 13, 14, 15] rfl (by decide) (va_recv hK hP (ci := 9) (q0 := 0) rfl rfl) rfl hl.1 rfl (Nat.le_of_ble_eq_true rfl) dX9_act_49 ⟨Nat.zero_le _, Nat.zero_le _⟩ (fun H locs hP hD hS => ?_)
        refine ht_put (ci := 9) (v := .int o_9) (ty := .int) (C := RX9) (T := TX9) (N := 29) (w2 := (wMo K jM aM RM.s RM.held RM.aside RM.before RM.isHeld RM.tape RM.taped RM.token RM.frm RM.to RM.value RM.isWrong RM.unpaired RM.bestSound RM.bestWay RM.rows RM.rowN RM.sortOf RM.sizeOf RM.numbers RM.holdsWhat RM.holdsWhich RM.holdsMany RM.bodies (0 : Int32) o_9 RM.actN RM.actA (0 : Int32))) hx hb hts iw9 tyX9 tyX9_ok nmX9 hown hK hP hD hS 0 rfl rfl 25 (by decide) kw5 (fun _ h9 => h9) rfl (by decide +kernel) rfl rfl (Nat.le_of_ble_eq_true rfl) dX9_act_52 rfl (fun H locs hP hD hS => ?_)
        refine lv_aload_n hx hb dX9_act_55 rfl (lv_at hl 0 rfl) ?_
        refine lv_aload_n hx hb dX9_act_56 rfl (lv_at hl 0 rfl) ?_
        refine va_get (D := D) (ci := 9) (v := .ref (aM 12)) (C := RX9) (T := TX9) (N := 29) hx hb hts iw9 hown hK hP 0 rfl rfl 21 (by decide) kw4 (fun _ h9 => h9) rfl dX9_act_57 ?_
        refine lv_iload_n hx hb dX9_act_60 rfl (lv_at hl 1 rfl) ?_
        obtain ⟨g_10, hf⟩ := ht_gd_ob hf
        refine va_iald hx hb hK hP 13 1 rfl rfl (ht_ix_in g_10) dX9_act_61 ?_
        obtain ⟨vM_actN_11, evM_actN_11, hf⟩ := ht_nm_ob hf
        rw [← evM_actN_11]
        refine ht_put (ci := 9) (v := .int vM_actN_11) (ty := .int) (C := RX9) (T := TX9) (N := 29) (w2 := (wMo K jM aM RM.s RM.held RM.aside RM.before RM.isHeld RM.tape RM.taped RM.token RM.frm RM.to RM.value RM.isWrong RM.unpaired RM.bestSound RM.bestWay RM.rows RM.rowN RM.sortOf RM.sizeOf RM.numbers RM.holdsWhat RM.holdsWhich RM.holdsMany RM.bodies (0 : Int32) o_9 vM_actN_11 RM.actA (0 : Int32))) hx hb hts iw9 tyX9 tyX9_ok nmX9 hown hK hP hD hS 0 rfl rfl 26 (by decide) kw6 (fun _ h9 => h9) rfl (by decide +kernel) rfl rfl (Nat.le_of_ble_eq_true rfl) dX9_act_62 rfl (fun H locs hP hD hS => ?_)
        refine lv_aload_n hx hb dX9_act_65 rfl (lv_at hl 0 rfl) ?_
        refine lv_aload_n hx hb dX9_act_66 rfl (lv_at hl 0 rfl) ?_
        refine lv_aload_n hx hb dX9_act_67 rfl (lv_at hl 0 rfl) ?_
        refine va_get (D := D) (ci := 9) (v := .ref (aM 12)) (C := RX9) (T := TX9) (N := 29) hx hb hts iw9 hown hK hP 0 rfl rfl 21 (by decide) kw4 (fun _ h9 => h9) rfl dX9_act_68 ?_
        refine lv_iload_n hx hb dX9_act_71 rfl (lv_at hl 1 rfl) ?_
        obtain ⟨g_12, hf⟩ := ht_gd_ob hf
        refine va_iald hx hb hK hP 13 1 rfl rfl (ht_ix_in g_12) dX9_act_72 ?_
        refine lv_iconst (v := 3) hx hb dX9_act_73 (by decide) ?_
        obtain ⟨o_13, ho_13, hf⟩ := ht_bn_ob hf
        refine ht_callVi (r := o_13) (rest := [.ref jM]) (As := [.int (RM.holdsWhich p0.toNatClampNeg), .int (3 : Int32)]) (wc := (wMo K jM aM RM.s RM.held RM.aside RM.before RM.isHeld RM.tape RM.taped RM.token RM.frm RM.to RM.value RM.isWrong RM.unpaired RM.bestSound RM.bestWay RM.rows RM.rowN RM.sortOf RM.sizeOf RM.numbers RM.holdsWhat RM.holdsWhich RM.holdsMany RM.bodies (0 : Int32) o_9 vM_actN_11 RM.actA (0 : Int32))) (wr := []) (w1 := (wMo K jM aM RM.s RM.held RM.aside RM.before RM.isHeld RM.tape RM.taped RM.token RM.frm RM.to RM.value RM.isWrong RM.unpaired RM.bestSound RM.bestWay RM.rows RM.rowN RM.sortOf RM.sizeOf RM.numbers RM.holdsWhat RM.holdsWhich RM.holdsMany RM.bodies (0 : Int32) o_9 vM_actN_11 RM.actA (0 : Int32))) (w2 := (wMo K jM aM RM.s RM.held RM.aside RM.before RM.isHeld RM.tape RM.taped RM.token RM.frm RM.to RM.value RM.isWrong RM.unpaired RM.bestSound RM.bestWay RM.rows RM.rowN RM.sortOf RM.sizeOf RM.numbers RM.holdsWhat RM.holdsWhich RM.holdsMany RM.bodies (0 : Int32) o_9 vM_actN_11 RM.actA (0 : Int32))) hF (ctX9_its l D K jM aM (RM.s, RM.held, RM.aside, RM.before, RM.isHeld, RM.tape, RM.taped, RM.token, RM.frm, RM.to, RM.value, RM.isWrong, RM.unpaired, RM.bestSound, RM.bestWay, RM.rows, RM.rowN, RM.sortOf, RM.sizeOf, RM.numbers, RM.holdsWhat, RM.holdsWhich, RM.holdsMany, RM.bodies, (0 : Int32), o_9, vM_actN_11, RM.actA, (0 : Int32)) (RM.holdsWhich p0.toNatClampNeg) (3 : Int32) o_13 ho_13 H.size) (cwV 2 hts gX9_act_X9_its rfl rfl rfl hdX9_its ⟨Nat.le_of_ble_eq_true rfl, Nat.le_of_ble_eq_true rfl⟩) hK hP hD hS hA [0, 1, 2, 3, 4, 5, 6, 7, 8, 9, 10, 11, 12, 13, 14, 15] [] rfl rfl (by decide) (by decide) (by decide) [0, 1, 2, 3, 4, 5, 6, 7, 8, 9, 10, 11, 12, 13, 14, 15] rfl (by decide) (va_recv hK hP (ci := 9) (q0 := 0) rfl rfl) rfl hl.1 rfl (Nat.le_of_ble_eq_true rfl) dX9_act_74 ⟨Nat.zero_le _, Nat.zero_le _⟩ (fun H locs hP hD hS => ?_)
        refine ht_put (ci := 9) (v := .int o_13) (ty := .int) (C := RX9) (T := TX9) (N := 29) (w2 := (wMo K jM aM RM.s RM.held RM.aside RM.before RM.isHeld RM.tape RM.taped RM.token RM.frm RM.to RM.value RM.isWrong RM.unpaired RM.bestSound RM.bestWay RM.rows RM.rowN RM.sortOf RM.sizeOf RM.numbers RM.holdsWhat RM.holdsWhich RM.holdsMany RM.bodies (0 : Int32) o_9 vM_actN_11 o_13 (0 : Int32))) hx hb hts iw9 tyX9 tyX9_ok nmX9 hown hK hP hD hS 0 rfl rfl 27 (by decide) kw7 (fun _ h9 => h9) rfl (by decide +kernel) rfl rfl (Nat.le_of_ble_eq_true rfl) dX9_act_77 rfl (fun H locs hP hD hS => ?_)
        refine lv_iload_n hx hb dX9_act_80 rfl (lv_at hl 2 rfl) ?_
        refine lv_if_ne (tgt := 92) hx hb dX9_act_81 (by decide) (fun c_14 => ?_) (fun c_14 => ?_)
        · replace hf := ht_f c_14 hf
          refine lv_iload_n hx hb dX9_act_92 rfl (lv_at hl 2 rfl) ?_
          refine lv_iconst (v := 1) hx hb dX9_act_93 (by decide) ?_
          refine lv_icmp_ne (tgt := 105) hx hb dX9_act_94 (by decide) (fun c_15 => ?_) (fun c_15 => ?_)
          · replace hf := ht_f c_15 hf
            refine lv_iload_n hx hb dX9_act_105 rfl (lv_at hl 2 rfl) ?_
            refine lv_iconst (v := 2) hx hb dX9_act_106 (by decide) ?_
            refine lv_icmp_ne (tgt := 118) hx hb dX9_act_107 (by decide) (fun c_16 => ?_) (fun c_16 => ?_)
            · replace hf := ht_f c_16 hf
              refine lv_aload_n hx hb dX9_act_118 rfl (lv_at hl 0 rfl) ?_
              refine lv_iload_n hx hb dX9_act_119 rfl (lv_at hl 3 rfl) ?_
              obtain ⟨o_17, ho_17, hf⟩ := ht_bn_ob hf
              refine ht_callVi (r := o_17.1) (rest := []) (As := [.int p2]) (wc := (wMo K jM aM RM.s RM.held RM.aside RM.before RM.isHeld RM.tape RM.taped RM.token RM.frm RM.to RM.value RM.isWrong RM.unpaired RM.bestSound RM.bestWay RM.rows RM.rowN RM.sortOf RM.sizeOf RM.numbers RM.holdsWhat RM.holdsWhich RM.holdsMany RM.bodies (0 : Int32) o_9 vM_actN_11 o_13 (0 : Int32))) (wr := []) (w1 := (wMo K jM aM RM.s RM.held RM.aside RM.before RM.isHeld RM.tape RM.taped RM.token RM.frm RM.to RM.value RM.isWrong RM.unpaired RM.bestSound RM.bestWay RM.rows RM.rowN RM.sortOf RM.sizeOf RM.numbers RM.holdsWhat RM.holdsWhich RM.holdsMany o_17.2.1 o_17.2.2.1 o_9 vM_actN_11 o_13 o_17.2.2.2)) (w2 := (wMo K jM aM RM.s RM.held RM.aside RM.before RM.isHeld RM.tape RM.taped RM.token RM.frm RM.to RM.value RM.isWrong RM.unpaired RM.bestSound RM.bestWay RM.rows RM.rowN RM.sortOf RM.sizeOf RM.numbers RM.holdsWhat RM.holdsWhich RM.holdsMany o_17.2.1 o_17.2.2.1 o_9 vM_actN_11 o_13 o_17.2.2.2)) hF (ctX9_shouts l D K jM aM (RM.s, RM.held, RM.aside, RM.before, RM.isHeld, RM.tape, RM.taped, RM.token, RM.frm, RM.to, RM.value, RM.isWrong, RM.unpaired, RM.bestSound, RM.bestWay, RM.rows, RM.rowN, RM.sortOf, RM.sizeOf, RM.numbers, RM.holdsWhat, RM.holdsWhich, RM.holdsMany, RM.bodies, (0 : Int32), o_9, vM_actN_11, o_13, (0 : Int32)) p2 o_17 ho_17 H.size) (cwV 1 hts gX9_act_X9_shouts rfl rfl rfl hdX9_shouts ⟨Nat.le_of_ble_eq_true rfl, Nat.le_of_ble_eq_true rfl⟩) hK hP hD hS hA [0, 1, 2, 3, 4, 5, 6, 7, 8, 9, 10, 11, 12, 13, 14, 15] [] rfl rfl (by decide) (by decide) (by decide) [0, 1, 2, 3, 4, 5, 6, 7, 8, 9, 10, 11, 12, 13, 14, 15] rfl (by decide) (va_recv hK hP (ci := 9) (q0 := 0) rfl rfl) rfl hl.1 rfl (Nat.le_of_ble_eq_true rfl) dX9_act_120 ⟨Nat.zero_le _, Nat.zero_le _⟩ (fun H locs hP hD hS => ?_)
              exact b123  o_17.1 o_17.2.1 o_17.2.2.1 o_9 vM_actN_11 o_13 o_17.2.2.2 _ _ _ hf hP hD hS (lv_sub hl [0] rfl)
            · replace hf := ht_t c_16 hf
              refine lv_aload_n hx hb dX9_act_110 rfl (lv_at hl 0 rfl) ?_
              refine lv_iload_n hx hb dX9_act_111 rfl (lv_at hl 3 rfl) ?_
              obtain ⟨o_18, ho_18, hf⟩ := ht_bn_ob hf
              refine ht_callVi (r := o_18.1) (rest := []) (As := [.int p2]) (wc := (wMo K jM aM RM.s RM.held RM.aside RM.before RM.isHeld RM.tape RM.taped RM.token RM.frm RM.to RM.value RM.isWrong RM.unpaired RM.bestSound RM.bestWay RM.rows RM.rowN RM.sortOf RM.sizeOf RM.numbers RM.holdsWhat RM.holdsWhich RM.holdsMany RM.bodies (0 : Int32) o_9 vM_actN_11 o_13 (0 : Int32))) (wr := []) (w1 := (wMo K jM aM RM.s RM.held RM.aside RM.before RM.isHeld RM.tape RM.taped RM.token RM.frm RM.to RM.value RM.isWrong RM.unpaired RM.bestSound RM.bestWay RM.rows RM.rowN RM.sortOf RM.sizeOf RM.numbers RM.holdsWhat RM.holdsWhich RM.holdsMany o_18.2.1 o_18.2.2.1 o_9 vM_actN_11 o_13 o_18.2.2.2)) (w2 := (wMo K jM aM RM.s RM.held RM.aside RM.before RM.isHeld RM.tape RM.taped RM.token RM.frm RM.to RM.value RM.isWrong RM.unpaired RM.bestSound RM.bestWay RM.rows RM.rowN RM.sortOf RM.sizeOf RM.numbers RM.holdsWhat RM.holdsWhich RM.holdsMany o_18.2.1 o_18.2.2.1 o_9 vM_actN_11 o_13 o_18.2.2.2)) hF (ctX9_parts l D K jM aM (RM.s, RM.held, RM.aside, RM.before, RM.isHeld, RM.tape, RM.taped, RM.token, RM.frm, RM.to, RM.value, RM.isWrong, RM.unpaired, RM.bestSound, RM.bestWay, RM.rows, RM.rowN, RM.sortOf, RM.sizeOf, RM.numbers, RM.holdsWhat, RM.holdsWhich, RM.holdsMany, RM.bodies, (0 : Int32), o_9, vM_actN_11, o_13, (0 : Int32)) p2 o_18 ho_18 H.size) (cwV 1 hts gX9_act_X9_parts rfl rfl rfl hdX9_parts ⟨Nat.le_of_ble_eq_true rfl, Nat.le_of_ble_eq_true rfl⟩) hK hP hD hS hA [0, 1, 2, 3, 4, 5, 6, 7, 8, 9, 10, 11, 12, 13, 14, 15] [] rfl rfl (by decide) (by decide) (by decide) [0, 1, 2, 3, 4, 5, 6, 7, 8, 9, 10, 11, 12, 13, 14, 15] rfl (by decide) (va_recv hK hP (ci := 9) (q0 := 0) rfl rfl) rfl hl.1 rfl (Nat.le_of_ble_eq_true rfl) dX9_act_112 ⟨Nat.zero_le _, Nat.zero_le _⟩ (fun H locs hP hD hS => ?_)
              refine lv_goto (tgt := 123) hx hb dX9_act_115 (by decide) ?_
              exact b123  o_18.1 o_18.2.1 o_18.2.2.1 o_9 vM_actN_11 o_13 o_18.2.2.2 _ _ _ hf hP hD hS (lv_sub hl [0] rfl)
          · replace hf := ht_t c_15 hf
            refine lv_aload_n hx hb dX9_act_97 rfl (lv_at hl 0 rfl) ?_
            refine lv_iload_n hx hb dX9_act_98 rfl (lv_at hl 3 rfl) ?_
            obtain ⟨o_19, ho_19, hf⟩ := ht_bn_ob hf
            refine ht_callVi (r := o_19.1) (rest := []) (As := [.int p2]) (wc := (wMo K jM aM RM.s RM.held RM.aside RM.before RM.isHeld RM.tape RM.taped RM.token RM.frm RM.to RM.value RM.isWrong RM.unpaired RM.bestSound RM.bestWay RM.rows RM.rowN RM.sortOf RM.sizeOf RM.numbers RM.holdsWhat RM.holdsWhich RM.holdsMany RM.bodies (0 : Int32) o_9 vM_actN_11 o_13 (0 : Int32))) (wr := []) (w1 := (wMo K jM aM RM.s RM.held RM.aside RM.before RM.isHeld RM.tape RM.taped RM.token RM.frm RM.to RM.value RM.isWrong RM.unpaired RM.bestSound RM.bestWay RM.rows RM.rowN RM.sortOf RM.sizeOf RM.numbers RM.holdsWhat RM.holdsWhich RM.holdsMany o_19.2.1 o_19.2.2 o_9 vM_actN_11 o_13 (0 : Int32))) (w2 := (wMo K jM aM RM.s RM.held RM.aside RM.before RM.isHeld RM.tape RM.taped RM.token RM.frm RM.to RM.value RM.isWrong RM.unpaired RM.bestSound RM.bestWay RM.rows RM.rowN RM.sortOf RM.sizeOf RM.numbers RM.holdsWhat RM.holdsWhich RM.holdsMany o_19.2.1 o_19.2.2 o_9 vM_actN_11 o_13 (0 : Int32))) hF (ctX9_says l D K jM aM (RM.s, RM.held, RM.aside, RM.before, RM.isHeld, RM.tape, RM.taped, RM.token, RM.frm, RM.to, RM.value, RM.isWrong, RM.unpaired, RM.bestSound, RM.bestWay, RM.rows, RM.rowN, RM.sortOf, RM.sizeOf, RM.numbers, RM.holdsWhat, RM.holdsWhich, RM.holdsMany, RM.bodies, (0 : Int32), o_9, vM_actN_11, o_13, (0 : Int32)) p2 o_19 ho_19 H.size) (cwV 1 hts gX9_act_X9_says rfl rfl rfl hdX9_says ⟨Nat.le_of_ble_eq_true rfl, Nat.le_of_ble_eq_true rfl⟩) hK hP hD hS hA [0, 1, 2, 3, 4, 5, 6, 7, 8, 9, 10, 11, 12, 13, 14, 15] [] rfl rfl (by decide) (by decide) (by decide) [0, 1, 2, 3, 4, 5, 6, 7, 8, 9, 10, 11, 12, 13, 14, 15] rfl (by decide) (va_recv hK hP (ci := 9) (q0 := 0) rfl rfl) rfl hl.1 rfl (Nat.le_of_ble_eq_true rfl) dX9_act_99 ⟨Nat.zero_le _, Nat.zero_le _⟩ (fun H locs hP hD hS => ?_)
            refine lv_goto (tgt := 123) hx hb dX9_act_102 (by decide) ?_
            exact b123  o_19.1 o_19.2.1 o_19.2.2 o_9 vM_actN_11 o_13 (0 : Int32) _ _ _ hf hP hD hS (lv_sub hl [0] rfl)
        · replace hf := ht_t c_14 hf
          refine lv_aload_n hx hb dX9_act_84 rfl (lv_at hl 0 rfl) ?_
          refine lv_iload_n hx hb dX9_act_85 rfl (lv_at hl 3 rfl) ?_
          obtain ⟨o_20, ho_20, hf⟩ := ht_bn_ob hf
          refine ht_callVi (r := o_20.1) (rest := []) (As := [.int p2]) (wc := (wMo K jM aM RM.s RM.held RM.aside RM.before RM.isHeld RM.tape RM.taped RM.token RM.frm RM.to RM.value RM.isWrong RM.unpaired RM.bestSound RM.bestWay RM.rows RM.rowN RM.sortOf RM.sizeOf RM.numbers RM.holdsWhat RM.holdsWhich RM.holdsMany RM.bodies (0 : Int32) o_9 vM_actN_11 o_13 (0 : Int32))) (wr := []) (w1 := (wMo K jM aM RM.s RM.held RM.aside RM.before RM.isHeld RM.tape RM.taped RM.token RM.frm RM.to RM.value RM.isWrong RM.unpaired RM.bestSound RM.bestWay RM.rows RM.rowN RM.sortOf RM.sizeOf RM.numbers RM.holdsWhat RM.holdsWhich RM.holdsMany o_20.2.1 o_20.2.2 o_9 vM_actN_11 o_13 (0 : Int32))) (w2 := (wMo K jM aM RM.s RM.held RM.aside RM.before RM.isHeld RM.tape RM.taped RM.token RM.frm RM.to RM.value RM.isWrong RM.unpaired RM.bestSound RM.bestWay RM.rows RM.rowN RM.sortOf RM.sizeOf RM.numbers RM.holdsWhat RM.holdsWhich RM.holdsMany o_20.2.1 o_20.2.2 o_9 vM_actN_11 o_13 (0 : Int32))) hF (ctX9_mutters l D K jM aM (RM.s, RM.held, RM.aside, RM.before, RM.isHeld, RM.tape, RM.taped, RM.token, RM.frm, RM.to, RM.value, RM.isWrong, RM.unpaired, RM.bestSound, RM.bestWay, RM.rows, RM.rowN, RM.sortOf, RM.sizeOf, RM.numbers, RM.holdsWhat, RM.holdsWhich, RM.holdsMany, RM.bodies, (0 : Int32), o_9, vM_actN_11, o_13, (0 : Int32)) p2 o_20 ho_20 H.size) (cwV 1 hts gX9_act_X9_mutters rfl rfl rfl hdX9_mutters ⟨Nat.le_of_ble_eq_true rfl, Nat.le_of_ble_eq_true rfl⟩) hK hP hD hS hA [0, 1, 2, 3, 4, 5, 6, 7, 8, 9, 10, 11, 12, 13, 14, 15] [] rfl rfl (by decide) (by decide) (by decide) [0, 1, 2, 3, 4, 5, 6, 7, 8, 9, 10, 11, 12, 13, 14, 15] rfl (by decide) (va_recv hK hP (ci := 9) (q0 := 0) rfl rfl) rfl hl.1 rfl (Nat.le_of_ble_eq_true rfl) dX9_act_86 ⟨Nat.zero_le _, Nat.zero_le _⟩ (fun H locs hP hD hS => ?_)
          refine lv_goto (tgt := 123) hx hb dX9_act_89 (by decide) ?_
          exact b123  o_20.1 o_20.2.1 o_20.2.2 o_9 vM_actN_11 o_13 (0 : Int32) _ _ _ hf hP hD hS (lv_sub hl [0] rfl)
      · replace hf := ht_f c_7 hf
        refine lv_iconst (v := 0) hx hb dX9_act_33 (by decide) ?_
        have ho := Option.some.inj hf
        subst ho; subst hQ
        exact ht_iret hx hb hr hlk rfl hK hP hD hS dX9_act_34
abbrev rmX9_trace : Room := { frames := 1, cells := 0, slots := 0, locals := 25 }
theorem hdX9_trace : yX9_trace.cls = RX9 ∧ yX9_trace.cls ≠ "java/lang/invoke/MethodHandle" ∧ yX9_trace.cls ≠ "java/lang/invoke/VarHandle" ∧ (parseMethodDescriptor yX9_trace.desc).map (fun d => d.parameters.length) = some 1 := by decide +kernel
def fX9_trace (RM : ModV) (p0 : Int32) : Option Int32 := ht_bn (fX9_isIn p0.toInt64 (0 : Int64) ((RM.ran - (1 : Int32)).toInt64)) (fun o_1 => if o_1 = 0 then (some (-3 : Int32)) else (ht_gd (ht_ix p0 30) (some (RM.bodies p0.toNatClampNeg))))
set_option maxHeartbeats 1000000 in
set_option maxRecDepth 100000 in
theorem ctX9_trace (l : Launch) (D : va_G) (K : Nat → ClassId) (jM : Nat) (aM : Nat → Nat) (RM : ModV) (p0 : Int32) (o : Int32) (hf : fX9_trace RM p0 = some o) (sz : Nat) : Met l yX9_trace wsX9_trace rmX9_trace (ht_Pre D K [.ref jM, .int p0] (wMo K jM aM RM.s RM.held RM.aside RM.before RM.isHeld RM.tape RM.taped RM.token RM.frm RM.to RM.value RM.isWrong RM.unpaired RM.bestSound RM.bestWay RM.rows RM.rowN RM.sortOf RM.sizeOf RM.numbers RM.holdsWhat RM.holdsWhich RM.holdsMany RM.bodies RM.ran RM.actKind RM.actN RM.actA RM.isParted) sz) (ht_Qi D K (wMo K jM aM RM.s RM.held RM.aside RM.before RM.isHeld RM.tape RM.taped RM.token RM.frm RM.to RM.value RM.isWrong RM.unpaired RM.bestSound RM.bestWay RM.rows RM.rowN RM.sortOf RM.sizeOf RM.numbers RM.holdsWhat RM.holdsWhich RM.holdsMany RM.bodies RM.ran RM.actKind RM.actN RM.actA RM.isParted) o (va_A (wMo K jM aM RM.s RM.held RM.aside RM.before RM.isHeld RM.tape RM.taped RM.token RM.frm RM.to RM.value RM.isWrong RM.unpaired RM.bestSound RM.bestWay RM.rows RM.rowN RM.sortOf RM.sizeOf RM.numbers RM.holdsWhat RM.holdsWhich RM.holdsMany RM.bodies RM.ran RM.actKind RM.actN RM.actA RM.isParted) sz)) 0 0 (va_A (wMo K jM aM RM.s RM.held RM.aside RM.before RM.isHeld RM.tape RM.taped RM.token RM.frm RM.to RM.value RM.isWrong RM.unpaired RM.bestSound RM.bestWay RM.rows RM.rowN RM.sortOf RM.sizeOf RM.numbers RM.holdsWhat RM.holdsWhich RM.holdsMany RM.bodies RM.ran RM.actKind RM.actN RM.actA RM.isParted) sz) := by
  refine ht_enter (Qf := ht_Qi D K (wMo K jM aM RM.s RM.held RM.aside RM.before RM.isHeld RM.tape RM.taped RM.token RM.frm RM.to RM.value RM.isWrong RM.unpaired RM.bestSound RM.bestWay RM.rows RM.rowN RM.sortOf RM.sizeOf RM.numbers RM.holdsWhat RM.holdsWhich RM.holdsMany RM.bodies RM.ran RM.actKind RM.actN RM.actA RM.isParted) o) (cc := cX9_trace) (maxL := 2) (rt := (some .int)) (by decide) rfl (Nat.le_of_ble_eq_true rfl) ?_ sz
  intro p e s m below meth c A Q H locs ls hQ hx hb hr hlk hmn hml hown hts hA hK hP hD hS hl
  have hown : s.vm.findClass RX9 = some m.cls := hown
  have hF : CallFix p m c cX9_trace 2 s ([.ref jM, .int p0] : List Value).toArray wsX9_trace RX9 := ⟨hx, hb, hml, hown, hts⟩
  have hl : lv_has ls 2 [(0, .ref jM), (1, .int p0)] := hl
  have iw9 : ∀ w ∈ u_ws RX9 TX9 29, w ∈ wsX9_trace := by decide +kernel
  have kw1 := hts (.fieldLink RX9 294 "HeldTonguesModel" "ran" "I") (by decide +kernel)
  have kw2 := hts (.fieldLink RX9 52 "HeldTonguesModel" "bodies" "[I") (by decide +kernel)
  delta fX9_trace at hf
  refine lv_iload_n hx hb dX9_trace_0 rfl (lv_at hl 1 rfl) ?_
  refine lv_i2l hx hb dX9_trace_1 rfl ?_
  refine lv_lconst (v := 0) hx hb dX9_trace_2 (by decide) ?_
  refine lv_aload_n hx hb dX9_trace_3 rfl (lv_at hl 0 rfl) ?_
  refine va_get (D := D) (ci := 9) (v := .int RM.ran) (C := RX9) (T := TX9) (N := 29) hx hb hts iw9 hown hK hP 0 rfl rfl 24 (by decide) kw1 (fun _ h9 => h9) rfl dX9_trace_4 ?_
  refine lv_iconst (v := 1) hx hb dX9_trace_7 (by decide) ?_
  refine lv_isub hx hb dX9_trace_8 ?_
  refine lv_i2l hx hb dX9_trace_9 rfl ?_
  obtain ⟨o_1, ho_1, hf⟩ := ht_bn_ob hf
  refine ht_callSi (r := o_1) (rest := []) (As := [.long p0.toInt64, .long (0 : Int64), .long ((RM.ran - (1 : Int32)).toInt64)]) (wc := []) (wr := (wMo K jM aM RM.s RM.held RM.aside RM.before RM.isHeld RM.tape RM.taped RM.token RM.frm RM.to RM.value RM.isWrong RM.unpaired RM.bestSound RM.bestWay RM.rows RM.rowN RM.sortOf RM.sizeOf RM.numbers RM.holdsWhat RM.holdsWhich RM.holdsMany RM.bodies RM.ran RM.actKind RM.actN RM.actA RM.isParted)) (w1 := []) (w2 := (wMo K jM aM RM.s RM.held RM.aside RM.before RM.isHeld RM.tape RM.taped RM.token RM.frm RM.to RM.value RM.isWrong RM.unpaired RM.bestSound RM.bestWay RM.rows RM.rowN RM.sortOf RM.sizeOf RM.numbers RM.holdsWhat RM.holdsWhich RM.holdsMany RM.bodies RM.ran RM.actKind RM.actN RM.actA RM.isParted)) hF (ctX9_isIn l D K p0.toInt64 (0 : Int64) ((RM.ran - (1 : Int32)).toInt64) o_1 ho_1 H.size) (va_cwS 3 hts gX9_trace_X9_isIn rfl rfl rfl hdX9_isIn ⟨Nat.le_of_ble_eq_true rfl, Nat.le_of_ble_eq_true rfl⟩) hK hP hD hS hA [] [0, 1, 2, 3, 4, 5, 6, 7, 8, 9, 10, 11, 12, 13, 14, 15] rfl rfl (by decide) (by decide) (by decide) [0, 1, 2, 3, 4, 5, 6, 7, 8, 9, 10, 11, 12, 13, 14, 15] rfl (by decide) rfl hl.1 rfl (Nat.le_of_ble_eq_true rfl) dX9_trace_10 ⟨Nat.zero_le _, Nat.zero_le _⟩ (fun H locs hP hD hS => ?_)
  refine lv_if_eq (tgt := 25) hx hb dX9_trace_13 (by decide) (fun c_2 => ?_) (fun c_2 => ?_)
  · replace hf := ht_t c_2 hf
    refine lv_bipush (v := -3) hx hb dX9_trace_25 (by decide) ?_
    have ho := Option.some.inj hf
    subst ho; subst hQ
    exact ht_iret hx hb hr hlk rfl hK hP hD hS dX9_trace_27
  · replace hf := ht_f c_2 hf
    refine lv_aload_n hx hb dX9_trace_16 rfl (lv_at hl 0 rfl) ?_
    refine va_get (D := D) (ci := 9) (v := .ref (aM 14)) (C := RX9) (T := TX9) (N := 29) hx hb hts iw9 hown hK hP 0 rfl rfl 23 (by decide) kw2 (fun _ h9 => h9) rfl dX9_trace_17 ?_
    refine lv_iload_n hx hb dX9_trace_20 rfl (lv_at hl 1 rfl) ?_
    obtain ⟨g_3, hf⟩ := ht_gd_ob hf
    refine va_iald hx hb hK hP 15 1 rfl rfl (ht_ix_in g_3) dX9_trace_21 ?_
    refine lv_goto (tgt := 27) hx hb dX9_trace_22 (by decide) ?_
    have ho := Option.some.inj hf
    subst ho; subst hQ
    exact ht_iret hx hb hr hlk rfl hK hP hD hS dX9_trace_27
abbrev rmX9_many : Room := { frames := 2, cells := 0, slots := 0, locals := 44 }
theorem hdX9_many : yX9_many.cls = RX9 ∧ yX9_many.cls ≠ "java/lang/invoke/MethodHandle" ∧ yX9_many.cls ≠ "java/lang/invoke/VarHandle" ∧ (parseMethodDescriptor yX9_many.desc).map (fun d => d.parameters.length) = some 1 := by decide +kernel
def fX9_many_b86 (RM : ModV) (x2 : Int32) : Option Int32 := some (x2 / (2 : Int32))
def fX9_many_b78 (RM : ModV) (k53 : Int32 → Int32 → Option Int32) (x3 : Int32) (t0 : Int32) (t1 : Int32) : Option Int32 := ht_nm (t0 + t1) (fun x2_1 => ht_nm (x3 + (1 : Int32)) (fun x3_2 => k53 x2_1 x3_2))
def fX9_many_b53 (RM : ModV) (k53 : Int32 → Int32 → Option Int32) (x2 : Int32) (x3 : Int32) : Option Int32 := ht_gd (ht_ix (0 : Int32) 57) (if (RM.s (0 : Int32).toNatClampNeg) ≤ x3 then (fX9_many_b86 RM x2) else (ht_bn (fX9_its RM x3 (4 : Int32)) (fun o_5 => if o_5 ≤ 0 then (fX9_many_b78 RM k53 x3 x2 (0 : Int32)) else (fX9_many_b78 RM k53 x3 x2 (1 : Int32)))))
def fX9_many_b127 (RM : ModV) (k100 : Int32 → Int32 → Option Int32) (x3 : Int32) (t0 : Int32) (t1 : Int32) : Option Int32 := ht_nm (t0 + t1) (fun x2_7 => ht_nm (x3 + (1 : Int32)) (fun x3_8 => k100 x2_7 x3_8))
def fX9_many_b100 (RM : ModV) (k100 : Int32 → Int32 → Option Int32) (x2 : Int32) (x3 : Int32) : Option Int32 := ht_gd (ht_ix (0 : Int32) 57) (if (RM.s (0 : Int32).toNatClampNeg) ≤ x3 then (some x2) else (ht_bn (fX9_its RM x3 (1 : Int32)) (fun o_11 => if o_11 = (99 : Int32) then (fX9_many_b127 RM k100 x3 x2 (1 : Int32)) else (fX9_many_b127 RM k100 x3 x2 (0 : Int32)))))
def fX9_many (RM : ModV) (p0 : Int32) : Option Int32 := if p0 = 0 then (ht_gd (ht_ix (0 : Int32) 57) (some (RM.s (0 : Int32).toNatClampNeg))) else if p0 = 1 then (ht_lp2 (fX9_many_b53 RM) FU (0 : Int32) (0 : Int32)) else if p0 = 2 then (ht_bn (fX9_speakers RM) (fun o_17 => ht_bn (fX9_size o_17) (fun o_18 => some o_18))) else if p0 = 3 then (ht_lp2 (fX9_many_b100 RM) FU (0 : Int32) (0 : Int32)) else if p0 = 4 then (some RM.rowN) else if p0 = 5 then (some RM.taped) else if p0 = 6 then (some RM.ran) else (some (-1 : Int32))
set_option maxHeartbeats 1000000 in
set_option maxRecDepth 100000 in
theorem ctX9_many (l : Launch) (D : va_G) (K : Nat → ClassId) (jM : Nat) (aM : Nat → Nat) (RM : ModV) (p0 : Int32) (o : Int32) (hf : fX9_many RM p0 = some o) (sz : Nat) : Met l yX9_many wsX9_many rmX9_many (ht_Pre D K [.ref jM, .int p0] (wMo K jM aM RM.s RM.held RM.aside RM.before RM.isHeld RM.tape RM.taped RM.token RM.frm RM.to RM.value RM.isWrong RM.unpaired RM.bestSound RM.bestWay RM.rows RM.rowN RM.sortOf RM.sizeOf RM.numbers RM.holdsWhat RM.holdsWhich RM.holdsMany RM.bodies RM.ran RM.actKind RM.actN RM.actA RM.isParted) sz) (ht_Qi D K (wMo K jM aM RM.s RM.held RM.aside RM.before RM.isHeld RM.tape RM.taped RM.token RM.frm RM.to RM.value RM.isWrong RM.unpaired RM.bestSound RM.bestWay RM.rows RM.rowN RM.sortOf RM.sizeOf RM.numbers RM.holdsWhat RM.holdsWhich RM.holdsMany RM.bodies RM.ran RM.actKind RM.actN RM.actA RM.isParted) o (va_A (wMo K jM aM RM.s RM.held RM.aside RM.before RM.isHeld RM.tape RM.taped RM.token RM.frm RM.to RM.value RM.isWrong RM.unpaired RM.bestSound RM.bestWay RM.rows RM.rowN RM.sortOf RM.sizeOf RM.numbers RM.holdsWhat RM.holdsWhich RM.holdsMany RM.bodies RM.ran RM.actKind RM.actN RM.actA RM.isParted) sz)) 0 0 (va_A (wMo K jM aM RM.s RM.held RM.aside RM.before RM.isHeld RM.tape RM.taped RM.token RM.frm RM.to RM.value RM.isWrong RM.unpaired RM.bestSound RM.bestWay RM.rows RM.rowN RM.sortOf RM.sizeOf RM.numbers RM.holdsWhat RM.holdsWhich RM.holdsMany RM.bodies RM.ran RM.actKind RM.actN RM.actA RM.isParted) sz) := by
  refine ht_enter (Qf := ht_Qi D K (wMo K jM aM RM.s RM.held RM.aside RM.before RM.isHeld RM.tape RM.taped RM.token RM.frm RM.to RM.value RM.isWrong RM.unpaired RM.bestSound RM.bestWay RM.rows RM.rowN RM.sortOf RM.sizeOf RM.numbers RM.holdsWhat RM.holdsWhich RM.holdsMany RM.bodies RM.ran RM.actKind RM.actN RM.actA RM.isParted) o) (cc := cX9_many) (maxL := 4) (rt := (some .int)) (by decide) rfl (Nat.le_of_ble_eq_true rfl) ?_ sz
  intro p e s m below meth c A Q H locs ls hQ hx hb hr hlk hmn hml hown hts hA hK hP hD hS hl
  have hown : s.vm.findClass RX9 = some m.cls := hown
  have hF : CallFix p m c cX9_many 4 s ([.ref jM, .int p0] : List Value).toArray wsX9_many RX9 := ⟨hx, hb, hml, hown, hts⟩
  have hl : lv_has ls 4 [(0, .ref jM), (1, .int p0)] := hl
  have iw9 : ∀ w ∈ u_ws RX9 TX9 29, w ∈ wsX9_many := by decide +kernel
  have kw1 := hts (.fieldLink RX9 7 "HeldTonguesModel" "s" "[I") (by decide +kernel)
  have kw2 := hts (.fieldLink RX9 157 "HeldTonguesModel" "rowN" "I") (by decide +kernel)
  have kw3 := hts (.fieldLink RX9 64 "HeldTonguesModel" "taped" "I") (by decide +kernel)
  have kw4 := hts (.fieldLink RX9 294 "HeldTonguesModel" "ran" "I") (by decide +kernel)
  have b86 : ∀ (x2 : Int32) (H : Heap) (locs : List Loc) (ls : Array Slot), fX9_many_b86 RM x2 = some o → va_P D vwCl (wMo K jM aM RM.s RM.held RM.aside RM.before RM.isHeld RM.tape RM.taped RM.token RM.frm RM.to RM.value RM.isWrong RM.unpaired RM.bestSound RM.bestWay RM.rows RM.rowN RM.sortOf RM.sizeOf RM.numbers RM.holdsWhat RM.holdsWhich RM.holdsMany RM.bodies RM.ran RM.actKind RM.actN RM.actA RM.isParted) H → va_D A (wMo K jM aM RM.s RM.held RM.aside RM.before RM.isHeld RM.tape RM.taped RM.token RM.frm RM.to RM.value RM.isWrong RM.unpaired RM.bestSound RM.bestWay RM.rows RM.rowN RM.sortOf RM.sizeOf RM.numbers RM.holdsWhat RM.holdsWhich RM.holdsMany RM.bodies RM.ran RM.actKind RM.actN RM.actA RM.isParted) → va_S A s.heap H locs → lv_has ls 4 [(2, .int x2)] → W p l e (headSpec wsX9_many rmX9_many).room s m ([.ref jM, .int p0] : List Value).toArray below meth c H locs 0 0 Q (F0 m 86 ls []) := by
    intro x2 H locs ls hf hP hD hS hl
    delta fX9_many_b86 at hf
    refine lv_iload_n hx hb dX9_many_86 rfl (lv_at hl 0 rfl) ?_
    refine lv_iconst (v := 2) hx hb dX9_many_87 (by decide) ?_
    refine lv_idiv hx hb dX9_many_88 (by decide) ?_
    have ho := Option.some.inj hf
    subst ho; subst hQ
    exact ht_iret hx hb hr hlk rfl hK hP hD hS dX9_many_89
  have b78 : ∀ (k53 : Int32 → Int32 → Option Int32) (hk53 : ∀ (x2 : Int32) (x3 : Int32) (H : Heap) (locs : List Loc) (ls : Array Slot), k53 x2 x3 = some o → va_P D vwCl (wMo K jM aM RM.s RM.held RM.aside RM.before RM.isHeld RM.tape RM.taped RM.token RM.frm RM.to RM.value RM.isWrong RM.unpaired RM.bestSound RM.bestWay RM.rows RM.rowN RM.sortOf RM.sizeOf RM.numbers RM.holdsWhat RM.holdsWhich RM.holdsMany RM.bodies RM.ran RM.actKind RM.actN RM.actA RM.isParted) H → va_D A (wMo K jM aM RM.s RM.held RM.aside RM.before RM.isHeld RM.tape RM.taped RM.token RM.frm RM.to RM.value RM.isWrong RM.unpaired RM.bestSound RM.bestWay RM.rows RM.rowN RM.sortOf RM.sizeOf RM.numbers RM.holdsWhat RM.holdsWhich RM.holdsMany RM.bodies RM.ran RM.actKind RM.actN RM.actA RM.isParted) → va_S A s.heap H locs → lv_has ls 4 [(0, .ref jM), (2, .int x2), (3, .int x3)] → W p l e (headSpec wsX9_many rmX9_many).room s m ([.ref jM, .int p0] : List Value).toArray below meth c H locs 0 0 Q (F0 m 53 ls [])) (x3 : Int32) (t0 : Int32) (t1 : Int32) (H : Heap) (locs : List Loc) (ls : Array Slot), fX9_many_b78 RM k53 x3 t0 t1 = some o → va_P D vwCl (wMo K jM aM RM.s RM.held RM.aside RM.before RM.isHeld RM.tape RM.taped RM.token RM.frm RM.to RM.value RM.isWrong RM.unpaired RM.bestSound RM.bestWay RM.rows RM.rowN RM.sortOf RM.sizeOf RM.numbers RM.holdsWhat RM.holdsWhich RM.holdsMany RM.bodies RM.ran RM.actKind RM.actN RM.actA RM.isParted) H → va_D A (wMo K jM aM RM.s RM.held RM.aside RM.before RM.isHeld RM.tape RM.taped RM.token RM.frm RM.to RM.value RM.isWrong RM.unpaired RM.bestSound RM.bestWay RM.rows RM.rowN RM.sortOf RM.sizeOf RM.numbers RM.holdsWhat RM.holdsWhich RM.holdsMany RM.bodies RM.ran RM.actKind RM.actN RM.actA RM.isParted) → va_S A s.heap H locs → lv_has ls 4 [(0, .ref jM), (3, .int x3)] → W p l e (headSpec wsX9_many rmX9_many).room s m ([.ref jM, .int p0] : List Value).toArray below meth c H locs 0 0 Q (F0 m 78 ls [.int t1, .int t0]) := by
    intro k53 hk53 x3 t0 t1 H locs ls hf hP hD hS hl
    delta fX9_many_b78 at hf
    refine lv_iadd hx hb dX9_many_78 ?_
    obtain ⟨x2_1, ex2_1, hf⟩ := ht_nm_ob hf
    rw [← ex2_1]
    refine lv_istore_n (lv' := [(2, .int x2_1), (0, .ref jM), (3, .int x3)]) hx hb dX9_many_79 rfl hl (by decide) rfl (fun ls hl => ?_)
    obtain ⟨x3_2, ex3_2, hf⟩ := ht_nm_ob hf
    refine lv_iinc (v := x3_2) (lv' := [(3, .int x3_2), (2, .int x2_1), (0, .ref jM)]) hx hb dX9_many_80 hl (k := 2) rfl (by rw [ex3_2]; rfl) (by decide) rfl (fun ls hl => ?_)
    refine lv_goto (tgt := 53) hx hb dX9_many_83 (by decide) ?_
    exact hk53 x2_1 x3_2 _ _ _ hf hP hD hS (lv_sub hl [2, 1, 0] rfl)
  have b53 : ∀ (n : Nat) (x2 : Int32) (x3 : Int32) (H : Heap) (locs : List Loc) (ls : Array Slot), ht_lp2 (fX9_many_b53 RM) n x2 x3 = some o → va_P D vwCl (wMo K jM aM RM.s RM.held RM.aside RM.before RM.isHeld RM.tape RM.taped RM.token RM.frm RM.to RM.value RM.isWrong RM.unpaired RM.bestSound RM.bestWay RM.rows RM.rowN RM.sortOf RM.sizeOf RM.numbers RM.holdsWhat RM.holdsWhich RM.holdsMany RM.bodies RM.ran RM.actKind RM.actN RM.actA RM.isParted) H → va_D A (wMo K jM aM RM.s RM.held RM.aside RM.before RM.isHeld RM.tape RM.taped RM.token RM.frm RM.to RM.value RM.isWrong RM.unpaired RM.bestSound RM.bestWay RM.rows RM.rowN RM.sortOf RM.sizeOf RM.numbers RM.holdsWhat RM.holdsWhich RM.holdsMany RM.bodies RM.ran RM.actKind RM.actN RM.actA RM.isParted) → va_S A s.heap H locs → lv_has ls 4 [(0, .ref jM), (2, .int x2), (3, .int x3)] → W p l e (headSpec wsX9_many rmX9_many).room s m ([.ref jM, .int p0] : List Value).toArray below meth c H locs 0 0 Q (F0 m 53 ls []) := by
    intro n
    induction n with
    | zero =>
      intro x2 x3 H locs ls hf hP hD hS hl
      cases (show (none : Option Int32) = some o from hf)
    | succ n hk53 =>
      intro x2 x3 H locs ls hf hP hD hS hl
      replace hf : fX9_many_b53 RM (ht_lp2 (fX9_many_b53 RM) n) x2 x3 = some o := hf
      delta fX9_many_b53 at hf
      refine lv_iload_n hx hb dX9_many_53 rfl (lv_at hl 2 rfl) ?_
      refine lv_aload_n hx hb dX9_many_54 rfl (lv_at hl 0 rfl) ?_
      refine va_get (D := D) (ci := 9) (v := .ref (aM 0)) (C := RX9) (T := TX9) (N := 29) hx hb hts iw9 hown hK hP 0 rfl rfl 0 (by decide) kw1 (fun _ h9 => h9) rfl dX9_many_55 ?_
      refine lv_iconst (v := 0) hx hb dX9_many_58 (by decide) ?_
      obtain ⟨g_3, hf⟩ := ht_gd_ob hf
      refine va_iald hx hb hK hP 1 1 rfl rfl (ht_ix_in g_3) dX9_many_59 ?_
      refine lv_icmp_ge (tgt := 86) hx hb dX9_many_60 (by decide) (fun c_4 => ?_) (fun c_4 => ?_)
      · replace hf := ht_t c_4 hf
        exact b86  x2 _ _ _ hf hP hD hS (lv_sub hl [1] rfl)
      · replace hf := ht_f c_4 hf
        refine lv_iload_n hx hb dX9_many_63 rfl (lv_at hl 1 rfl) ?_
        refine lv_aload_n hx hb dX9_many_64 rfl (lv_at hl 0 rfl) ?_
        refine lv_iload_n hx hb dX9_many_65 rfl (lv_at hl 2 rfl) ?_
        refine lv_iconst (v := 4) hx hb dX9_many_66 (by decide) ?_
        obtain ⟨o_5, ho_5, hf⟩ := ht_bn_ob hf
        refine ht_callVi (r := o_5) (rest := [.int x2]) (As := [.int x3, .int (4 : Int32)]) (wc := (wMo K jM aM RM.s RM.held RM.aside RM.before RM.isHeld RM.tape RM.taped RM.token RM.frm RM.to RM.value RM.isWrong RM.unpaired RM.bestSound RM.bestWay RM.rows RM.rowN RM.sortOf RM.sizeOf RM.numbers RM.holdsWhat RM.holdsWhich RM.holdsMany RM.bodies RM.ran RM.actKind RM.actN RM.actA RM.isParted)) (wr := []) (w1 := (wMo K jM aM RM.s RM.held RM.aside RM.before RM.isHeld RM.tape RM.taped RM.token RM.frm RM.to RM.value RM.isWrong RM.unpaired RM.bestSound RM.bestWay RM.rows RM.rowN RM.sortOf RM.sizeOf RM.numbers RM.holdsWhat RM.holdsWhich RM.holdsMany RM.bodies RM.ran RM.actKind RM.actN RM.actA RM.isParted)) (w2 := (wMo K jM aM RM.s RM.held RM.aside RM.before RM.isHeld RM.tape RM.taped RM.token RM.frm RM.to RM.value RM.isWrong RM.unpaired RM.bestSound RM.bestWay RM.rows RM.rowN RM.sortOf RM.sizeOf RM.numbers RM.holdsWhat RM.holdsWhich RM.holdsMany RM.bodies RM.ran RM.actKind RM.actN RM.actA RM.isParted)) hF (ctX9_its l D K jM aM RM x3 (4 : Int32) o_5 ho_5 H.size) (cwV 2 hts gX9_many_X9_its rfl rfl rfl hdX9_its ⟨Nat.le_of_ble_eq_true rfl, Nat.le_of_ble_eq_true rfl⟩) hK hP hD hS hA [0, 1, 2, 3, 4, 5, 6, 7, 8, 9, 10, 11, 12, 13, 14, 15] [] rfl rfl (by decide) (by decide) (by decide) [0, 1, 2, 3, 4, 5, 6, 7, 8, 9, 10, 11, 12, 13, 14, 15] rfl (by decide) (va_recv hK hP (ci := 9) (q0 := 0) rfl rfl) rfl hl.1 rfl (Nat.le_of_ble_eq_true rfl) dX9_many_67 ⟨Nat.zero_le _, Nat.zero_le _⟩ (fun H locs hP hD hS => ?_)
        refine lv_if_le (tgt := 77) hx hb dX9_many_70 (by decide) (fun c_6 => ?_) (fun c_6 => ?_)
        · replace hf := ht_t c_6 hf
          refine lv_iconst (v := 0) hx hb dX9_many_77 (by decide) ?_
          exact b78 _ hk53 x3 x2 (0 : Int32) _ _ _ hf hP hD hS (lv_sub hl [0, 2] rfl)
        · replace hf := ht_f c_6 hf
          refine lv_iconst (v := 1) hx hb dX9_many_73 (by decide) ?_
          refine lv_goto (tgt := 78) hx hb dX9_many_74 (by decide) ?_
          exact b78 _ hk53 x3 x2 (1 : Int32) _ _ _ hf hP hD hS (lv_sub hl [0, 2] rfl)
  have b127 : ∀ (k100 : Int32 → Int32 → Option Int32) (hk100 : ∀ (x2 : Int32) (x3 : Int32) (H : Heap) (locs : List Loc) (ls : Array Slot), k100 x2 x3 = some o → va_P D vwCl (wMo K jM aM RM.s RM.held RM.aside RM.before RM.isHeld RM.tape RM.taped RM.token RM.frm RM.to RM.value RM.isWrong RM.unpaired RM.bestSound RM.bestWay RM.rows RM.rowN RM.sortOf RM.sizeOf RM.numbers RM.holdsWhat RM.holdsWhich RM.holdsMany RM.bodies RM.ran RM.actKind RM.actN RM.actA RM.isParted) H → va_D A (wMo K jM aM RM.s RM.held RM.aside RM.before RM.isHeld RM.tape RM.taped RM.token RM.frm RM.to RM.value RM.isWrong RM.unpaired RM.bestSound RM.bestWay RM.rows RM.rowN RM.sortOf RM.sizeOf RM.numbers RM.holdsWhat RM.holdsWhich RM.holdsMany RM.bodies RM.ran RM.actKind RM.actN RM.actA RM.isParted) → va_S A s.heap H locs → lv_has ls 4 [(0, .ref jM), (2, .int x2), (3, .int x3)] → W p l e (headSpec wsX9_many rmX9_many).room s m ([.ref jM, .int p0] : List Value).toArray below meth c H locs 0 0 Q (F0 m 100 ls [])) (x3 : Int32) (t0 : Int32) (t1 : Int32) (H : Heap) (locs : List Loc) (ls : Array Slot), fX9_many_b127 RM k100 x3 t0 t1 = some o → va_P D vwCl (wMo K jM aM RM.s RM.held RM.aside RM.before RM.isHeld RM.tape RM.taped RM.token RM.frm RM.to RM.value RM.isWrong RM.unpaired RM.bestSound RM.bestWay RM.rows RM.rowN RM.sortOf RM.sizeOf RM.numbers RM.holdsWhat RM.holdsWhich RM.holdsMany RM.bodies RM.ran RM.actKind RM.actN RM.actA RM.isParted) H → va_D A (wMo K jM aM RM.s RM.held RM.aside RM.before RM.isHeld RM.tape RM.taped RM.token RM.frm RM.to RM.value RM.isWrong RM.unpaired RM.bestSound RM.bestWay RM.rows RM.rowN RM.sortOf RM.sizeOf RM.numbers RM.holdsWhat RM.holdsWhich RM.holdsMany RM.bodies RM.ran RM.actKind RM.actN RM.actA RM.isParted) → va_S A s.heap H locs → lv_has ls 4 [(0, .ref jM), (3, .int x3)] → W p l e (headSpec wsX9_many rmX9_many).room s m ([.ref jM, .int p0] : List Value).toArray below meth c H locs 0 0 Q (F0 m 127 ls [.int t1, .int t0]) := by
    intro k100 hk100 x3 t0 t1 H locs ls hf hP hD hS hl
    delta fX9_many_b127 at hf
    refine lv_iadd hx hb dX9_many_127 ?_
    obtain ⟨x2_7, ex2_7, hf⟩ := ht_nm_ob hf
    rw [← ex2_7]
    refine lv_istore_n (lv' := [(2, .int x2_7), (0, .ref jM), (3, .int x3)]) hx hb dX9_many_128 rfl hl (by decide) rfl (fun ls hl => ?_)
    obtain ⟨x3_8, ex3_8, hf⟩ := ht_nm_ob hf
    refine lv_iinc (v := x3_8) (lv' := [(3, .int x3_8), (2, .int x2_7), (0, .ref jM)]) hx hb dX9_many_129 hl (k := 2) rfl (by rw [ex3_8]; rfl) (by decide) rfl (fun ls hl => ?_)
    refine lv_goto (tgt := 100) hx hb dX9_many_132 (by decide) ?_
    exact hk100 x2_7 x3_8 _ _ _ hf hP hD hS (lv_sub hl [2, 1, 0] rfl)
  have b100 : ∀ (n : Nat) (x2 : Int32) (x3 : Int32) (H : Heap) (locs : List Loc) (ls : Array Slot), ht_lp2 (fX9_many_b100 RM) n x2 x3 = some o → va_P D vwCl (wMo K jM aM RM.s RM.held RM.aside RM.before RM.isHeld RM.tape RM.taped RM.token RM.frm RM.to RM.value RM.isWrong RM.unpaired RM.bestSound RM.bestWay RM.rows RM.rowN RM.sortOf RM.sizeOf RM.numbers RM.holdsWhat RM.holdsWhich RM.holdsMany RM.bodies RM.ran RM.actKind RM.actN RM.actA RM.isParted) H → va_D A (wMo K jM aM RM.s RM.held RM.aside RM.before RM.isHeld RM.tape RM.taped RM.token RM.frm RM.to RM.value RM.isWrong RM.unpaired RM.bestSound RM.bestWay RM.rows RM.rowN RM.sortOf RM.sizeOf RM.numbers RM.holdsWhat RM.holdsWhich RM.holdsMany RM.bodies RM.ran RM.actKind RM.actN RM.actA RM.isParted) → va_S A s.heap H locs → lv_has ls 4 [(0, .ref jM), (2, .int x2), (3, .int x3)] → W p l e (headSpec wsX9_many rmX9_many).room s m ([.ref jM, .int p0] : List Value).toArray below meth c H locs 0 0 Q (F0 m 100 ls []) := by
    intro n
    induction n with
    | zero =>
      intro x2 x3 H locs ls hf hP hD hS hl
      cases (show (none : Option Int32) = some o from hf)
    | succ n hk100 =>
      intro x2 x3 H locs ls hf hP hD hS hl
      replace hf : fX9_many_b100 RM (ht_lp2 (fX9_many_b100 RM) n) x2 x3 = some o := hf
      delta fX9_many_b100 at hf
      refine lv_iload_n hx hb dX9_many_100 rfl (lv_at hl 2 rfl) ?_
      refine lv_aload_n hx hb dX9_many_101 rfl (lv_at hl 0 rfl) ?_
      refine va_get (D := D) (ci := 9) (v := .ref (aM 0)) (C := RX9) (T := TX9) (N := 29) hx hb hts iw9 hown hK hP 0 rfl rfl 0 (by decide) kw1 (fun _ h9 => h9) rfl dX9_many_102 ?_
      refine lv_iconst (v := 0) hx hb dX9_many_105 (by decide) ?_
      obtain ⟨g_9, hf⟩ := ht_gd_ob hf
      refine va_iald hx hb hK hP 1 1 rfl rfl (ht_ix_in g_9) dX9_many_106 ?_
      refine lv_icmp_ge (tgt := 135) hx hb dX9_many_107 (by decide) (fun c_10 => ?_) (fun c_10 => ?_)
      · replace hf := ht_t c_10 hf
        refine lv_iload_n hx hb dX9_many_135 rfl (lv_at hl 1 rfl) ?_
        have ho := Option.some.inj hf
        subst ho; subst hQ
        exact ht_iret hx hb hr hlk rfl hK hP hD hS dX9_many_136
      · replace hf := ht_f c_10 hf
        refine lv_iload_n hx hb dX9_many_110 rfl (lv_at hl 1 rfl) ?_
        refine lv_aload_n hx hb dX9_many_111 rfl (lv_at hl 0 rfl) ?_
        refine lv_iload_n hx hb dX9_many_112 rfl (lv_at hl 2 rfl) ?_
        refine lv_iconst (v := 1) hx hb dX9_many_113 (by decide) ?_
        obtain ⟨o_11, ho_11, hf⟩ := ht_bn_ob hf
        refine ht_callVi (r := o_11) (rest := [.int x2]) (As := [.int x3, .int (1 : Int32)]) (wc := (wMo K jM aM RM.s RM.held RM.aside RM.before RM.isHeld RM.tape RM.taped RM.token RM.frm RM.to RM.value RM.isWrong RM.unpaired RM.bestSound RM.bestWay RM.rows RM.rowN RM.sortOf RM.sizeOf RM.numbers RM.holdsWhat RM.holdsWhich RM.holdsMany RM.bodies RM.ran RM.actKind RM.actN RM.actA RM.isParted)) (wr := []) (w1 := (wMo K jM aM RM.s RM.held RM.aside RM.before RM.isHeld RM.tape RM.taped RM.token RM.frm RM.to RM.value RM.isWrong RM.unpaired RM.bestSound RM.bestWay RM.rows RM.rowN RM.sortOf RM.sizeOf RM.numbers RM.holdsWhat RM.holdsWhich RM.holdsMany RM.bodies RM.ran RM.actKind RM.actN RM.actA RM.isParted)) (w2 := (wMo K jM aM RM.s RM.held RM.aside RM.before RM.isHeld RM.tape RM.taped RM.token RM.frm RM.to RM.value RM.isWrong RM.unpaired RM.bestSound RM.bestWay RM.rows RM.rowN RM.sortOf RM.sizeOf RM.numbers RM.holdsWhat RM.holdsWhich RM.holdsMany RM.bodies RM.ran RM.actKind RM.actN RM.actA RM.isParted)) hF (ctX9_its l D K jM aM RM x3 (1 : Int32) o_11 ho_11 H.size) (cwV 2 hts gX9_many_X9_its rfl rfl rfl hdX9_its ⟨Nat.le_of_ble_eq_true rfl, Nat.le_of_ble_eq_true rfl⟩) hK hP hD hS hA [0, 1, 2, 3, 4, 5, 6, 7, 8, 9, 10, 11, 12, 13, 14, 15] [] rfl rfl (by decide) (by decide) (by decide) [0, 1, 2, 3, 4, 5, 6, 7, 8, 9, 10, 11, 12, 13, 14, 15] rfl (by decide) (va_recv hK hP (ci := 9) (q0 := 0) rfl rfl) rfl hl.1 rfl (Nat.le_of_ble_eq_true rfl) dX9_many_114 ⟨Nat.zero_le _, Nat.zero_le _⟩ (fun H locs hP hD hS => ?_)
        refine lv_bipush (v := 99) hx hb dX9_many_117 (by decide) ?_
        refine lv_icmp_ne (tgt := 126) hx hb dX9_many_119 (by decide) (fun c_12 => ?_) (fun c_12 => ?_)
        · replace hf := ht_f c_12 hf
          refine lv_iconst (v := 0) hx hb dX9_many_126 (by decide) ?_
          exact b127 _ hk100 x3 x2 (0 : Int32) _ _ _ hf hP hD hS (lv_sub hl [0, 2] rfl)
        · replace hf := ht_t c_12 hf
          refine lv_iconst (v := 1) hx hb dX9_many_122 (by decide) ?_
          refine lv_goto (tgt := 127) hx hb dX9_many_123 (by decide) ?_
          exact b127 _ hk100 x3 x2 (1 : Int32) _ _ _ hf hP hD hS (lv_sub hl [0, 2] rfl)
  delta fX9_many at hf
  refine lv_iconst (v := 0) hx hb dX9_many_0 (by decide) ?_
  refine lv_istore_n (lv' := [(2, .int (0 : Int32)), (0, .ref jM), (1, .int p0)]) hx hb dX9_many_1 rfl hl (by decide) rfl (fun ls hl => ?_)
  refine lv_iload_n hx hb dX9_many_2 rfl (lv_at hl 2 rfl) ?_
  by_cases c_13 : p0 = 0
  · replace hf := ht_t c_13 hf
    refine lv_tableIn (tgt := 44) hx hb dX9_many_3 (by rw [c_13]; decide) (by rw [c_13]; decide) (by rw [c_13]; rfl) (by decide) ?_
    refine lv_aload_n hx hb dX9_many_44 rfl (lv_at hl 1 rfl) ?_
    refine va_get (D := D) (ci := 9) (v := .ref (aM 0)) (C := RX9) (T := TX9) (N := 29) hx hb hts iw9 hown hK hP 0 rfl rfl 0 (by decide) kw1 (fun _ h9 => h9) rfl dX9_many_45 ?_
    refine lv_iconst (v := 0) hx hb dX9_many_48 (by decide) ?_
    obtain ⟨g_14, hf⟩ := ht_gd_ob hf
    refine va_iald hx hb hK hP 1 1 rfl rfl (ht_ix_in g_14) dX9_many_49 ?_
    have ho := Option.some.inj hf
    subst ho; subst hQ
    exact ht_iret hx hb hr hlk rfl hK hP hD hS dX9_many_50
  replace hf := ht_f c_13 hf
  by_cases c_15 : p0 = 1
  · replace hf := ht_t c_15 hf
    refine lv_tableIn (tgt := 51) hx hb dX9_many_3 (by rw [c_15]; decide) (by rw [c_15]; decide) (by rw [c_15]; rfl) (by decide) ?_
    refine lv_iconst (v := 0) hx hb dX9_many_51 (by decide) ?_
    refine lv_istore_n (lv' := [(3, .int (0 : Int32)), (2, .int (0 : Int32)), (0, .ref jM), (1, .int p0)]) hx hb dX9_many_52 rfl hl (by decide) rfl (fun ls hl => ?_)
    exact b53  FU (0 : Int32) (0 : Int32) _ _ _ hf hP hD hS (lv_sub hl [2, 1, 0] rfl)
  replace hf := ht_f c_15 hf
  by_cases c_16 : p0 = 2
  · replace hf := ht_t c_16 hf
    refine lv_tableIn (tgt := 90) hx hb dX9_many_3 (by rw [c_16]; decide) (by rw [c_16]; decide) (by rw [c_16]; rfl) (by decide) ?_
    refine lv_aload_n hx hb dX9_many_90 rfl (lv_at hl 1 rfl) ?_
    obtain ⟨o_17, ho_17, hf⟩ := ht_bn_ob hf
    refine ht_callVi (r := o_17) (rest := []) (As := []) (wc := (wMo K jM aM RM.s RM.held RM.aside RM.before RM.isHeld RM.tape RM.taped RM.token RM.frm RM.to RM.value RM.isWrong RM.unpaired RM.bestSound RM.bestWay RM.rows RM.rowN RM.sortOf RM.sizeOf RM.numbers RM.holdsWhat RM.holdsWhich RM.holdsMany RM.bodies RM.ran RM.actKind RM.actN RM.actA RM.isParted)) (wr := []) (w1 := (wMo K jM aM RM.s RM.held RM.aside RM.before RM.isHeld RM.tape RM.taped RM.token RM.frm RM.to RM.value RM.isWrong RM.unpaired RM.bestSound RM.bestWay RM.rows RM.rowN RM.sortOf RM.sizeOf RM.numbers RM.holdsWhat RM.holdsWhich RM.holdsMany RM.bodies RM.ran RM.actKind RM.actN RM.actA RM.isParted)) (w2 := (wMo K jM aM RM.s RM.held RM.aside RM.before RM.isHeld RM.tape RM.taped RM.token RM.frm RM.to RM.value RM.isWrong RM.unpaired RM.bestSound RM.bestWay RM.rows RM.rowN RM.sortOf RM.sizeOf RM.numbers RM.holdsWhat RM.holdsWhich RM.holdsMany RM.bodies RM.ran RM.actKind RM.actN RM.actA RM.isParted)) hF (ctX9_speakers l D K jM aM RM o_17 ho_17 H.size) (cwV 0 hts gX9_many_X9_speakers rfl rfl rfl hdX9_speakers ⟨Nat.le_of_ble_eq_true rfl, Nat.le_of_ble_eq_true rfl⟩) hK hP hD hS hA [0, 1, 2, 3, 4, 5, 6, 7, 8, 9, 10, 11, 12, 13, 14, 15] [] rfl rfl (by decide) (by decide) (by decide) [0, 1, 2, 3, 4, 5, 6, 7, 8, 9, 10, 11, 12, 13, 14, 15] rfl (by decide) (va_recv hK hP (ci := 9) (q0 := 0) rfl rfl) rfl hl.1 rfl (Nat.le_of_ble_eq_true rfl) dX9_many_91 ⟨Nat.zero_le _, Nat.zero_le _⟩ (fun H locs hP hD hS => ?_)
    obtain ⟨o_18, ho_18, hf⟩ := ht_bn_ob hf
    refine ht_callSi (r := o_18) (rest := []) (As := [.int o_17]) (wc := []) (wr := (wMo K jM aM RM.s RM.held RM.aside RM.before RM.isHeld RM.tape RM.taped RM.token RM.frm RM.to RM.value RM.isWrong RM.unpaired RM.bestSound RM.bestWay RM.rows RM.rowN RM.sortOf RM.sizeOf RM.numbers RM.holdsWhat RM.holdsWhich RM.holdsMany RM.bodies RM.ran RM.actKind RM.actN RM.actA RM.isParted)) (w1 := []) (w2 := (wMo K jM aM RM.s RM.held RM.aside RM.before RM.isHeld RM.tape RM.taped RM.token RM.frm RM.to RM.value RM.isWrong RM.unpaired RM.bestSound RM.bestWay RM.rows RM.rowN RM.sortOf RM.sizeOf RM.numbers RM.holdsWhat RM.holdsWhich RM.holdsMany RM.bodies RM.ran RM.actKind RM.actN RM.actA RM.isParted)) hF (ctX9_size l D K o_17 o_18 ho_18 H.size) (va_cwS 1 hts gX9_many_X9_size rfl rfl rfl hdX9_size ⟨Nat.le_of_ble_eq_true rfl, Nat.le_of_ble_eq_true rfl⟩) hK hP hD hS hA [] [0, 1, 2, 3, 4, 5, 6, 7, 8, 9, 10, 11, 12, 13, 14, 15] rfl rfl (by decide) (by decide) (by decide) [0, 1, 2, 3, 4, 5, 6, 7, 8, 9, 10, 11, 12, 13, 14, 15] rfl (by decide) rfl hl.1 rfl (Nat.le_of_ble_eq_true rfl) dX9_many_94 ⟨Nat.zero_le _, Nat.zero_le _⟩ (fun H locs hP hD hS => ?_)
    have ho := Option.some.inj hf
    subst ho; subst hQ
    exact ht_iret hx hb hr hlk rfl hK hP hD hS dX9_many_97
  replace hf := ht_f c_16 hf
  by_cases c_19 : p0 = 3
  · replace hf := ht_t c_19 hf
    refine lv_tableIn (tgt := 98) hx hb dX9_many_3 (by rw [c_19]; decide) (by rw [c_19]; decide) (by rw [c_19]; rfl) (by decide) ?_
    refine lv_iconst (v := 0) hx hb dX9_many_98 (by decide) ?_
    refine lv_istore_n (lv' := [(3, .int (0 : Int32)), (2, .int (0 : Int32)), (0, .ref jM), (1, .int p0)]) hx hb dX9_many_99 rfl hl (by decide) rfl (fun ls hl => ?_)
    exact b100  FU (0 : Int32) (0 : Int32) _ _ _ hf hP hD hS (lv_sub hl [2, 1, 0] rfl)
  replace hf := ht_f c_19 hf
  by_cases c_20 : p0 = 4
  · replace hf := ht_t c_20 hf
    refine lv_tableIn (tgt := 137) hx hb dX9_many_3 (by rw [c_20]; decide) (by rw [c_20]; decide) (by rw [c_20]; rfl) (by decide) ?_
    refine lv_aload_n hx hb dX9_many_137 rfl (lv_at hl 1 rfl) ?_
    refine va_get (D := D) (ci := 9) (v := .int RM.rowN) (C := RX9) (T := TX9) (N := 29) hx hb hts iw9 hown hK hP 0 rfl rfl 16 (by decide) kw2 (fun _ h9 => h9) rfl dX9_many_138 ?_
    have ho := Option.some.inj hf
    subst ho; subst hQ
    exact ht_iret hx hb hr hlk rfl hK hP hD hS dX9_many_141
  replace hf := ht_f c_20 hf
  by_cases c_21 : p0 = 5
  · replace hf := ht_t c_21 hf
    refine lv_tableIn (tgt := 142) hx hb dX9_many_3 (by rw [c_21]; decide) (by rw [c_21]; decide) (by rw [c_21]; rfl) (by decide) ?_
    refine lv_aload_n hx hb dX9_many_142 rfl (lv_at hl 1 rfl) ?_
    refine va_get (D := D) (ci := 9) (v := .int RM.taped) (C := RX9) (T := TX9) (N := 29) hx hb hts iw9 hown hK hP 0 rfl rfl 6 (by decide) kw3 (fun _ h9 => h9) rfl dX9_many_143 ?_
    have ho := Option.some.inj hf
    subst ho; subst hQ
    exact ht_iret hx hb hr hlk rfl hK hP hD hS dX9_many_146
  replace hf := ht_f c_21 hf
  by_cases c_22 : p0 = 6
  · replace hf := ht_t c_22 hf
    refine lv_tableIn (tgt := 147) hx hb dX9_many_3 (by rw [c_22]; decide) (by rw [c_22]; decide) (by rw [c_22]; rfl) (by decide) ?_
    refine lv_aload_n hx hb dX9_many_147 rfl (lv_at hl 1 rfl) ?_
    refine va_get (D := D) (ci := 9) (v := .int RM.ran) (C := RX9) (T := TX9) (N := 29) hx hb hts iw9 hown hK hP 0 rfl rfl 24 (by decide) kw4 (fun _ h9 => h9) rfl dX9_many_148 ?_
    have ho := Option.some.inj hf
    subst ho; subst hQ
    exact ht_iret hx hb hr hlk rfl hK hP hD hS dX9_many_151
  replace hf := ht_f c_22 hf
  refine lv_tableOut (tgt := 152) hx hb dX9_many_3 (by have := lv_neT c_13 (a := 0) rfl; have := lv_neT c_15 (a := 1) rfl; have := lv_neT c_16 (a := 2) rfl; have := lv_neT c_19 (a := 3) rfl; have := lv_neT c_20 (a := 4) rfl; have := lv_neT c_21 (a := 5) rfl; have := lv_neT c_22 (a := 6) rfl; omega) (by decide) ?_
  refine lv_iconst (v := -1) hx hb dX9_many_152 (by decide) ?_
  have ho := Option.some.inj hf
  subst ho; subst hQ
  exact ht_iret hx hb hr hlk rfl hK hP hD hS dX9_many_153
abbrev rmX9_keep : Room := { frames := 0, cells := 0, slots := 0, locals := 0 }
theorem hdX9_keep : yX9_keep.cls = RX9 ∧ yX9_keep.cls ≠ "java/lang/invoke/MethodHandle" ∧ yX9_keep.cls ≠ "java/lang/invoke/VarHandle" ∧ (parseMethodDescriptor yX9_keep.desc).map (fun d => d.parameters.length) = some 0 := by decide +kernel
def fX9_keep_b26 (RM : ModV) (vM_held : AI) (vM_isHeld : Int32) : Option (Int32 × AI × Int32) := some ((1 : Int32), vM_held, (1 : Int32))
def fX9_keep_b2 (RM : ModV) (k2 : Int32 → AI → Int32 → Option (Int32 × AI × Int32)) (x1 : Int32) (vM_held : AI) (vM_isHeld : Int32) : Option (Int32 × AI × Int32) := if (57 : Int32) ≤ x1 then (fX9_keep_b26 RM vM_held vM_isHeld) else (ht_gd (ht_ix x1 57) (ht_gd (ht_ix x1 57) (ht_nm (upd vM_held x1.toNatClampNeg (RM.s x1.toNatClampNeg)) (fun vM_held_4 => ht_nm (x1 + (1 : Int32)) (fun x1_5 => k2 x1_5 vM_held_4 vM_isHeld)))))
def fX9_keep (RM : ModV) : Option (Int32 × AI × Int32) := ht_lp3 (fX9_keep_b2 RM) FU (0 : Int32) RM.held RM.isHeld
set_option maxHeartbeats 1000000 in
set_option maxRecDepth 100000 in
theorem ctX9_keep (l : Launch) (D : va_G) (K : Nat → ClassId) (jM : Nat) (aM : Nat → Nat) (RM : ModV) (o : (Int32 × AI × Int32)) (hf : fX9_keep RM = some o) (sz : Nat) : Met l yX9_keep wsX9_keep rmX9_keep (ht_Pre D K [.ref jM] (wMo K jM aM RM.s RM.held RM.aside RM.before RM.isHeld RM.tape RM.taped RM.token RM.frm RM.to RM.value RM.isWrong RM.unpaired RM.bestSound RM.bestWay RM.rows RM.rowN RM.sortOf RM.sizeOf RM.numbers RM.holdsWhat RM.holdsWhich RM.holdsMany RM.bodies RM.ran RM.actKind RM.actN RM.actA RM.isParted) sz) (ht_Qi D K (wMo K jM aM RM.s o.2.1 RM.aside RM.before o.2.2 RM.tape RM.taped RM.token RM.frm RM.to RM.value RM.isWrong RM.unpaired RM.bestSound RM.bestWay RM.rows RM.rowN RM.sortOf RM.sizeOf RM.numbers RM.holdsWhat RM.holdsWhich RM.holdsMany RM.bodies RM.ran RM.actKind RM.actN RM.actA RM.isParted) o.1 (va_A (wMo K jM aM RM.s RM.held RM.aside RM.before RM.isHeld RM.tape RM.taped RM.token RM.frm RM.to RM.value RM.isWrong RM.unpaired RM.bestSound RM.bestWay RM.rows RM.rowN RM.sortOf RM.sizeOf RM.numbers RM.holdsWhat RM.holdsWhich RM.holdsMany RM.bodies RM.ran RM.actKind RM.actN RM.actA RM.isParted) sz)) 0 0 (va_A (wMo K jM aM RM.s RM.held RM.aside RM.before RM.isHeld RM.tape RM.taped RM.token RM.frm RM.to RM.value RM.isWrong RM.unpaired RM.bestSound RM.bestWay RM.rows RM.rowN RM.sortOf RM.sizeOf RM.numbers RM.holdsWhat RM.holdsWhich RM.holdsMany RM.bodies RM.ran RM.actKind RM.actN RM.actA RM.isParted) sz) := by
  refine ht_enter (Qf := ht_Qi D K (wMo K jM aM RM.s o.2.1 RM.aside RM.before o.2.2 RM.tape RM.taped RM.token RM.frm RM.to RM.value RM.isWrong RM.unpaired RM.bestSound RM.bestWay RM.rows RM.rowN RM.sortOf RM.sizeOf RM.numbers RM.holdsWhat RM.holdsWhich RM.holdsMany RM.bodies RM.ran RM.actKind RM.actN RM.actA RM.isParted) o.1) (cc := cX9_keep) (maxL := 2) (rt := (some .int)) (by decide) rfl (Nat.le_of_ble_eq_true rfl) ?_ sz
  intro p e s m below meth c A Q H locs ls hQ hx hb hr hlk hmn hml hown hts hA hK hP hD hS hl
  have hown : s.vm.findClass RX9 = some m.cls := hown
  have hF : CallFix p m c cX9_keep 2 s ([.ref jM] : List Value).toArray wsX9_keep RX9 := ⟨hx, hb, hml, hown, hts⟩
  have hl : lv_has ls 2 [(0, .ref jM)] := hl
  have iw9 : ∀ w ∈ u_ws RX9 TX9 29, w ∈ wsX9_keep := by decide +kernel
  have kw1 := hts (.fieldLink RX9 342 "HeldTonguesModel" "isHeld" "Z") (by decide +kernel)
  have kw2 := hts (.fieldLink RX9 13 "HeldTonguesModel" "held" "[I") (by decide +kernel)
  have kw3 := hts (.fieldLink RX9 7 "HeldTonguesModel" "s" "[I") (by decide +kernel)
  have b26 : ∀ (vM_held : AI) (vM_isHeld : Int32) (H : Heap) (locs : List Loc) (ls : Array Slot), fX9_keep_b26 RM vM_held vM_isHeld = some o → va_P D vwCl (wMo K jM aM RM.s vM_held RM.aside RM.before vM_isHeld RM.tape RM.taped RM.token RM.frm RM.to RM.value RM.isWrong RM.unpaired RM.bestSound RM.bestWay RM.rows RM.rowN RM.sortOf RM.sizeOf RM.numbers RM.holdsWhat RM.holdsWhich RM.holdsMany RM.bodies RM.ran RM.actKind RM.actN RM.actA RM.isParted) H → va_D A (wMo K jM aM RM.s vM_held RM.aside RM.before vM_isHeld RM.tape RM.taped RM.token RM.frm RM.to RM.value RM.isWrong RM.unpaired RM.bestSound RM.bestWay RM.rows RM.rowN RM.sortOf RM.sizeOf RM.numbers RM.holdsWhat RM.holdsWhich RM.holdsMany RM.bodies RM.ran RM.actKind RM.actN RM.actA RM.isParted) → va_S A s.heap H locs → lv_has ls 2 [(0, .ref jM)] → W p l e (headSpec wsX9_keep rmX9_keep).room s m ([.ref jM] : List Value).toArray below meth c H locs 0 0 Q (F0 m 26 ls []) := by
    intro vM_held vM_isHeld H locs ls hf hP hD hS hl
    delta fX9_keep_b26 at hf
    refine lv_aload_n hx hb dX9_keep_26 rfl (lv_at hl 0 rfl) ?_
    refine lv_iconst (v := 1) hx hb dX9_keep_27 (by decide) ?_
    refine ht_put (ci := 9) (v := .int (1 : Int32)) (ty := .boolean) (C := RX9) (T := TX9) (N := 29) (w2 := (wMo K jM aM RM.s vM_held RM.aside RM.before (1 : Int32) RM.tape RM.taped RM.token RM.frm RM.to RM.value RM.isWrong RM.unpaired RM.bestSound RM.bestWay RM.rows RM.rowN RM.sortOf RM.sizeOf RM.numbers RM.holdsWhat RM.holdsWhich RM.holdsMany RM.bodies RM.ran RM.actKind RM.actN RM.actA RM.isParted)) hx hb hts iw9 tyX9 tyX9_ok nmX9 hown hK hP hD hS 0 rfl rfl 4 (by decide) kw1 (fun _ h9 => h9) rfl (by decide +kernel) rfl rfl (Nat.le_of_ble_eq_true rfl) dX9_keep_28 rfl (fun H locs hP hD hS => ?_)
    refine lv_iconst (v := 1) hx hb dX9_keep_31 (by decide) ?_
    have ho := Option.some.inj hf
    subst ho; subst hQ
    exact ht_iret hx hb hr hlk rfl hK hP hD hS dX9_keep_32
  have b2 : ∀ (n : Nat) (x1 : Int32) (vM_held : AI) (vM_isHeld : Int32) (H : Heap) (locs : List Loc) (ls : Array Slot), ht_lp3 (fX9_keep_b2 RM) n x1 vM_held vM_isHeld = some o → va_P D vwCl (wMo K jM aM RM.s vM_held RM.aside RM.before vM_isHeld RM.tape RM.taped RM.token RM.frm RM.to RM.value RM.isWrong RM.unpaired RM.bestSound RM.bestWay RM.rows RM.rowN RM.sortOf RM.sizeOf RM.numbers RM.holdsWhat RM.holdsWhich RM.holdsMany RM.bodies RM.ran RM.actKind RM.actN RM.actA RM.isParted) H → va_D A (wMo K jM aM RM.s vM_held RM.aside RM.before vM_isHeld RM.tape RM.taped RM.token RM.frm RM.to RM.value RM.isWrong RM.unpaired RM.bestSound RM.bestWay RM.rows RM.rowN RM.sortOf RM.sizeOf RM.numbers RM.holdsWhat RM.holdsWhich RM.holdsMany RM.bodies RM.ran RM.actKind RM.actN RM.actA RM.isParted) → va_S A s.heap H locs → lv_has ls 2 [(0, .ref jM), (1, .int x1)] → W p l e (headSpec wsX9_keep rmX9_keep).room s m ([.ref jM] : List Value).toArray below meth c H locs 0 0 Q (F0 m 2 ls []) := by
    intro n
    induction n with
    | zero =>
      intro x1 vM_held vM_isHeld H locs ls hf hP hD hS hl
      cases (show (none : Option (Int32 × AI × Int32)) = some o from hf)
    | succ n hk2 =>
      intro x1 vM_held vM_isHeld H locs ls hf hP hD hS hl
      replace hf : fX9_keep_b2 RM (ht_lp3 (fX9_keep_b2 RM) n) x1 vM_held vM_isHeld = some o := hf
      delta fX9_keep_b2 at hf
      refine lv_iload_n hx hb dX9_keep_2 rfl (lv_at hl 1 rfl) ?_
      refine lv_bipush (v := 57) hx hb dX9_keep_3 (by decide) ?_
      refine lv_icmp_ge (tgt := 26) hx hb dX9_keep_5 (by decide) (fun c_1 => ?_) (fun c_1 => ?_)
      · replace hf := ht_t c_1 hf
        exact b26  vM_held vM_isHeld _ _ _ hf hP hD hS (lv_sub hl [0] rfl)
      · replace hf := ht_f c_1 hf
        refine lv_aload_n hx hb dX9_keep_8 rfl (lv_at hl 0 rfl) ?_
        refine va_get (D := D) (ci := 9) (v := .ref (aM 1)) (C := RX9) (T := TX9) (N := 29) hx hb hts iw9 hown hK hP 0 rfl rfl 1 (by decide) kw2 (fun _ h9 => h9) rfl dX9_keep_9 ?_
        refine lv_iload_n hx hb dX9_keep_12 rfl (lv_at hl 1 rfl) ?_
        refine lv_aload_n hx hb dX9_keep_13 rfl (lv_at hl 0 rfl) ?_
        refine va_get (D := D) (ci := 9) (v := .ref (aM 0)) (C := RX9) (T := TX9) (N := 29) hx hb hts iw9 hown hK hP 0 rfl rfl 0 (by decide) kw3 (fun _ h9 => h9) rfl dX9_keep_14 ?_
        refine lv_iload_n hx hb dX9_keep_17 rfl (lv_at hl 1 rfl) ?_
        obtain ⟨g_2, hf⟩ := ht_gd_ob hf
        refine va_iald hx hb hK hP 1 1 rfl rfl (ht_ix_in g_2) dX9_keep_18 ?_
        obtain ⟨g_3, hf⟩ := ht_gd_ob hf
        obtain ⟨vM_held_4, evM_held_4, hf⟩ := ht_nm_ob hf
        refine ht_iast (w2 := (wMo K jM aM RM.s vM_held_4 RM.aside RM.before vM_isHeld RM.tape RM.taped RM.token RM.frm RM.to RM.value RM.isWrong RM.unpaired RM.bestSound RM.bestWay RM.rows RM.rowN RM.sortOf RM.sizeOf RM.numbers RM.holdsWhat RM.holdsWhich RM.holdsMany RM.bodies RM.ran RM.actKind RM.actN RM.actA RM.isParted)) hx hb hK hP hD hS 2 1 rfl rfl g_3 dX9_keep_19 evM_held_4 rfl (fun H locs hP hD hS => ?_)
        obtain ⟨x1_5, ex1_5, hf⟩ := ht_nm_ob hf
        refine lv_iinc (v := x1_5) (lv' := [(1, .int x1_5), (0, .ref jM)]) hx hb dX9_keep_20 hl (k := 1) rfl (by rw [ex1_5]; rfl) (by decide) rfl (fun ls hl => ?_)
        refine lv_goto (tgt := 2) hx hb dX9_keep_23 (by decide) ?_
        exact hk2 x1_5 vM_held_4 vM_isHeld _ _ _ hf hP hD hS (lv_sub hl [1, 0] rfl)
  delta fX9_keep at hf
  refine lv_iconst (v := 0) hx hb dX9_keep_0 (by decide) ?_
  refine lv_istore_n (lv' := [(1, .int (0 : Int32)), (0, .ref jM)]) hx hb dX9_keep_1 rfl hl (by decide) rfl (fun ls hl => ?_)
  exact b2  FU (0 : Int32) RM.held RM.isHeld _ _ _ hf hP hD hS (lv_sub hl [1, 0] rfl)
abbrev rmX9_again : Room := { frames := 0, cells := 0, slots := 0, locals := 0 }
theorem hdX9_again : yX9_again.cls = RX9 ∧ yX9_again.cls ≠ "java/lang/invoke/MethodHandle" ∧ yX9_again.cls ≠ "java/lang/invoke/VarHandle" ∧ (parseMethodDescriptor yX9_again.desc).map (fun d => d.parameters.length) = some 0 := by decide +kernel
def fX9_again_b36 (RM : ModV) (vM_s : AI) : Option (Int32 × AI) := ht_gd (ht_ix (0 : Int32) 57) (some ((vM_s (0 : Int32).toNatClampNeg), vM_s))
def fX9_again_b12 (RM : ModV) (k12 : Int32 → AI → Option (Int32 × AI)) (x1 : Int32) (vM_s : AI) : Option (Int32 × AI) := if (57 : Int32) ≤ x1 then (fX9_again_b36 RM vM_s) else (ht_gd (ht_ix x1 57) (ht_gd (ht_ix x1 57) (ht_nm (upd vM_s x1.toNatClampNeg (RM.held x1.toNatClampNeg)) (fun vM_s_5 => ht_nm (x1 + (1 : Int32)) (fun x1_6 => k12 x1_6 vM_s_5)))))
def fX9_again (RM : ModV) : Option (Int32 × AI) := if RM.isHeld = 0 then (some ((-3 : Int32), RM.s)) else (ht_lp2 (fX9_again_b12 RM) FU (0 : Int32) RM.s)
set_option maxHeartbeats 1000000 in
set_option maxRecDepth 100000 in
theorem ctX9_again (l : Launch) (D : va_G) (K : Nat → ClassId) (jM : Nat) (aM : Nat → Nat) (RM : ModV) (o : (Int32 × AI)) (hf : fX9_again RM = some o) (sz : Nat) : Met l yX9_again wsX9_again rmX9_again (ht_Pre D K [.ref jM] (wMo K jM aM RM.s RM.held RM.aside RM.before RM.isHeld RM.tape RM.taped RM.token RM.frm RM.to RM.value RM.isWrong RM.unpaired RM.bestSound RM.bestWay RM.rows RM.rowN RM.sortOf RM.sizeOf RM.numbers RM.holdsWhat RM.holdsWhich RM.holdsMany RM.bodies RM.ran RM.actKind RM.actN RM.actA RM.isParted) sz) (ht_Qi D K (wMo K jM aM o.2 RM.held RM.aside RM.before RM.isHeld RM.tape RM.taped RM.token RM.frm RM.to RM.value RM.isWrong RM.unpaired RM.bestSound RM.bestWay RM.rows RM.rowN RM.sortOf RM.sizeOf RM.numbers RM.holdsWhat RM.holdsWhich RM.holdsMany RM.bodies RM.ran RM.actKind RM.actN RM.actA RM.isParted) o.1 (va_A (wMo K jM aM RM.s RM.held RM.aside RM.before RM.isHeld RM.tape RM.taped RM.token RM.frm RM.to RM.value RM.isWrong RM.unpaired RM.bestSound RM.bestWay RM.rows RM.rowN RM.sortOf RM.sizeOf RM.numbers RM.holdsWhat RM.holdsWhich RM.holdsMany RM.bodies RM.ran RM.actKind RM.actN RM.actA RM.isParted) sz)) 0 0 (va_A (wMo K jM aM RM.s RM.held RM.aside RM.before RM.isHeld RM.tape RM.taped RM.token RM.frm RM.to RM.value RM.isWrong RM.unpaired RM.bestSound RM.bestWay RM.rows RM.rowN RM.sortOf RM.sizeOf RM.numbers RM.holdsWhat RM.holdsWhich RM.holdsMany RM.bodies RM.ran RM.actKind RM.actN RM.actA RM.isParted) sz) := by
  refine ht_enter (Qf := ht_Qi D K (wMo K jM aM o.2 RM.held RM.aside RM.before RM.isHeld RM.tape RM.taped RM.token RM.frm RM.to RM.value RM.isWrong RM.unpaired RM.bestSound RM.bestWay RM.rows RM.rowN RM.sortOf RM.sizeOf RM.numbers RM.holdsWhat RM.holdsWhich RM.holdsMany RM.bodies RM.ran RM.actKind RM.actN RM.actA RM.isParted) o.1) (cc := cX9_again) (maxL := 2) (rt := (some .int)) (by decide) rfl (Nat.le_of_ble_eq_true rfl) ?_ sz
  intro p e s m below meth c A Q H locs ls hQ hx hb hr hlk hmn hml hown hts hA hK hP hD hS hl
  have hown : s.vm.findClass RX9 = some m.cls := hown
  have hF : CallFix p m c cX9_again 2 s ([.ref jM] : List Value).toArray wsX9_again RX9 := ⟨hx, hb, hml, hown, hts⟩
  have hl : lv_has ls 2 [(0, .ref jM)] := hl
  have iw9 : ∀ w ∈ u_ws RX9 TX9 29, w ∈ wsX9_again := by decide +kernel
  have kw1 := hts (.fieldLink RX9 7 "HeldTonguesModel" "s" "[I") (by decide +kernel)
  have kw2 := hts (.fieldLink RX9 13 "HeldTonguesModel" "held" "[I") (by decide +kernel)
  have kw3 := hts (.fieldLink RX9 342 "HeldTonguesModel" "isHeld" "Z") (by decide +kernel)
  have b36 : ∀ (vM_s : AI) (H : Heap) (locs : List Loc) (ls : Array Slot), fX9_again_b36 RM vM_s = some o → va_P D vwCl (wMo K jM aM vM_s RM.held RM.aside RM.before RM.isHeld RM.tape RM.taped RM.token RM.frm RM.to RM.value RM.isWrong RM.unpaired RM.bestSound RM.bestWay RM.rows RM.rowN RM.sortOf RM.sizeOf RM.numbers RM.holdsWhat RM.holdsWhich RM.holdsMany RM.bodies RM.ran RM.actKind RM.actN RM.actA RM.isParted) H → va_D A (wMo K jM aM vM_s RM.held RM.aside RM.before RM.isHeld RM.tape RM.taped RM.token RM.frm RM.to RM.value RM.isWrong RM.unpaired RM.bestSound RM.bestWay RM.rows RM.rowN RM.sortOf RM.sizeOf RM.numbers RM.holdsWhat RM.holdsWhich RM.holdsMany RM.bodies RM.ran RM.actKind RM.actN RM.actA RM.isParted) → va_S A s.heap H locs → lv_has ls 2 [(0, .ref jM)] → W p l e (headSpec wsX9_again rmX9_again).room s m ([.ref jM] : List Value).toArray below meth c H locs 0 0 Q (F0 m 36 ls []) := by
    intro vM_s H locs ls hf hP hD hS hl
    delta fX9_again_b36 at hf
    refine lv_aload_n hx hb dX9_again_36 rfl (lv_at hl 0 rfl) ?_
    refine va_get (D := D) (ci := 9) (v := .ref (aM 0)) (C := RX9) (T := TX9) (N := 29) hx hb hts iw9 hown hK hP 0 rfl rfl 0 (by decide) kw1 (fun _ h9 => h9) rfl dX9_again_37 ?_
    refine lv_iconst (v := 0) hx hb dX9_again_40 (by decide) ?_
    obtain ⟨g_1, hf⟩ := ht_gd_ob hf
    refine va_iald hx hb hK hP 1 1 rfl rfl (ht_ix_in g_1) dX9_again_41 ?_
    have ho := Option.some.inj hf
    subst ho; subst hQ
    exact ht_iret hx hb hr hlk rfl hK hP hD hS dX9_again_42
  have b12 : ∀ (n : Nat) (x1 : Int32) (vM_s : AI) (H : Heap) (locs : List Loc) (ls : Array Slot), ht_lp2 (fX9_again_b12 RM) n x1 vM_s = some o → va_P D vwCl (wMo K jM aM vM_s RM.held RM.aside RM.before RM.isHeld RM.tape RM.taped RM.token RM.frm RM.to RM.value RM.isWrong RM.unpaired RM.bestSound RM.bestWay RM.rows RM.rowN RM.sortOf RM.sizeOf RM.numbers RM.holdsWhat RM.holdsWhich RM.holdsMany RM.bodies RM.ran RM.actKind RM.actN RM.actA RM.isParted) H → va_D A (wMo K jM aM vM_s RM.held RM.aside RM.before RM.isHeld RM.tape RM.taped RM.token RM.frm RM.to RM.value RM.isWrong RM.unpaired RM.bestSound RM.bestWay RM.rows RM.rowN RM.sortOf RM.sizeOf RM.numbers RM.holdsWhat RM.holdsWhich RM.holdsMany RM.bodies RM.ran RM.actKind RM.actN RM.actA RM.isParted) → va_S A s.heap H locs → lv_has ls 2 [(0, .ref jM), (1, .int x1)] → W p l e (headSpec wsX9_again rmX9_again).room s m ([.ref jM] : List Value).toArray below meth c H locs 0 0 Q (F0 m 12 ls []) := by
    intro n
    induction n with
    | zero =>
      intro x1 vM_s H locs ls hf hP hD hS hl
      cases (show (none : Option (Int32 × AI)) = some o from hf)
    | succ n hk12 =>
      intro x1 vM_s H locs ls hf hP hD hS hl
      replace hf : fX9_again_b12 RM (ht_lp2 (fX9_again_b12 RM) n) x1 vM_s = some o := hf
      delta fX9_again_b12 at hf
      refine lv_iload_n hx hb dX9_again_12 rfl (lv_at hl 1 rfl) ?_
      refine lv_bipush (v := 57) hx hb dX9_again_13 (by decide) ?_
      refine lv_icmp_ge (tgt := 36) hx hb dX9_again_15 (by decide) (fun c_2 => ?_) (fun c_2 => ?_)
      · replace hf := ht_t c_2 hf
        exact b36  vM_s _ _ _ hf hP hD hS (lv_sub hl [0] rfl)
      · replace hf := ht_f c_2 hf
        refine lv_aload_n hx hb dX9_again_18 rfl (lv_at hl 0 rfl) ?_
        refine va_get (D := D) (ci := 9) (v := .ref (aM 0)) (C := RX9) (T := TX9) (N := 29) hx hb hts iw9 hown hK hP 0 rfl rfl 0 (by decide) kw1 (fun _ h9 => h9) rfl dX9_again_19 ?_
        refine lv_iload_n hx hb dX9_again_22 rfl (lv_at hl 1 rfl) ?_
        refine lv_aload_n hx hb dX9_again_23 rfl (lv_at hl 0 rfl) ?_
        refine va_get (D := D) (ci := 9) (v := .ref (aM 1)) (C := RX9) (T := TX9) (N := 29) hx hb hts iw9 hown hK hP 0 rfl rfl 1 (by decide) kw2 (fun _ h9 => h9) rfl dX9_again_24 ?_
        refine lv_iload_n hx hb dX9_again_27 rfl (lv_at hl 1 rfl) ?_
        obtain ⟨g_3, hf⟩ := ht_gd_ob hf
        refine va_iald hx hb hK hP 2 1 rfl rfl (ht_ix_in g_3) dX9_again_28 ?_
        obtain ⟨g_4, hf⟩ := ht_gd_ob hf
        obtain ⟨vM_s_5, evM_s_5, hf⟩ := ht_nm_ob hf
        refine ht_iast (w2 := (wMo K jM aM vM_s_5 RM.held RM.aside RM.before RM.isHeld RM.tape RM.taped RM.token RM.frm RM.to RM.value RM.isWrong RM.unpaired RM.bestSound RM.bestWay RM.rows RM.rowN RM.sortOf RM.sizeOf RM.numbers RM.holdsWhat RM.holdsWhich RM.holdsMany RM.bodies RM.ran RM.actKind RM.actN RM.actA RM.isParted)) hx hb hK hP hD hS 1 1 rfl rfl g_4 dX9_again_29 evM_s_5 rfl (fun H locs hP hD hS => ?_)
        obtain ⟨x1_6, ex1_6, hf⟩ := ht_nm_ob hf
        refine lv_iinc (v := x1_6) (lv' := [(1, .int x1_6), (0, .ref jM)]) hx hb dX9_again_30 hl (k := 1) rfl (by rw [ex1_6]; rfl) (by decide) rfl (fun ls hl => ?_)
        refine lv_goto (tgt := 12) hx hb dX9_again_33 (by decide) ?_
        exact hk12 x1_6 vM_s_5 _ _ _ hf hP hD hS (lv_sub hl [1, 0] rfl)
  delta fX9_again at hf
  refine lv_aload_n hx hb dX9_again_0 rfl (lv_at hl 0 rfl) ?_
  refine va_get (D := D) (ci := 9) (v := .int RM.isHeld) (C := RX9) (T := TX9) (N := 29) hx hb hts iw9 hown hK hP 0 rfl rfl 4 (by decide) kw3 (fun _ h9 => h9) rfl dX9_again_1 ?_
  refine lv_if_ne (tgt := 10) hx hb dX9_again_4 (by decide) (fun c_7 => ?_) (fun c_7 => ?_)
  · replace hf := ht_f c_7 hf
    refine lv_iconst (v := 0) hx hb dX9_again_10 (by decide) ?_
    refine lv_istore_n (lv' := [(1, .int (0 : Int32)), (0, .ref jM)]) hx hb dX9_again_11 rfl hl (by decide) rfl (fun ls hl => ?_)
    exact b12  FU (0 : Int32) RM.s _ _ _ hf hP hD hS (lv_sub hl [1, 0] rfl)
  · replace hf := ht_t c_7 hf
    refine lv_bipush (v := -3) hx hb dX9_again_7 (by decide) ?_
    have ho := Option.some.inj hf
    subst ho; subst hQ
    exact ht_iret hx hb hr hlk rfl hK hP hD hS dX9_again_9
