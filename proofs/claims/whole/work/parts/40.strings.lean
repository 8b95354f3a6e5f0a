/-! ===== the texts that the class knows, and the JDK's own members over them ===== -/
def poolS : List Nat := [37, 58, 64, 66, 86, 104, 106, 108, 110, 112, 114, 116, 118, 120, 122]
def txtS : List String := ["pair", "need", "saved", "voice", "with", "citizen", "wife", "monk", "hawker", "prior", "child", "loud", "quiet", "growth", "lot"]
def lenS : List Nat := [4, 4, 5, 5, 4, 7, 4, 4, 6, 5, 5, 4, 5, 6, 3]
def bytS : List (List Int32) := [[112, 97, 105, 114], [110, 101, 101, 100], [115, 97, 118, 101, 100], [118, 111, 105, 99, 101], [119, 105, 116, 104], [99, 105, 116, 105, 122, 101, 110], [119, 105, 102, 101], [109, 111, 110, 107], [104, 97, 119, 107, 101, 114], [112, 114, 105, 111, 114], [99, 104, 105, 108, 100], [108, 111, 117, 100], [113, 117, 105, 101, 116], [103, 114, 111, 119, 116, 104], [108, 111, 116]]
def strLen (i : Nat) : Int32 := Int32.ofNat (lenS.getD i 0)
def chS (i k : Nat) : Int32 := (bytS.getD i []).getD k 0
theorem strs_ok : ∀ i, i < 15 → lenS.getD i 0 < 40 ∧ ∀ k, k < lenS.getD i 0 → ((chS i k &&& 255).toUInt32 % 65536).toInt32 = chS i k ∧ narrow .char (.int (chS i k)) = .int (chS i k) := by
  have h : ∀ i, i < 15 → lenS.getD i 0 < 40 ∧ ∀ k, k < lenS.getD i 0 → ((chS i k &&& 255).toUInt32 % 65536).toInt32 = chS i k ∧ (chS i k).toUInt32.toUInt16.toUInt32.toInt32 = chS i k := by decide +kernel
  intro i hi
  refine ⟨(h i hi).1, fun k hk => ⟨((h i hi).2 k hk).1, ?_⟩⟩
  have e := ((h i hi).2 k hk).2
  show Value.int _ = _
  exact congrArg Value.int e
def ht_Str (aK aV : Nat → Nat) (A : Nat → Prop) (U : State) (H : Heap) : Prop := vk_S 15 lenS bytS aK aV A U H ∧ (∀ i, i < 15 → vk_R RX5 (poolS.getD i 0) (txtS.getD i "") (aK i) U) ∧ va_Z "java/lang/String" "COMPACT_STRINGS" "Z" (.int 1) A U H ∧ va_Zq "jdk/internal/util/Preconditions" "SIOOBE_FORMATTER" "Ljava/util/function/BiFunction;" A U H ∧ va_Nw (.methodLinkNest RX5 75 yX8_mostOfLaw "HeldTongues") U
theorem ht_Str.go {aK aV : Nat → Nat} {A B : Nat → Prop} {s U : State} {H H1 : Heap} (h : ht_Str aK aV A s H) (hq : ∀ a : Nat, a < H.size → ¬ A a → H1[a]? = H[a]?) (hAB : ∀ q, B q → A q) (hW : s.WarmedH U.vm) : ht_Str aK aV B U H1 :=
  ⟨((h.1.kept hq).narrow hAB).moved hW.alike, fun i hi => (h.2.1 i hi).warm hW, ((h.2.2.1.kept hq).narrow hAB).moved hW.alike, ((h.2.2.2.1.kept hq).narrow hAB).moved hW.alike, va_Nw.warmM hW h.2.2.2.2⟩
abbrev ht_PreS (D : va_G) (K : Nat → ClassId) (aK aV : Nat → Nat) (av : List Value) (w : va_W) (sz : Nat) : Array Value → State → Prop := va_Pc av (fun U => U.heap.size = sz ∧ va_P D vwCl w U.heap ∧ va_K D vwCl (ht_tys K) U ∧ va_D (fun _ => True) w ∧ ht_Str aK aV (va_A w sz) U U.heap)
theorem ht_enterS {l : Launch} {y : MethodName} {ws ws' : List Cond} {rm : Room} {D : va_G} {K : Nat → ClassId} {aK aV : Nat → Nat} {av : List Value} {w : va_W} {Qf : (Nat → Prop) → Array Value → State → Outcome → State → Prop} {cc : ByteArray} {maxL mc ms : Nat} {rt : Option FieldType}
    (hy : plainName y.cls = true) (hw : ws = Cond.code y cc maxL rt :: ws') (hlen : (lg_sl av).length ≤ maxL)
    (body : ∀ (p : Program) (e : Env) (s : State) (m : MethodId) (below : List Frame) (meth : Method) (c : Code) (A : Nat → Prop) (Q : State → Prop) (H : Heap) (locs : List Loc) (ls : Array Slot), Q = MQ below (Qf A) av.toArray s mc ms A → p.tables.exec = Jvm.exec → c.code = cc → meth.sig.returnType = rt → meth.locks = false → meth.name = y.name → c.maxLocals = maxL → s.vm.findClass y.cls = some m.cls → (∀ w ∈ ws, w.before av.toArray s = true) → (∀ q : Nat, s.heap.size ≤ q → A q) → va_K D vwCl (ht_tys K) s → ht_Str aK aV A s s.heap → va_P D vwCl w H → va_D A w → va_S A s.heap H locs → lv_has ls maxL (lv_args 0 av) → W p l e (headSpec ws rm).room s m av.toArray below meth c H locs 0 0 Q (F0 m 0 ls [])) (sz : Nat) :
    Met l y ws rm (ht_PreS D K aK aV av w sz) (Qf (va_A w sz)) mc ms (va_A w sz) := by
  refine Met.ofW (cc := cc) (maxL := maxL) (ret := rt) hy hw ?_
  intro p e s m args below meth c s₁ B hml hv
  obtain ⟨rfl, hsz, hP, hK, hD0, hE⟩ := hv
  subst hsz
  rw [lg_entry_eq]
  exact body p e s m below meth c (va_A w s.heap.size) _ s.heap [] _ rfl B.exec B.bytes B.returns B.notSynchronized (name_of_methodNamed B.named B.method).1 hml (findClass_of_methodNamed B.named) (atoms_spec (ws := ws) B.pre) (fun q h => Or.inr h) hK hE hP (hD0.self (sz := s.heap.size)) va_S.rf (lv_entry av hlen)
section
variable {p : Program} {l : Launch} {e : Env} {R : Room} {s : State} {m : MethodId} {args : Array Value} {below : List Frame} {meth : Method} {c : Code} {H : Heap} {locs : List Loc} {cells slots : Nat} {Q : State → Prop} {cc : ByteArray} {pc : Nat} {ls : Array Slot} {rest : List Value} {D : va_G} {K : Nat → ClassId} {A : Nat → Prop} {aK aV : Nat → Nat}
theorem ht_blindS {av : List Value} {w : va_W} {sz : Nat} : FrameBlind (ht_PreS D K aK aV av w sz) := fun a U g mk q => by
  obtain ⟨q0, q1, qP, qK, qD, qE⟩ := q
  have hv : (U.calling g mk a).vm = U.vm := rfl
  exact ⟨q0, q1, qP, va_K.moved (u := U) (U := U.calling g mk a) (Vm.Alike.refl U.vm) qK, qD, ⟨vk_S.moved (u := U) (U := U.calling g mk a) (Vm.Alike.refl U.vm) qE.1, fun i hi => vk_R.same hv (qE.2.1 i hi), va_Z.moved (u := U) (U := U.calling g mk a) (Vm.Alike.refl U.vm) qE.2.2.1, va_Zq.moved (u := U) (U := U.calling g mk a) (Vm.Alike.refl U.vm) qE.2.2.2.1, va_Nw.same rfl hv.symm qE.2.2.2.2⟩⟩
theorem ht_pvS {C : String} {b : Nat} {As : List Value} {wc : va_W} (hK : va_K D vwCl (ht_tys K) s) (hE : ht_Str aK aV A s s.heap) (hS : va_S A s.heap H locs) (hFc : ∀ q, va_A wc H.size q → A q) (hr : ∃ cellB : Cell, H[b]? = some cellB ∧ cellB.vm.isStatics = false ∧ s.vm.findClass C = some cellB.cls) (hP : va_P D vwCl wc H) (hD : va_D A wc) : PreV s H C b (ht_PreS D K aK aV (.ref b :: As) wc H.size) As :=
  ⟨ht_blindS, hr, fun U hU hW => ⟨rfl, by rw [hU], by rw [hU]; exact hP, va_K.moved hW.alike hK, hD.weaken (fun _ _ _ _ => trivial), by rw [hU]; exact hE.go hS.2.1 hFc hW⟩⟩
theorem ht_psS {As : List Value} {wc : va_W} (hK : va_K D vwCl (ht_tys K) s) (hE : ht_Str aK aV A s s.heap) (hS : va_S A s.heap H locs) (hFc : ∀ q, va_A wc H.size q → A q) (hP : va_P D vwCl wc H) (hD : va_D A wc) : PreS s H (ht_PreS D K aK aV As wc H.size) As :=
  ⟨ht_blindS, fun U hU hW => ⟨rfl, by rw [hU], by rw [hU]; exact hP, va_K.moved hW.alike hK, hD.weaken (fun _ _ _ _ => trivial), by rw [hU]; exact hE.go hS.2.1 hFc hW⟩⟩
section
variable {own C : String} {index n nL maxL mc ms : Nat} {y : MethodName} {bytes : ByteArray} {ret : Option FieldType} {Ts wy : List Cond} {rm : Room} {b : Nat} {As st : List Value} {ws wc wr w1 w2 : va_W} {Pc : Array Value → State → Prop}

theorem ht_gVi {r : Int32} (F : CallFix p m c cc nL s args Ts own) (hM : Met l y wy rm Pc (ht_Qi D K w1 r (va_A wc H.size)) mc ms (va_A wc H.size)) (cw : CallW R s args own C index y bytes maxL ret wy rm mc ms n)
    (hP : va_P D vwCl ws H) (hD : va_D A ws) (hS : va_S A s.heap H locs) (hA : ∀ q : Nat, s.heap.size ≤ q → A q) (isC isR : List Nat) (hC : isC.map (fun i => ws[i]?) = wc.map some) (hR : isR.map (fun i => ws[i]?) = wr.map some) (hnC : va_nd isC = true) (hnR : va_nd isR = true) (hdis : ∀ i ∈ isR, i ∉ isC) (pm : List Nat) (hpm : pm.map (fun i => (wr ++ w1)[i]?) = w2.map some) (hnp : va_nd pm = true)
    (hpre : (∀ q, va_A wc H.size q → A q) → va_P D vwCl wc H → va_D A wc → PreV s H C b Pc As) (hn : As.length = n) (hsize : ls.size = nL) (hst : st = As.reverse ++ .ref b :: rest) (hrm : (rest.map fun v => v.category).sum ≤ 8) (hdg : decode cc pc = .ok (.invokevirtual index, 3)) (hf : cells + mc ≤ R.cells ∧ slots + ms ≤ R.slots)
    (kk : ∀ (H1 : Heap) (locs1 : List Loc), va_P D vwCl w2 H1 → va_D A w2 → va_S A s.heap H1 locs1 → W p l e R s m args below meth c H1 locs1 (cells + mc) (slots + ms) Q (F0 m (pc + 3) ls (.int r :: rest))) :
    W p l e R s m args below meth c H locs cells slots Q (F0 m pc ls st) := by
  have hFc := va_free (wc := wc) hD hS hA isC hC
  refine va_calli (va_runV (As := As) (rest := rest) F hM cw (hpre hFc (hP.sub isC (ht_pick hC)) (hD.sub isC hnC hC)) rfl hn hsize hst (lv_room hrm) hdg hf) hS (fun q _ h => hFc q h) hFc (fun r' u t H1 locs1 ht hvm hw hB hz1 hk1 hS1 => ?_)
  obtain ⟨hP1, hK1, hD1⟩ := hB
  rw [ht] at hP1
  obtain ⟨hP2, hD2⟩ := va_join hP hD isC isR hC hR hnR hdis hk1 hFc hP1 hD1
  subst hw
  exact kk H1 locs1 (hP2.sub pm (ht_pick hpm)) (hD2.sub pm hnp hpm) hS1
theorem ht_gSi {r : Int32} (F : CallFix p m c cc nL s args Ts own) (hM : Met l y wy rm Pc (ht_Qi D K w1 r (va_A wc H.size)) mc ms (va_A wc H.size)) (cw : CallB R s args own index y bytes maxL ret wy rm mc ms n ∧ (Cond.static y).before args s = true)
    (hP : va_P D vwCl ws H) (hD : va_D A ws) (hS : va_S A s.heap H locs) (hA : ∀ q : Nat, s.heap.size ≤ q → A q) (isC isR : List Nat) (hC : isC.map (fun i => ws[i]?) = wc.map some) (hR : isR.map (fun i => ws[i]?) = wr.map some) (hnC : va_nd isC = true) (hnR : va_nd isR = true) (hdis : ∀ i ∈ isR, i ∉ isC) (pm : List Nat) (hpm : pm.map (fun i => (wr ++ w1)[i]?) = w2.map some) (hnp : va_nd pm = true)
    (hpre : (∀ q, va_A wc H.size q → A q) → va_P D vwCl wc H → va_D A wc → PreS s H Pc As) (hn : As.length = n) (hsize : ls.size = nL) (hst : st = As.reverse ++ rest) (hrm : (rest.map fun v => v.category).sum ≤ 8) (hdg : decode cc pc = .ok (.invokestatic index, 3)) (hf : cells + mc ≤ R.cells ∧ slots + ms ≤ R.slots)
    (kk : ∀ (H1 : Heap) (locs1 : List Loc), va_P D vwCl w2 H1 → va_D A w2 → va_S A s.heap H1 locs1 → W p l e R s m args below meth c H1 locs1 (cells + mc) (slots + ms) Q (F0 m (pc + 3) ls (.int r :: rest))) :
    W p l e R s m args below meth c H locs cells slots Q (F0 m pc ls st) := by
  have hFc := va_free (wc := wc) hD hS hA isC hC
  refine va_calli (va_runS (As := As) (rest := rest) F hM cw (hpre hFc (hP.sub isC (ht_pick hC)) (hD.sub isC hnC hC)) rfl hn hsize hst (lv_room hrm) hdg hf) hS (fun q _ h => hFc q h) hFc (fun r' u t H1 locs1 ht hvm hw hB hz1 hk1 hS1 => ?_)
  obtain ⟨hP1, hK1, hD1⟩ := hB
  rw [ht] at hP1
  obtain ⟨hP2, hD2⟩ := va_join hP hD isC isR hC hR hnR hdis hk1 hFc hP1 hD1
  subst hw
  exact kk H1 locs1 (hP2.sub pm (ht_pick hpm)) (hD2.sub pm hnp hpm) hS1
theorem ht_gSv (F : CallFix p m c cc nL s args Ts own) (hM : Met l y wy rm Pc (ht_Qv D K w1 (va_A wc H.size)) mc ms (va_A wc H.size)) (cw : CallB R s args own index y bytes maxL ret wy rm mc ms n ∧ (Cond.static y).before args s = true)
    (hP : va_P D vwCl ws H) (hD : va_D A ws) (hS : va_S A s.heap H locs) (hA : ∀ q : Nat, s.heap.size ≤ q → A q) (isC isR : List Nat) (hC : isC.map (fun i => ws[i]?) = wc.map some) (hR : isR.map (fun i => ws[i]?) = wr.map some) (hnC : va_nd isC = true) (hnR : va_nd isR = true) (hdis : ∀ i ∈ isR, i ∉ isC) (pm : List Nat) (hpm : pm.map (fun i => (wr ++ w1)[i]?) = w2.map some) (hnp : va_nd pm = true)
    (hpre : (∀ q, va_A wc H.size q → A q) → va_P D vwCl wc H → va_D A wc → PreS s H Pc As) (hn : As.length = n) (hsize : ls.size = nL) (hst : st = As.reverse ++ rest) (hrm : (rest.map fun v => v.category).sum ≤ 8) (hdg : decode cc pc = .ok (.invokestatic index, 3)) (hf : cells + mc ≤ R.cells ∧ slots + ms ≤ R.slots)
    (kk : ∀ (H1 : Heap) (locs1 : List Loc), va_P D vwCl w2 H1 → va_D A w2 → va_S A s.heap H1 locs1 → W p l e R s m args below meth c H1 locs1 (cells + mc) (slots + ms) Q (F0 m (pc + 3) ls (rest))) :
    W p l e R s m args below meth c H locs cells slots Q (F0 m pc ls st) := by
  have hFc := va_free (wc := wc) hD hS hA isC hC
  refine va_callv (va_runS (As := As) (rest := rest) F hM cw (hpre hFc (hP.sub isC (ht_pick hC)) (hD.sub isC hnC hC)) rfl hn hsize hst (lv_room hrm) hdg hf) hS (fun q _ h => hFc q h) hFc (fun u t H1 locs1 ht hvm hw hB hz1 hk1 hS1 => ?_)
  obtain ⟨hP1, hK1, hD1⟩ := hB
  rw [ht] at hP1
  obtain ⟨hP2, hD2⟩ := va_join hP hD isC isR hC hR hnR hdis hk1 hFc hP1 hD1
  exact kk H1 locs1 (hP2.sub pm (ht_pick hpm)) (hD2.sub pm hnp hpm) hS1
theorem ht_gSNi {r : Int32} {host : String} (F : CallFix p m c cc nL s args Ts own) (hM : Met l y wy rm Pc (ht_Qi D K w1 r (va_A wc H.size)) mc ms (va_A wc H.size)) (cw : va_CN R s args own index y host bytes maxL ret wy rm mc ms n ∧ (Cond.static y).before args s = true ∧ True)
    (hP : va_P D vwCl ws H) (hD : va_D A ws) (hS : va_S A s.heap H locs) (hA : ∀ q : Nat, s.heap.size ≤ q → A q) (isC isR : List Nat) (hC : isC.map (fun i => ws[i]?) = wc.map some) (hR : isR.map (fun i => ws[i]?) = wr.map some) (hnC : va_nd isC = true) (hnR : va_nd isR = true) (hdis : ∀ i ∈ isR, i ∉ isC) (pm : List Nat) (hpm : pm.map (fun i => (wr ++ w1)[i]?) = w2.map some) (hnp : va_nd pm = true)
    (hpre : (∀ q, va_A wc H.size q → A q) → va_P D vwCl wc H → va_D A wc → PreS s H Pc As) (hn : As.length = n) (hsize : ls.size = nL) (hst : st = As.reverse ++ rest) (hrm : (rest.map fun v => v.category).sum ≤ 8) (hdg : decode cc pc = .ok (.invokestatic index, 3)) (hf : cells + mc ≤ R.cells ∧ slots + ms ≤ R.slots)
    (kk : ∀ (H1 : Heap) (locs1 : List Loc), va_P D vwCl w2 H1 → va_D A w2 → va_S A s.heap H1 locs1 → W p l e R s m args below meth c H1 locs1 (cells + mc) (slots + ms) Q (F0 m (pc + 3) ls (.int r :: rest))) :
    W p l e R s m args below meth c H locs cells slots Q (F0 m pc ls st) := by
  have hFc := va_free (wc := wc) hD hS hA isC hC
  refine va_calli (va_runSN (As := As) (rest := rest) F hM cw (hpre hFc (hP.sub isC (ht_pick hC)) (hD.sub isC hnC hC)) rfl hn hsize hst (lv_room hrm) hdg hf) hS (fun q _ h => hFc q h) hFc (fun r' u t H1 locs1 ht hvm hw hB hz1 hk1 hS1 => ?_)
  obtain ⟨hP1, hK1, hD1⟩ := hB
  rw [ht] at hP1
  obtain ⟨hP2, hD2⟩ := va_join hP hD isC isR hC hR hnR hdis hk1 hFc hP1 hD1
  subst hw
  exact kk H1 locs1 (hP2.sub pm (ht_pick hpm)) (hD2.sub pm hnp hpm) hS1
end
end
set_option maxHeartbeats 1000000 in
set_option maxRecDepth 100000 in
theorem ctJ3_n (l : Launch) (D : va_G) (K : Nat → ClassId) (i n : Int32) (t : Nat) (h0 : ¬ i < 0) (h1 : i < n) (sz : Nat) : Met l yJ3_checkIndex_8e157 wsJ3_checkIndex_8e157 { frames := 0, cells := 0, slots := 0, locals := 0 } (ht_Pre D K [.int i, .int n, .null] [] sz) (ht_Qi D K [] i (va_A [] sz)) 0 0 (va_A [] sz) := by
  refine ht_enter (Qf := ht_Qi D K [] i) (cc := cJ3_checkIndex_8e157) (maxL := 3) (rt := some .int) (by decide) rfl (Nat.le_of_ble_eq_true rfl) ?_ sz
  intro p e s m below meth c A Q H locs ls hQ hx hb hr hlk hmn hml hown hts hA hK hP hD hS hl
  have hown : s.vm.findClass RJ3 = some m.cls := hown
  have hl : lv_has ls 3 [(0, .int i), (1, .int n), (2, .null)] := hl
  refine lv_iload_n hx hb dJ3_checkIndex_8e157_0 rfl (lv_at hl 0 rfl) ?_
  refine lv_if_lt (tgt := 9) hx hb dJ3_checkIndex_8e157_1 (by decide) (fun q => absurd q h0) (fun _ => ?_)
  refine lv_iload_n hx hb dJ3_checkIndex_8e157_4 rfl (lv_at hl 0 rfl) ?_
  refine lv_iload_n hx hb dJ3_checkIndex_8e157_5 rfl (lv_at hl 1 rfl) ?_
  refine lv_icmp_lt (tgt := 16) hx hb dJ3_checkIndex_8e157_6 (by decide) (fun _ => ?_) (fun q => absurd h1 q)
  refine lv_iload_n hx hb dJ3_checkIndex_8e157_16 rfl (lv_at hl 0 rfl) ?_
  subst hQ
  exact ht_iret hx hb hr hlk rfl hK hP hD hS dJ3_checkIndex_8e157_17
set_option maxHeartbeats 1000000 in
set_option maxRecDepth 100000 in
theorem ctJ3_s (l : Launch) (D : va_G) (K : Nat → ClassId) (i n : Int32) (t : Nat) (h0 : ¬ i < 0) (h1 : i < n) (sz : Nat) : Met l yJ3_checkIndex_8e157 wsJ3_checkIndex_8e157 { frames := 0, cells := 0, slots := 0, locals := 0 } (ht_Pre D K [.int i, .int n, (.ref t)] [] sz) (ht_Qi D K [] i (va_A [] sz)) 0 0 (va_A [] sz) := by
  refine ht_enter (Qf := ht_Qi D K [] i) (cc := cJ3_checkIndex_8e157) (maxL := 3) (rt := some .int) (by decide) rfl (Nat.le_of_ble_eq_true rfl) ?_ sz
  intro p e s m below meth c A Q H locs ls hQ hx hb hr hlk hmn hml hown hts hA hK hP hD hS hl
  have hown : s.vm.findClass RJ3 = some m.cls := hown
  have hl : lv_has ls 3 [(0, .int i), (1, .int n), (2, (.ref t))] := hl
  refine lv_iload_n hx hb dJ3_checkIndex_8e157_0 rfl (lv_at hl 0 rfl) ?_
  refine lv_if_lt (tgt := 9) hx hb dJ3_checkIndex_8e157_1 (by decide) (fun q => absurd q h0) (fun _ => ?_)
  refine lv_iload_n hx hb dJ3_checkIndex_8e157_4 rfl (lv_at hl 0 rfl) ?_
  refine lv_iload_n hx hb dJ3_checkIndex_8e157_5 rfl (lv_at hl 1 rfl) ?_
  refine lv_icmp_lt (tgt := 16) hx hb dJ3_checkIndex_8e157_6 (by decide) (fun _ => ?_) (fun q => absurd h1 q)
  refine lv_iload_n hx hb dJ3_checkIndex_8e157_16 rfl (lv_at hl 0 rfl) ?_
  subst hQ
  exact ht_iret hx hb hr hlk rfl hK hP hD hS dJ3_checkIndex_8e157_17
theorem hdJ3 : yJ3_checkIndex_8e157.cls ≠ "java/lang/invoke/MethodHandle" ∧ yJ3_checkIndex_8e157.cls ≠ "java/lang/invoke/VarHandle" ∧ (parseMethodDescriptor yJ3_checkIndex_8e157.desc).map (fun d => d.parameters.length) = some 3 := by decide +kernel
set_option maxHeartbeats 1000000 in
set_option maxRecDepth 100000 in
theorem ctJ0_checkIndex (l : Launch) (D : va_G) (K : Nat → ClassId) (aK aV : Nat → Nat) (i n : Int32) (h0 : ¬ i < 0) (h1 : i < n) (sz : Nat) : Met l yJ0_checkIndex_df160 wsJ0_checkIndex_df160 { frames := 1, cells := 0, slots := 0, locals := 22 } (ht_PreS D K aK aV [.int i, .int n] [] sz) (ht_Qv D K [] (va_A [] sz)) 0 0 (va_A [] sz) := by
  refine ht_enterS (Qf := ht_Qv D K []) (cc := cJ0_checkIndex_df160) (maxL := 2) (rt := none) (by decide) rfl (Nat.le_of_ble_eq_true rfl) ?_ sz
  intro p e s m below meth c A Q H locs ls hQ hx hb hr hlk hmn hml hown hts hA hK hE hP hD hS hl
  have hown : s.vm.findClass RJ0 = some m.cls := hown
  have hl : lv_has ls 2 [(0, .int i), (1, .int n)] := hl
  have hF : CallFix p m c cJ0_checkIndex_df160 2 s ([.int i, .int n] : List Value).toArray wsJ0_checkIndex_df160 RJ0 := ⟨hx, hb, hml, hown, hts⟩
  have kw := hts (.fieldLink RJ0 1053 "jdk/internal/util/Preconditions" "SIOOBE_FORMATTER" "Ljava/util/function/BiFunction;") (by decide +kernel)
  refine lv_iload_n hx hb dJ0_checkIndex_df160_0 rfl (lv_at hl 0 rfl) ?_
  refine lv_iload_n hx hb dJ0_checkIndex_df160_1 rfl (lv_at hl 1 rfl) ?_
  rcases hE.2.2.2.1 with hZ | ⟨t, hZ⟩
  · refine va_gets hx hb hZ hS hown kw (fun _ h => h) dJ0_checkIndex_df160_2 ?_
    refine ht_gSi (r := i) (rest := []) (As := [.int i, .int n, .null]) (wc := []) (wr := []) (w1 := []) (w2 := []) hF (ctJ3_n l D K i n 0 h0 h1 H.size) (va_cwS 3 hts gJ0_checkIndex_df160_J3_checkIndex_8e157 rfl rfl rfl hdJ3 ⟨Nat.le_of_ble_eq_true rfl, Nat.le_of_ble_eq_true rfl⟩) hP hD hS hA [] [] rfl rfl (by decide) (by decide) (by decide) [] rfl (by decide) (fun _ hP hD => ht_ps hK hP hD) rfl hl.1 rfl (Nat.le_of_ble_eq_true rfl) dJ0_checkIndex_df160_5 ⟨Nat.zero_le _, Nat.zero_le _⟩ (fun H locs hP hD hS => ?_)
    refine lv_pop hx hb dJ0_checkIndex_df160_8 rfl ?_
    subst hQ
    exact ht_vret hx hb hr hlk hK hP hD hS dJ0_checkIndex_df160_9
  · refine va_gets hx hb hZ hS hown kw (fun _ h => h) dJ0_checkIndex_df160_2 ?_
    refine ht_gSi (r := i) (rest := []) (As := [.int i, .int n, (.ref t)]) (wc := []) (wr := []) (w1 := []) (w2 := []) hF (ctJ3_s l D K i n t h0 h1 H.size) (va_cwS 3 hts gJ0_checkIndex_df160_J3_checkIndex_8e157 rfl rfl rfl hdJ3 ⟨Nat.le_of_ble_eq_true rfl, Nat.le_of_ble_eq_true rfl⟩) hP hD hS hA [] [] rfl rfl (by decide) (by decide) (by decide) [] rfl (by decide) (fun _ hP hD => ht_ps hK hP hD) rfl hl.1 rfl (Nat.le_of_ble_eq_true rfl) dJ0_checkIndex_df160_5 ⟨Nat.zero_le _, Nat.zero_le _⟩ (fun H locs hP hD hS => ?_)
    refine lv_pop hx hb dJ0_checkIndex_df160_8 rfl ?_
    subst hQ
    exact ht_vret hx hb hr hlk hK hP hD hS dJ0_checkIndex_df160_9
theorem hdJ0c : yJ0_checkIndex_df160.cls ≠ "java/lang/invoke/MethodHandle" ∧ yJ0_checkIndex_df160.cls ≠ "java/lang/invoke/VarHandle" ∧ (parseMethodDescriptor yJ0_checkIndex_df160.desc).map (fun d => d.parameters.length) = some 2 := by decide +kernel
set_option maxHeartbeats 1000000 in
set_option maxRecDepth 100000 in
theorem ctJ1_charAt (l : Launch) (D : va_G) (K : Nat → ClassId) (aK aV : Nat → Nat) (i : Nat) (k : Int32) (hi : i < 15) (hk : ht_ix k (lenS.getD i 0) = true) (sz : Nat) : Met l yJ1_charAt_3b067 wsJ1_charAt_3b067 { frames := 2, cells := 0, slots := 0, locals := 43 } (ht_PreS D K aK aV [.ref (aV i), .int k] [] sz) (ht_Qi D K [] (chS i k.toNatClampNeg) (va_A [] sz)) 0 0 (va_A [] sz) := by
  refine ht_enterS (Qf := ht_Qi D K [] (chS i k.toNatClampNeg)) (cc := cJ1_charAt_3b067) (maxL := 2) (rt := (some .char)) (by decide) rfl (Nat.le_of_ble_eq_true rfl) ?_ sz
  intro p e s m below meth c A Q H locs ls hQ hx hb hr hlk hmn hml hown hts hA hK hE hP hD hS hl
  have hown : s.vm.findClass RJ1 = some m.cls := hown
  have hl : lv_has ls 2 [(0, .ref (aV i)), (1, .int k)] := hl
  have hF : CallFix p m c cJ1_charAt_3b067 2 s ([.ref (aV i), .int k] : List Value).toArray wsJ1_charAt_3b067 RJ1 := ⟨hx, hb, hml, hown, hts⟩
  have hin := ht_ix_in hk
  have hL : lenS.getD i 0 < 40 := (strs_ok i hi).1
  obtain ⟨k0, hk0, rfl⟩ := vp_in_of hin (by omega)
  have hkc : (nI k0).toNatClampNeg = k0 := nI_clamp (by omega)
  obtain ⟨e1, e2⟩ := (strs_ok i hi).2 k0 hk0
  refine lv_iload_n hx hb dJ1_charAt_3b067_0 rfl (lv_at hl 1 rfl) ?_
  refine lv_aload_n hx hb dJ1_charAt_3b067_1 rfl (lv_at hl 0 rfl) ?_
  refine va_tlen (v := nI (lenS.getD i 0)) hx hb (hE.1.1 i hi).2.2.2 hS rfl dJ1_charAt_3b067_2 ?_
  refine ht_gSv (rest := []) (As := [.int (nI k0), .int (nI (lenS.getD i 0))]) (wc := []) (wr := []) (w1 := []) (w2 := []) hF (ctJ0_checkIndex l D K aK aV (nI k0) (nI (lenS.getD i 0)) (nI_pos (by omega)) (nI_lt hk0 (by omega)) H.size) (va_cwS 2 hts gJ1_charAt_3b067_J0_checkIndex_df160 rfl rfl rfl hdJ0c ⟨Nat.le_of_ble_eq_true rfl, Nat.le_of_ble_eq_true rfl⟩) hP hD hS hA [] [] rfl rfl (by decide) (by decide) (by decide) [] rfl (by decide) (fun hf hP hD => ht_psS hK hE hS hf hP hD) rfl hl.1 rfl (Nat.le_of_ble_eq_true rfl) dJ1_charAt_3b067_3 ⟨Nat.zero_le _, Nat.zero_le _⟩ (fun H locs hP hD hS => ?_)
  refine lv_aload_n hx hb dJ1_charAt_3b067_6 rfl (lv_at hl 0 rfl) ?_
  refine lv_iload_n hx hb dJ1_charAt_3b067_7 rfl (lv_at hl 1 rfl) ?_
  refine va_tb (v := .int (chS i k0)) hx hb (hE.1.1 i hi).2.2.2 hS hin (by rw [hkc]; rfl) dJ1_charAt_3b067_8 ?_
  refine lv_sipush (v := 255) hx hb dJ1_charAt_3b067_9 (by decide) ?_
  refine lv_iand hx hb dJ1_charAt_3b067_12 ?_
  refine lv_i2c hx hb dJ1_charAt_3b067_13 e1 ?_
  subst hQ
  rw [hkc]
  exact ht_iret hx hb hr hlk e2 hK hP hD hS dJ1_charAt_3b067_14
theorem hdJ1c : yJ1_charAt_3b067.cls ≠ "java/lang/invoke/MethodHandle" ∧ yJ1_charAt_3b067.cls ≠ "java/lang/invoke/VarHandle" ∧ (parseMethodDescriptor yJ1_charAt_3b067.desc).map (fun d => d.parameters.length) = some 2 := by decide +kernel
set_option maxHeartbeats 1000000 in
set_option maxRecDepth 100000 in
theorem ctJ0_coder (l : Launch) (D : va_G) (K : Nat → ClassId) (aK aV : Nat → Nat) (i : Nat) (hi : i < 15) (sz : Nat) : Met l yJ0_coder_7d493 wsJ0_coder_7d493 { frames := 0, cells := 0, slots := 0, locals := 0 } (ht_PreS D K aK aV [.ref (aK i)] [] sz) (ht_Qi D K [] 0 (va_A [] sz)) 0 0 (va_A [] sz) := by
  refine ht_enterS (Qf := ht_Qi D K [] 0) (cc := cJ0_coder_7d493) (maxL := 1) (rt := (some .byte)) (by decide) rfl (Nat.le_of_ble_eq_true rfl) ?_ sz
  intro p e s m below meth c A Q H locs ls hQ hx hb hr hlk hmn hml hown hts hA hK hE hP hD hS hl
  have hown : s.vm.findClass RJ0 = some m.cls := hown
  have hl : lv_has ls 1 [(0, .ref (aK i))] := hl
  have kw := hts (.fieldLink RJ0 38 "java/lang/String" "COMPACT_STRINGS" "Z") (by decide +kernel)
  have kc := hts (.fieldLink RJ0 15 "java/lang/String" "coder" "B") (by decide +kernel)
  refine va_gets hx hb hE.2.2.1 hS hown kw (fun _ h => h) dJ0_coder_7d493_0 ?_
  refine lv_if_eq (tgt := 13) hx hb dJ0_coder_7d493_3 (by decide) (fun q => absurd q (by decide)) (fun _ => ?_)
  refine lv_aload_n hx hb dJ0_coder_7d493_6 rfl (lv_at hl 0 rfl) ?_
  refine vk_getf hx hb (hE.1.1 i hi).2.1 hS hown kc (fun _ h => h) dJ0_coder_7d493_7 ?_
  refine lv_goto (tgt := 14) hx hb dJ0_coder_7d493_10 (by decide) ?_
  subst hQ
  exact ht_iret hx hb hr hlk rfl hK hP hD hS dJ0_coder_7d493_14
theorem hdJ0_coder_7d493 : yJ0_coder_7d493.cls = RJ0 ∧ yJ0_coder_7d493.cls ≠ "java/lang/invoke/MethodHandle" ∧ yJ0_coder_7d493.cls ≠ "java/lang/invoke/VarHandle" ∧ (parseMethodDescriptor yJ0_coder_7d493.desc).map (fun d => d.parameters.length) = some 0 := by decide +kernel
set_option maxHeartbeats 1000000 in
set_option maxRecDepth 100000 in
theorem ctJ0_isLatin1 (l : Launch) (D : va_G) (K : Nat → ClassId) (aK aV : Nat → Nat) (i : Nat) (hi : i < 15) (sz : Nat) : Met l yJ0_isLatin1_aae02 wsJ0_isLatin1_aae02 { frames := 0, cells := 0, slots := 0, locals := 0 } (ht_PreS D K aK aV [.ref (aK i)] [] sz) (ht_Qi D K [] 1 (va_A [] sz)) 0 0 (va_A [] sz) := by
  refine ht_enterS (Qf := ht_Qi D K [] 1) (cc := cJ0_isLatin1_aae02) (maxL := 1) (rt := (some .boolean)) (by decide) rfl (Nat.le_of_ble_eq_true rfl) ?_ sz
  intro p e s m below meth c A Q H locs ls hQ hx hb hr hlk hmn hml hown hts hA hK hE hP hD hS hl
  have hown : s.vm.findClass RJ0 = some m.cls := hown
  have hl : lv_has ls 1 [(0, .ref (aK i))] := hl
  have kw := hts (.fieldLink RJ0 38 "java/lang/String" "COMPACT_STRINGS" "Z") (by decide +kernel)
  have kc := hts (.fieldLink RJ0 15 "java/lang/String" "coder" "B") (by decide +kernel)
  refine va_gets hx hb hE.2.2.1 hS hown kw (fun _ h => h) dJ0_isLatin1_aae02_0 ?_
  refine lv_if_eq (tgt := 17) hx hb dJ0_isLatin1_aae02_3 (by decide) (fun q => absurd q (by decide)) (fun _ => ?_)
  refine lv_aload_n hx hb dJ0_isLatin1_aae02_6 rfl (lv_at hl 0 rfl) ?_
  refine vk_getf hx hb (hE.1.1 i hi).2.1 hS hown kc (fun _ h => h) dJ0_isLatin1_aae02_7 ?_
  refine lv_if_ne (tgt := 17) hx hb dJ0_isLatin1_aae02_10 (by decide) (fun q => absurd rfl q) (fun _ => ?_)
  refine lv_iconst (v := 1) hx hb dJ0_isLatin1_aae02_13 (by decide) ?_
  refine lv_goto (tgt := 18) hx hb dJ0_isLatin1_aae02_14 (by decide) ?_
  subst hQ
  exact ht_iret hx hb hr hlk rfl hK hP hD hS dJ0_isLatin1_aae02_18
theorem hdJ0_isLatin1_aae02 : yJ0_isLatin1_aae02.cls = RJ0 ∧ yJ0_isLatin1_aae02.cls ≠ "java/lang/invoke/MethodHandle" ∧ yJ0_isLatin1_aae02.cls ≠ "java/lang/invoke/VarHandle" ∧ (parseMethodDescriptor yJ0_isLatin1_aae02.desc).map (fun d => d.parameters.length) = some 0 := by decide +kernel
set_option maxHeartbeats 1000000 in
set_option maxRecDepth 100000 in
theorem ctJ0_length (l : Launch) (D : va_G) (K : Nat → ClassId) (aK aV : Nat → Nat) (i : Nat) (hi : i < 15) (sz : Nat) : Met l yJ0_length_8abf5 wsJ0_length_8abf5 { frames := 1, cells := 0, slots := 0, locals := 20 } (ht_PreS D K aK aV [.ref (aK i)] [] sz) (ht_Qi D K [] (strLen i) (va_A [] sz)) 0 0 (va_A [] sz) := by
  refine ht_enterS (Qf := ht_Qi D K [] (strLen i)) (cc := cJ0_length_8abf5) (maxL := 1) (rt := (some .int)) (by decide) rfl (Nat.le_of_ble_eq_true rfl) ?_ sz
  intro p e s m below meth c A Q H locs ls hQ hx hb hr hlk hmn hml hown hts hA hK hE hP hD hS hl
  have hown : s.vm.findClass RJ0 = some m.cls := hown
  have hl : lv_has ls 1 [(0, .ref (aK i))] := hl
  have hF : CallFix p m c cJ0_length_8abf5 1 s ([.ref (aK i)] : List Value).toArray wsJ0_length_8abf5 RJ0 := ⟨hx, hb, hml, hown, hts⟩
  have kw := hts (.fieldLink RJ0 9 "java/lang/String" "value" "[B") (by decide +kernel)
  refine lv_aload_n hx hb dJ0_length_8abf5_0 rfl (lv_at hl 0 rfl) ?_
  refine vk_getf hx hb (hE.1.1 i hi).2.2.1 hS hown kw (fun _ h => h) dJ0_length_8abf5_1 ?_
  refine va_tlen (v := strLen i) hx hb (hE.1.1 i hi).2.2.2 hS rfl dJ0_length_8abf5_4 ?_
  refine lv_aload_n hx hb dJ0_length_8abf5_5 rfl (lv_at hl 0 rfl) ?_
  refine ht_gVi (r := 0) (rest := [.int (strLen i)]) (As := []) (wc := []) (wr := []) (w1 := []) (w2 := []) hF (ctJ0_coder l D K aK aV i hi H.size) (cwV 0 hts gJ0_length_8abf5_J0_coder_7d493 rfl rfl rfl hdJ0_coder_7d493 ⟨Nat.le_of_ble_eq_true rfl, Nat.le_of_ble_eq_true rfl⟩) hP hD hS hA [] [] rfl rfl (by decide) (by decide) (by decide) [] rfl (by decide) (fun hf hP hD => ht_pvS hK hE hS hf (vk_recv hE.1 hi hS) hP hD) rfl hl.1 rfl (Nat.le_of_ble_eq_true rfl) dJ0_length_8abf5_6 ⟨Nat.zero_le _, Nat.zero_le _⟩ (fun H locs hP hD hS => ?_)
  refine lv_ishr hx hb dJ0_length_8abf5_9 ?_
  subst hQ
  rw [sb_shr0]
  exact ht_iret hx hb hr hlk rfl hK hP hD hS dJ0_length_8abf5_10
theorem hdJ0_length_8abf5 : yJ0_length_8abf5.cls = RJ0 ∧ yJ0_length_8abf5.cls ≠ "java/lang/invoke/MethodHandle" ∧ yJ0_length_8abf5.cls ≠ "java/lang/invoke/VarHandle" ∧ (parseMethodDescriptor yJ0_length_8abf5.desc).map (fun d => d.parameters.length) = some 0 := by decide +kernel
set_option maxHeartbeats 1000000 in
set_option maxRecDepth 100000 in
theorem ctJ0_charAt (l : Launch) (D : va_G) (K : Nat → ClassId) (aK aV : Nat → Nat) (i : Nat) (k : Int32) (hi : i < 15) (hk : ht_ix k (lenS.getD i 0) = true) (sz : Nat) : Met l yJ0_charAt_5068e wsJ0_charAt_5068e { frames := 3, cells := 0, slots := 0, locals := 64 } (ht_PreS D K aK aV [.ref (aK i), .int k] [] sz) (ht_Qi D K [] (chS i k.toNatClampNeg) (va_A [] sz)) 0 0 (va_A [] sz) := by
  refine ht_enterS (Qf := ht_Qi D K [] (chS i k.toNatClampNeg)) (cc := cJ0_charAt_5068e) (maxL := 2) (rt := (some .char)) (by decide) rfl (Nat.le_of_ble_eq_true rfl) ?_ sz
  intro p e s m below meth c A Q H locs ls hQ hx hb hr hlk hmn hml hown hts hA hK hE hP hD hS hl
  have hown : s.vm.findClass RJ0 = some m.cls := hown
  have hl : lv_has ls 2 [(0, .ref (aK i)), (1, .int k)] := hl
  have hF : CallFix p m c cJ0_charAt_5068e 2 s ([.ref (aK i), .int k] : List Value).toArray wsJ0_charAt_5068e RJ0 := ⟨hx, hb, hml, hown, hts⟩
  have kw := hts (.fieldLink RJ0 9 "java/lang/String" "value" "[B") (by decide +kernel)
  have hL : lenS.getD i 0 < 40 := (strs_ok i hi).1
  have e2 : narrow .char (.int (chS i k.toNatClampNeg)) = .int (chS i k.toNatClampNeg) := by
    obtain ⟨k0, hk0, e⟩ := vp_in_of (ht_ix_in hk) (by omega)
    rw [e, nI_clamp (by omega)]
    exact ((strs_ok i hi).2 k0 hk0).2
  refine lv_aload_n hx hb dJ0_charAt_5068e_0 rfl (lv_at hl 0 rfl) ?_
  refine ht_gVi (r := 1) (rest := []) (As := []) (wc := []) (wr := []) (w1 := []) (w2 := []) hF (ctJ0_isLatin1 l D K aK aV i hi H.size) (cwV 0 hts gJ0_charAt_5068e_J0_isLatin1_aae02 rfl rfl rfl hdJ0_isLatin1_aae02 ⟨Nat.le_of_ble_eq_true rfl, Nat.le_of_ble_eq_true rfl⟩) hP hD hS hA [] [] rfl rfl (by decide) (by decide) (by decide) [] rfl (by decide) (fun hf hP hD => ht_pvS hK hE hS hf (vk_recv hE.1 hi hS) hP hD) rfl hl.1 rfl (Nat.le_of_ble_eq_true rfl) dJ0_charAt_5068e_1 ⟨Nat.zero_le _, Nat.zero_le _⟩ (fun H locs hP hD hS => ?_)
  refine lv_if_eq (tgt := 16) hx hb dJ0_charAt_5068e_4 (by decide) (fun q => absurd q (by decide)) (fun _ => ?_)
  refine lv_aload_n hx hb dJ0_charAt_5068e_7 rfl (lv_at hl 0 rfl) ?_
  refine vk_getf hx hb (hE.1.1 i hi).2.2.1 hS hown kw (fun _ h => h) dJ0_charAt_5068e_8 ?_
  refine lv_iload_n hx hb dJ0_charAt_5068e_11 rfl (lv_at hl 1 rfl) ?_
  refine ht_gSi (r := chS i k.toNatClampNeg) (rest := []) (As := [.ref (aV i), .int k]) (wc := []) (wr := []) (w1 := []) (w2 := []) hF (ctJ1_charAt l D K aK aV i k hi hk H.size) (va_cwS 2 hts gJ0_charAt_5068e_J1_charAt_3b067 rfl rfl rfl hdJ1c ⟨Nat.le_of_ble_eq_true rfl, Nat.le_of_ble_eq_true rfl⟩) hP hD hS hA [] [] rfl rfl (by decide) (by decide) (by decide) [] rfl (by decide) (fun hf hP hD => ht_psS hK hE hS hf hP hD) rfl hl.1 rfl (Nat.le_of_ble_eq_true rfl) dJ0_charAt_5068e_12 ⟨Nat.zero_le _, Nat.zero_le _⟩ (fun H locs hP hD hS => ?_)
  subst hQ
  exact ht_iret hx hb hr hlk e2 hK hP hD hS dJ0_charAt_5068e_15
theorem hdJ0_charAt_5068e : yJ0_charAt_5068e.cls = RJ0 ∧ yJ0_charAt_5068e.cls ≠ "java/lang/invoke/MethodHandle" ∧ yJ0_charAt_5068e.cls ≠ "java/lang/invoke/VarHandle" ∧ (parseMethodDescriptor yJ0_charAt_5068e.desc).map (fun d => d.parameters.length) = some 1 := by decide +kernel
