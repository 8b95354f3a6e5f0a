/-! ===== calls over cells, with others beside them ===== -/
theorem ht_left {X pl wc : va_W} : ∀ {is : List Nat}, is.map (fun i => X[i]?) = wc.map some → is.map (fun i => (X ++ pl)[i]?) = wc.map some := by
  intro is h
  rw [← h]
  refine List.map_congr_left (fun i hi => ?_)
  have h1 : X[i]? ∈ wc.map some := by rw [← h]; exact List.mem_map_of_mem hi
  obtain ⟨q, -, e⟩ := List.mem_map.mp h1
  have h2 : i < X.length := (List.getElem?_eq_some_iff.mp e.symm).1
  exact List.getElem?_append_left h2
section
variable {p : Program} {l : Launch} {e : Env} {R : Room} {s : State} {m : MethodId} {args : Array Value} {below : List Frame} {meth : Method} {c : Code} {H : Heap} {locs : List Loc} {cells slots : Nat} {Q : State → Prop} {cc : ByteArray} {pc : Nat} {ls : Array Slot} {rest : List Value} {D : va_G} {K : Nat → ClassId} {A : Nat → Prop}
variable {own C : String} {index n nL maxL mc ms : Nat} {y : MethodName} {bytes : ByteArray} {ret : Option FieldType} {Ts wy : List Cond} {rm : Room} {b : Nat} {As st : List Value} {X X2 wc wr w1 pl : va_W} {Pc : Array Value → State → Prop}
theorem ht_pVi {r : Int32} (F : CallFix p m c cc nL s args Ts own) (hM : Met l y wy rm Pc (ht_Qi D K w1 r (va_A wc H.size)) mc ms (va_A wc H.size)) (cw : CallW R s args own C index y bytes maxL ret wy rm mc ms n)
    (hP : va_P D vwCl (X ++ pl) H) (hD : va_D A (X ++ pl)) (hS : va_S A s.heap H locs) (hA : ∀ q : Nat, s.heap.size ≤ q → A q) (isC isR : List Nat) (hC : isC.map (fun i => X[i]?) = wc.map some) (hR : isR.map (fun i => X[i]?) = wr.map some) (hnC : va_nd isC = true) (hnR : va_nd isR = true) (hdis : ∀ i ∈ isR, i ∉ isC) (pm : List Nat) (hpm : pm.map (fun i => (wr ++ w1)[i]?) = X2.map some) (hnp : va_nd pm = true)
    (hpre : (∀ q, va_A wc H.size q → A q) → va_P D vwCl wc H → va_D A wc → PreV s H C b Pc As) (hn : As.length = n) (hsize : ls.size = nL) (hst : st = As.reverse ++ .ref b :: rest) (hrm : (rest.map fun v => v.category).sum ≤ 8) (hdg : decode cc pc = .ok (.invokevirtual index, 3)) (hf : cells + mc ≤ R.cells ∧ slots + ms ≤ R.slots)
    (kk : ∀ (H1 : Heap) (locs1 : List Loc), va_P D vwCl (X2 ++ pl) H1 → va_D A (X2 ++ pl) → va_S A s.heap H1 locs1 → W p l e R s m args below meth c H1 locs1 (cells + mc) (slots + ms) Q (F0 m (pc + 3) ls (.int r :: rest))) :
    W p l e R s m args below meth c H locs cells slots Q (F0 m pc ls st) := by
  have hC2 := ht_left (pl := pl) hC
  have hFc := va_free (wc := wc) hD hS hA isC hC2
  refine va_calli (va_runV (As := As) (rest := rest) F hM cw (hpre hFc (hP.sub isC (ht_pick hC2)) (hD.sub isC hnC hC2)) rfl hn hsize hst (lv_room hrm) hdg hf) hS (fun q _ h => hFc q h) hFc (fun r' u t H1 locs1 ht hvm hw hB hz1 hk1 hS1 => ?_)
  obtain ⟨hP1, hK1, hD1⟩ := hB
  rw [ht] at hP1
  obtain ⟨hP2, hD2⟩ := va_joinQ hP hD isC isR hC hR hnR hdis hk1 hFc hP1 hD1
  subst hw
  exact kk H1 locs1 (hP2.part pm hpm) (hD2.part pm hnp hpm) hS1
theorem ht_pVl {r : Int64} (F : CallFix p m c cc nL s args Ts own) (hM : Met l y wy rm Pc (ht_Ql D K w1 r (va_A wc H.size)) mc ms (va_A wc H.size)) (cw : CallW R s args own C index y bytes maxL ret wy rm mc ms n)
    (hP : va_P D vwCl (X ++ pl) H) (hD : va_D A (X ++ pl)) (hS : va_S A s.heap H locs) (hA : ∀ q : Nat, s.heap.size ≤ q → A q) (isC isR : List Nat) (hC : isC.map (fun i => X[i]?) = wc.map some) (hR : isR.map (fun i => X[i]?) = wr.map some) (hnC : va_nd isC = true) (hnR : va_nd isR = true) (hdis : ∀ i ∈ isR, i ∉ isC) (pm : List Nat) (hpm : pm.map (fun i => (wr ++ w1)[i]?) = X2.map some) (hnp : va_nd pm = true)
    (hpre : (∀ q, va_A wc H.size q → A q) → va_P D vwCl wc H → va_D A wc → PreV s H C b Pc As) (hn : As.length = n) (hsize : ls.size = nL) (hst : st = As.reverse ++ .ref b :: rest) (hrm : (rest.map fun v => v.category).sum ≤ 8) (hdg : decode cc pc = .ok (.invokevirtual index, 3)) (hf : cells + mc ≤ R.cells ∧ slots + ms ≤ R.slots)
    (kk : ∀ (H1 : Heap) (locs1 : List Loc), va_P D vwCl (X2 ++ pl) H1 → va_D A (X2 ++ pl) → va_S A s.heap H1 locs1 → W p l e R s m args below meth c H1 locs1 (cells + mc) (slots + ms) Q (F0 m (pc + 3) ls (.long r :: rest))) :
    W p l e R s m args below meth c H locs cells slots Q (F0 m pc ls st) := by
  have hC2 := ht_left (pl := pl) hC
  have hFc := va_free (wc := wc) hD hS hA isC hC2
  refine va_calll (va_runV (As := As) (rest := rest) F hM cw (hpre hFc (hP.sub isC (ht_pick hC2)) (hD.sub isC hnC hC2)) rfl hn hsize hst (lv_room hrm) hdg hf) hS (fun q _ h => hFc q h) hFc (fun r' u t H1 locs1 ht hvm hw hB hz1 hk1 hS1 => ?_)
  obtain ⟨hP1, hK1, hD1⟩ := hB
  rw [ht] at hP1
  obtain ⟨hP2, hD2⟩ := va_joinQ hP hD isC isR hC hR hnR hdis hk1 hFc hP1 hD1
  subst hw
  exact kk H1 locs1 (hP2.part pm hpm) (hD2.part pm hnp hpm) hS1
theorem ht_pVm {S : Type} {w1 X2 : S → va_W} {r : Int32} (F : CallFix p m c cc nL s args Ts own) (hM : Met l y wy rm Pc (ht_Qm D K w1 r (va_A wc H.size)) mc ms (va_A wc H.size)) (cw : CallW R s args own C index y bytes maxL ret wy rm mc ms n)
    (hP : va_P D vwCl (X ++ pl) H) (hD : va_D A (X ++ pl)) (hS : va_S A s.heap H locs) (hA : ∀ q : Nat, s.heap.size ≤ q → A q) (isC isR : List Nat) (hC : isC.map (fun i => X[i]?) = wc.map some) (hR : isR.map (fun i => X[i]?) = wr.map some) (hnC : va_nd isC = true) (hnR : va_nd isR = true) (hdis : ∀ i ∈ isR, i ∉ isC) (pm : List Nat) (hpm : ∀ u, pm.map (fun i => (wr ++ w1 u)[i]?) = (X2 u).map some) (hnp : va_nd pm = true)
    (hpre : (∀ q, va_A wc H.size q → A q) → va_P D vwCl wc H → va_D A wc → PreV s H C b Pc As) (hn : As.length = n) (hsize : ls.size = nL) (hst : st = As.reverse ++ .ref b :: rest) (hrm : (rest.map fun v => v.category).sum ≤ 8) (hdg : decode cc pc = .ok (.invokevirtual index, 3)) (hf : cells + mc ≤ R.cells ∧ slots + ms ≤ R.slots)
    (kk : ∀ (u : S) (H1 : Heap) (locs1 : List Loc), va_P D vwCl (X2 u ++ pl) H1 → va_D A (X2 u ++ pl) → va_S A s.heap H1 locs1 → W p l e R s m args below meth c H1 locs1 (cells + mc) (slots + ms) Q (F0 m (pc + 3) ls (.int r :: rest))) :
    W p l e R s m args below meth c H locs cells slots Q (F0 m pc ls st) := by
  have hC2 := ht_left (pl := pl) hC
  have hFc := va_free (wc := wc) hD hS hA isC hC2
  refine va_calli (va_runV (As := As) (rest := rest) F hM cw (hpre hFc (hP.sub isC (ht_pick hC2)) (hD.sub isC hnC hC2)) rfl hn hsize hst (lv_room hrm) hdg hf) hS (fun q _ h => hFc q h) hFc (fun r' u t H1 locs1 ht hvm hw hB hz1 hk1 hS1 => ?_)
  obtain ⟨hP1, hK1, hD1⟩ := hB
  rw [ht] at hP1
  obtain ⟨hP2, hD2⟩ := va_joinQ hP hD isC isR hC hR hnR hdis hk1 hFc hP1 hD1
  subst hw
  exact kk u H1 locs1 (hP2.part pm (hpm u)) (hD2.part pm hnp (hpm u)) hS1
end
