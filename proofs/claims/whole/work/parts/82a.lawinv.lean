/-! ===== the whole world of the law, and what holds of it ===== -/
abbrev BW (K : Nat → ClassId) (j : Nat → Nat) (a : Nat → Nat → Nat) (RX : HTV) (RN : TownV) (RU : TownV) (RT : TownV) (RF : TownV) (RP : PairV) (RA : TapeV) (RJ : TellV) (RR : DayV) (RE : DeedV) (RG : AQ) (RY : AI) (RZ : AQ) (RM : ModV) : va_W := (wHT K (j 0) (j 1) (j 2) (j 3) (j 5) (j 6) (j 7) (j 8) (j 9) (j 10) (j 11) (j 12) (j 13) RX.anythingKept ++ (wTr K (j 5) (j 1) (j 3) ++ (wPa K (j 6) (a 6) (j 1) (j 4) RP.sounds RP.mostOfSet ++ (wTa K (j 7) (a 7) RA.bytes RA.length ++ (wTe K (j 8) (j 7) (j 3) RJ.place RJ.sort RJ.value RJ.start ++ (wDr K (j 9) (a 9) (j 1) (j 3) RR.numbers RR.count ++ (wDe K (j 10) (a 10) RE.bodies RE.begun RE.partedByZero RE.kind RE.number RE.voice ++ (wTw K (j 1) (a 1) RN.laws RN.kind RN.need RN.saved RN.voice RN.partner RN.speaks RN.count RN.day RN.heard RN.geese RN.z ++ (wTw K (j 2) (a 2) RU.laws RU.kind RU.need RU.saved RU.voice RU.partner RU.speaks RU.count RU.day RU.heard RU.geese RU.z ++ (wTw K (j 3) (a 3) RT.laws RT.kind RT.need RT.saved RT.voice RT.partner RT.speaks RT.count RT.day RT.heard RT.geese RT.z ++ (wTw K (j 4) (a 4) RF.laws RF.kind RF.need RF.saved RF.voice RF.partner RF.speaks RF.count RF.day RF.heard RF.geese RF.z ++ (wAq K 4 (j 11) RG ++ (wAr K 4 (j 12) RY ++ (wAq K 4 (j 13) RZ ++ (wMo K (j 14) (a 14) RM.s RM.held RM.aside RM.before RM.isHeld RM.tape RM.taped RM.token RM.frm RM.to RM.value RM.isWrong RM.unpaired RM.bestSound RM.bestWay RM.rows RM.rowN RM.sortOf RM.sizeOf RM.numbers RM.holdsWhat RM.holdsWhich RM.holdsMany RM.bodies RM.ran RM.actKind RM.actN RM.actA RM.isParted)))))))))))))))
abbrev RwT : Type := Nat × (Nat → Nat) × RowV
def RWs (K : Nat → ClassId) : List RwT → va_W
  | [] => []
  | r :: rs => wRo K r.1 r.2.1 r.2.2.sort r.2.2.items r.2.2.len ++ RWs K rs
def stL : List RwT → Nat → Option RowV
  | [] => fun _ => none
  | r :: rs => fun i => if i = r.1 then some r.2.2 else stL rs i
def IO (d : Nat) (RX : HTV) (RN RU RF : TownV) (RA : TapeV) (RR : DayV) (RE : DeedV) (RG : AQ) (RY : AI) (RZ : AQ) (RM : ModV) (st : Nat → Option RowV) : Prop := (∃ A, TI A RN RM.s ∧ A.day ≤ d) ∧ KP RX RU RM d ∧ (∃ B, TX B RF ∧ WR B) ∧ RO RR RM ∧ TP RA RM ∧ DE RE RM ∧ SHs RG st RM.sortOf RM.sizeOf RM.numbers ∧ SFs RY RZ st RM.holdsWhat RM.holdsWhich RM.holdsMany
def IN (D : va_G) (K : Nat → ClassId) (j : Nat → Nat) (a : Nat → Nat → Nat) (A : Nat → Prop) (d : Nat) (H : Heap) : Prop := ∃ (RX : HTV) (RN : TownV) (RU : TownV) (RT : TownV) (RF : TownV) (RP : PairV) (RA : TapeV) (RJ : TellV) (RR : DayV) (RE : DeedV) (RG : AQ) (RY : AI) (RZ : AQ) (RM : ModV) (rs : List RwT), IO d RX RN RU RF RA RR RE RG RY RZ RM (stL rs) ∧ va_P D vwCl (BW K j a RX RN RU RT RF RP RA RJ RR RE RG RY RZ RM ++ RWs K rs) H ∧ va_D A (BW K j a RX RN RU RT RF RP RA RJ RR RE RG RY RZ RM ++ RWs K rs)
theorem ht_two {α β γ : Type} {f : Option α} {g : Option β} {x : α} {y : β} {k : α → β → Option γ} {z : Option γ} (e1 : f = some x) (e2 : g = some y) (h : k x y = z) : ht_bn f (fun o1 => ht_bn g (fun o2 => k o1 o2)) = z := by
  subst e1 e2; exact h
theorem ht_go {D : va_G} {H : Heap} {A : Nat → Prop} {B X rest pl : va_W} (hP : va_P D vwCl (B ++ pl) H) (hD : va_D A (B ++ pl)) (is : List Nat) (hn : va_nd is = true) (hs : is.map (fun i => B[i]?) = (X ++ rest).map some) : va_P D vwCl (X ++ (rest ++ pl)) H ∧ va_D A (X ++ (rest ++ pl)) := by
  rw [← List.append_assoc]
  exact ⟨hP.part is hs, hD.part is hn hs⟩
theorem ht_back {D : va_G} {H : Heap} {A : Nat → Prop} {B X rest pl : va_W} (hP : va_P D vwCl (X ++ (rest ++ pl)) H) (hD : va_D A (X ++ (rest ++ pl))) (is : List Nat) (hn : va_nd is = true) (hs : is.map (fun i => (X ++ rest)[i]?) = B.map some) : va_P D vwCl (B ++ pl) H ∧ va_D A (B ++ pl) := by
  rw [← List.append_assoc] at hP hD
  exact ⟨hP.part is hs, hD.part is hn hs⟩
/-- a world is known by its cells and their addresses -/
theorem va_P_mem {D : va_G} {H : Heap} {ws : va_W} : va_P D vwCl ws H ↔ ∀ q ∈ ws, va_at D vwCl q H :=
  ⟨fun h q hq => by obtain ⟨i, hi⟩ := List.getElem?_of_mem hq; exact h i q hi, fun h k q hk => h q (List.mem_of_getElem? hk)⟩
theorem va_D_pw {A : Nat → Prop} {ws : va_W} : va_D A ws ↔ ws.Pairwise (fun p q => p.1 ≠ q.1) ∧ ∀ q ∈ ws, A q.1 := by
  constructor
  · intro h
    refine ⟨List.pairwise_iff_getElem.mpr (fun i k hi hk hik e => ?_), fun q hq => by obtain ⟨i, hi⟩ := List.getElem?_of_mem hq; exact h.2 i q hi⟩
    have := h.1 i k _ _ (List.getElem?_eq_getElem hi) (List.getElem?_eq_getElem hk) e
    omega
  · intro h
    refine ⟨fun i k p q hi hk e => ?_, fun k q hk => h.2 q (List.mem_of_getElem? hk)⟩
    obtain ⟨i1, i2⟩ := List.getElem?_eq_some_iff.mp hi
    obtain ⟨k1, k2⟩ := List.getElem?_eq_some_iff.mp hk
    have hp := List.pairwise_iff_getElem.mp h.1
    rcases Nat.lt_trichotomy i k with x | x | x
    · exact absurd (by rw [i2, k2]; exact e) (hp i k i1 k1 x)
    · exact x
    · exact absurd (by rw [i2, k2]; exact e.symm) (hp k i k1 i1 x)
theorem ht_pm {D : va_G} {H : Heap} {A : Nat → Prop} {w1 w2 : va_W} (e : w1.Perm w2) (hP : va_P D vwCl w1 H) (hD : va_D A w1) : va_P D vwCl w2 H ∧ va_D A w2 :=
  ⟨va_P_mem.mpr (fun q hq => va_P_mem.mp hP q (e.mem_iff.mpr hq)), va_D_pw.mpr ⟨(e.pairwise_iff (fun h x => h x.symm)).mp (va_D_pw.mp hD).1, fun q hq => (va_D_pw.mp hD).2 q (e.mem_iff.mpr hq)⟩⟩
theorem RWs_app {K : Nat → ClassId} (l1 l2 : List RwT) : RWs K (l1 ++ l2) = RWs K l1 ++ RWs K l2 := by
  induction l1 with
  | nil => rfl
  | cons r l ih =>
    show wRo K r.1 r.2.1 r.2.2.sort r.2.2.items r.2.2.len ++ RWs K (l ++ l2) = (wRo K r.1 r.2.1 r.2.2.sort r.2.2.items r.2.2.len ++ RWs K l) ++ RWs K l2
    rw [ih, List.append_assoc]
theorem ht_out {D : va_G} {K : Nat → ClassId} {H : Heap} {A : Nat → Prop} {B : va_W} {l1 l2 : List RwT} {r : RwT} (hP : va_P D vwCl (B ++ RWs K (l1 ++ r :: l2)) H) (hD : va_D A (B ++ RWs K (l1 ++ r :: l2))) : va_P D vwCl ((B ++ wRo K r.1 r.2.1 r.2.2.sort r.2.2.items r.2.2.len) ++ RWs K (l1 ++ l2)) H ∧ va_D A ((B ++ wRo K r.1 r.2.1 r.2.2.sort r.2.2.items r.2.2.len) ++ RWs K (l1 ++ l2)) := by
  refine ht_pm ?_ hP hD
  rw [RWs_app, RWs_app, List.append_assoc]
  refine List.Perm.append_left B ?_
  show (RWs K l1 ++ (wRo K r.1 r.2.1 r.2.2.sort r.2.2.items r.2.2.len ++ RWs K l2)).Perm _
  rw [← List.append_assoc, ← List.append_assoc]
  exact List.Perm.append_right _ List.perm_append_comm
theorem ht_in {D : va_G} {K : Nat → ClassId} {H : Heap} {A : Nat → Prop} {B : va_W} {l1 l2 : List RwT} {r : RwT} (hP : va_P D vwCl ((B ++ wRo K r.1 r.2.1 r.2.2.sort r.2.2.items r.2.2.len) ++ RWs K (l1 ++ l2)) H) (hD : va_D A ((B ++ wRo K r.1 r.2.1 r.2.2.sort r.2.2.items r.2.2.len) ++ RWs K (l1 ++ l2))) : va_P D vwCl (B ++ RWs K (l1 ++ r :: l2)) H ∧ va_D A (B ++ RWs K (l1 ++ r :: l2)) := by
  refine ht_pm (List.Perm.symm ?_) hP hD
  rw [RWs_app, RWs_app, List.append_assoc]
  refine List.Perm.append_left B ?_
  show (RWs K l1 ++ (wRo K r.1 r.2.1 r.2.2.sort r.2.2.items r.2.2.len ++ RWs K l2)).Perm _
  rw [← List.append_assoc, ← List.append_assoc]
  exact List.Perm.append_right _ List.perm_append_comm
theorem stL_at : ∀ {rs : List RwT} {i : Nat} {W : RowV}, stL rs i = some W → ∃ (l1 l2 : List RwT) (aW : Nat → Nat), rs = l1 ++ (i, aW, W) :: l2 ∧ ∀ r ∈ l1, r.1 ≠ i
  | [], i, W, h => by cases h
  | r :: rs, i, W, h => by
    by_cases x : i = r.1
    · have h' : some r.2.2 = some W := (if_pos x).symm.trans h
      refine ⟨[], rs, r.2.1, ?_, fun q hq => absurd hq List.not_mem_nil⟩
      subst x
      rw [← Option.some.inj h']
      rfl
    · have h' : stL rs i = some W := (if_neg x).symm.trans h
      obtain ⟨l1, l2, aW, e, hl⟩ := stL_at h'
      refine ⟨r :: l1, l2, aW, by rw [e]; rfl, fun q hq => ?_⟩
      rcases List.mem_cons.mp hq with y | y
      · rw [y]; exact fun z => x z.symm
      · exact hl q y
theorem stL_s : ∀ {l1 l2 : List RwT} {r : RwT}, (∀ q ∈ l1, q.1 ≠ r.1) → stL (l1 ++ r :: l2) r.1 = some r.2.2
  | [], l2, r, _ => if_pos rfl
  | q :: l1, l2, r, h => (if_neg (fun z => h q List.mem_cons_self z.symm)).trans (stL_s (l1 := l1) (fun q' hq => h q' (List.mem_cons_of_mem _ hq)))
theorem stL_n : ∀ {l1 l2 : List RwT} {r r' : RwT} {i : Nat}, r.1 = r'.1 → i ≠ r.1 → stL (l1 ++ r :: l2) i = stL (l1 ++ r' :: l2) i
  | [], l2, r, r', i, e, h => (if_neg h).trans (if_neg (fun z => h (z.trans e.symm))).symm
  | q :: l1, l2, r, r', i, e, h => by
    show (if i = q.1 then some q.2.2 else stL (l1 ++ r :: l2) i) = (if i = q.1 then some q.2.2 else stL (l1 ++ r' :: l2) i)
    rw [stL_n (l1 := l1) e h]
theorem stL_no {K : Nat → ClassId} : ∀ {rs : List RwT} {i : Nat}, (∀ q ∈ RWs K rs, q.1 ≠ i) → stL rs i = none
  | [], i, _ => rfl
  | r :: rs, i, h => (if_neg (fun z => h _ List.mem_cons_self z.symm)).trans (stL_no (K := K) (rs := rs) (fun q hq => h q (List.mem_append_right _ hq)))
theorem SFs.st {Y : AI} {Z : AQ} {st st' : Nat → Option RowV} {hw hi hm : AI} (h : SFs Y Z st hw hi hm) (e : ∀ i W, st i = some W → ∃ W', st' i = some W' ∧ W'.sort = W.sort ∧ W'.len = W.len) : SFs Y Z st' hw hi hm := by
  intro t ht
  rcases h t ht with x | x | ⟨i, W, q, x1, x2, x3, x4, x5, x6, x7, x8, x9⟩
  · exact Or.inl x
  · exact Or.inr (Or.inl x)
  · obtain ⟨W', e1, e2, e3⟩ := e i W x2
    exact Or.inr (Or.inr ⟨i, W', q, x1, e1, x3, x4, e2.trans x5, x6, x7, by rw [e3]; exact x8, by rw [e3]; exact x9⟩)
theorem SHs.put {G : AQ} {st st' : Nat → Option RowV} {so sz nu nu' : AI} {t i q : Nat} {W' : RowV} (h : SHs G st so sz nu) (ht : t < 4) (hG : G t = some i) (hst : ∀ k, k ≠ i → st' k = st k) (hi : st' i = some W') (hr : SHr W' q so sz nu' t) (hnu : ∀ k, (k < 40 * t ∨ 40 * t + 40 ≤ k) → nu' k = nu k) : SHs G st' so sz nu' := by
  have e : va_up G t (some i) = G := funext (fun k => by
    by_cases x : k = t
    · rw [x, up_s]; exact hG.symm
    · exact up_n _ _ x)
  rw [← e]
  refine h.to ht (fun _ _ => rfl) (fun _ _ => rfl) hnu (fun u k hu hut hg => hst k (fun x => ?_)) (fun u k hu hut hg x => ?_) (Or.inr ⟨i, W', q, by rw [e]; exact hG, hi, hr⟩)
  · rw [x] at hg; exact hut (h.2 u t i hu ht hg hG)
  · rw [← Option.some.inj x] at hg; exact hut (h.2 u t i hu ht hg hG)
theorem KP.up {RX : HTV} {U : TownV} {RM : ModV} {d d' : Nat} (h : KP RX U RM d) (hd : d ≤ d') : KP RX U RM d' := by
  rcases h with x | ⟨x, y, B, z, w⟩
  · exact Or.inl x
  · exact Or.inr ⟨x, y, B, z, Nat.le_trans w hd⟩
theorem stL_cn {r : RwT} {rs : List RwT} {i : Nat} (h : i ≠ r.1) : stL (r :: rs) i = stL rs i := if_neg h
theorem stL_cs (r : RwT) (rs : List RwT) : stL (r :: rs) r.1 = some r.2.2 := if_pos rfl
theorem stL_keep {l1 l2 : List RwT} {jW : Nat} {aW : Nat → Nat} {W1 W2 : RowV} (hl : ∀ q ∈ l1, q.1 ≠ jW) (e1 : W2.sort = W1.sort) (e2 : W2.len = W1.len) : ∀ i W, stL (l1 ++ (jW, aW, W1) :: l2) i = some W → ∃ W', stL (l1 ++ (jW, aW, W2) :: l2) i = some W' ∧ W'.sort = W.sort ∧ W'.len = W.len := by
  intro i W h
  by_cases x : i = jW
  · subst x
    have h2 := (stL_s (r := (i, aW, W1)) (l2 := l2) hl).symm.trans h
    refine ⟨W2, stL_s (r := (i, aW, W2)) hl, ?_⟩
    rw [← Option.some.inj h2]; exact ⟨e1, e2⟩
  · exact ⟨W, (stL_n (r := (jW, aW, W2)) (r' := (jW, aW, W1)) rfl x).trans h, rfl, rfl⟩
theorem ht_apart {A : Nat → Prop} {B w R : va_W} {x q0 : Nat × va_E} (h : va_D A ((B ++ (x :: w)) ++ R)) (hq : q0 ∈ R) (z : q0.1 = x.1) : False := by
  obtain ⟨i, hi⟩ := List.getElem?_of_mem hq
  have h1 : ((B ++ (x :: w)) ++ R)[(B ++ (x :: w)).length + i]? = some q0 := by
    rw [List.getElem?_append_right (Nat.le_add_right _ _), Nat.add_sub_cancel_left]; exact hi
  have h2 : ((B ++ (x :: w)) ++ R)[B.length]? = some x := by
    rw [List.getElem?_append_left (by rw [List.length_append, List.length_cons]; omega), List.getElem?_append_right (Nat.le_refl _), Nat.sub_self]; rfl
  have h3 := h.1 _ _ _ _ h1 h2 z
  rw [List.length_append, List.length_cons] at h3
  omega
theorem sh_split {G : AQ} {st : Nat → Option RowV} {so sz nu : AI} (h : SHs G st so sz nu) (y : Int32) : (∀ t, t < 4 → y = nI t → G t = none ∧ so t = -1) ∨ (∃ (t i : Nat) (W : RowV) (q : Nat), t < 4 ∧ y = nI t ∧ G t = some i ∧ st i = some W ∧ SHr W q so sz nu t) := by
  by_cases x : ∃ t, t < 4 ∧ y = nI t
  · obtain ⟨t, ht, e⟩ := x
    rcases h.1 t ht with y1 | ⟨i, W, q, g1, g2, g3⟩
    · refine Or.inl (fun u hu e2 => ?_)
      have : u = t := (z_eq (by omega) (by omega)).mp (e2.symm.trans e)
      rw [this]; exact y1
    · exact Or.inr ⟨t, i, W, q, ht, e, g1, g2, g3⟩
  · exact Or.inl (fun t ht e => absurd ⟨t, ht, e⟩ x)
theorem sf_split {Y : AI} {Z : AQ} {st : Nat → Option RowV} {hw hi hm : AI} (h : SFs Y Z st hw hi hm) (y : Int32) : (∀ t, t < 4 → y = nI t → Z t = none) ∨ (∃ (t i : Nat) (W : RowV) (q : Nat), t < 4 ∧ y = nI t ∧ Z t = some i ∧ st i = some W ∧ hw t = 2 ∧ W.sort = nI q ∧ q ≤ 3 ∧ hi t = nI q ∧ hm t = nI W.len) := by
  by_cases x : ∃ t, t < 4 ∧ y = nI t
  · obtain ⟨t, ht, e⟩ := x
    have u1 : ∀ u, u < 4 → y = nI u → u = t := fun u hu e2 => (z_eq (by omega) (by omega)).mp (e2.symm.trans e)
    rcases h t ht with y1 | ⟨n, -, y1, -⟩ | ⟨i, W, q, g1, g2, g3, g4, g5, g6, g7, g8, g9⟩
    · exact Or.inl (fun u hu e2 => by rw [u1 u hu e2]; exact y1.1)
    · exact Or.inl (fun u hu e2 => by rw [u1 u hu e2]; exact y1)
    · exact Or.inr ⟨t, i, W, q, ht, e, g1, g2, g4, g5, g6, g7, g9⟩
  · exact Or.inl (fun t ht e => absurd ⟨t, ht, e⟩ x)
