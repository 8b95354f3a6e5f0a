/-! ===== changes of a town in plain numbers ===== -/
abbrev Tn.wlaw (A : Tn) (f : Nat → Nat) : Tn := (A.n, f, A.kd, A.nd, A.sv, A.vc, A.pr, A.sp, A.day, A.hrd, A.gs, A.z)
abbrev Tn.wkd (A : Tn) (f : Nat → Nat) : Tn := (A.n, A.law, f, A.nd, A.sv, A.vc, A.pr, A.sp, A.day, A.hrd, A.gs, A.z)
abbrev Tn.wnd (A : Tn) (f : Nat → Nat) : Tn := (A.n, A.law, A.kd, f, A.sv, A.vc, A.pr, A.sp, A.day, A.hrd, A.gs, A.z)
abbrev Tn.wsv (A : Tn) (f : Nat → Nat) : Tn := (A.n, A.law, A.kd, A.nd, f, A.vc, A.pr, A.sp, A.day, A.hrd, A.gs, A.z)
abbrev Tn.wvc (A : Tn) (f : Nat → Nat) : Tn := (A.n, A.law, A.kd, A.nd, A.sv, f, A.pr, A.sp, A.day, A.hrd, A.gs, A.z)
abbrev Tn.wpr (A : Tn) (f : Nat → Nat) : Tn := (A.n, A.law, A.kd, A.nd, A.sv, A.vc, f, A.sp, A.day, A.hrd, A.gs, A.z)
abbrev Tn.wsp (A : Tn) (f : Nat → Nat) : Tn := (A.n, A.law, A.kd, A.nd, A.sv, A.vc, A.pr, f, A.day, A.hrd, A.gs, A.z)
abbrev Tn.wday (A : Tn) (v : Nat) : Tn := (A.n, A.law, A.kd, A.nd, A.sv, A.vc, A.pr, A.sp, v, A.hrd, A.gs, A.z)
abbrev Tn.whrd (A : Tn) (v : Nat) : Tn := (A.n, A.law, A.kd, A.nd, A.sv, A.vc, A.pr, A.sp, A.day, v, A.gs, A.z)
abbrev Tn.wgs (A : Tn) (v : Nat) : Tn := (A.n, A.law, A.kd, A.nd, A.sv, A.vc, A.pr, A.sp, A.day, A.hrd, v, A.z)
abbrev Tn.wz (A : Tn) (v : Int32) : Tn := (A.n, A.law, A.kd, A.nd, A.sv, A.vc, A.pr, A.sp, A.day, A.hrd, A.gs, v)
theorem up_s {α : Type} (f : Nat → α) (k : Nat) (v : α) : va_up f k v k = v := va_up_self f k v
theorem up_n {α : Type} (f : Nat → α) {k j : Nat} (v : α) (h : j ≠ k) : va_up f k v j = f j := va_up_ne f v h
/-! the reference's row, a place changed -/
theorem TM.nd {A : Tn} {s : AI} {k v : Nat} (h : TM A s) (hk : k < A.n) : TM (A.wnd (va_up A.nd k v)) (upd s (9 + 6 * k + 1) (nI v)) := by
  obtain ⟨h0, h1, h3, h4, h2, hl, hkd, hnd, hsv, hvc, hpr, hsp⟩ := h
  refine ⟨(pk_un (by omega)).trans h0, (pk_un (by omega)).trans h1, (pk_un (by omega)).trans h3, (pk_un (by omega)).trans h4, (pk_un (by omega)).trans h2, fun i hi => (pk_un (by omega)).trans (hl i hi), fun i hi => (pk_un (by omega)).trans (hkd i hi), fun i hi => ?_, fun i hi => (pk_un (by omega)).trans (hsv i hi), fun i hi => (pk_un (by omega)).trans (hvc i hi), fun i hi => (pk_un (by omega)).trans (hpr i hi), fun i hi => (pk_un (by omega)).trans (hsp i hi)⟩
  show upd s (9 + 6 * k + 1) (nI v) (9 + 6 * i + 1) = nI (va_up A.nd k v i)
  by_cases e : i = k
  · subst e; rw [pk_us, up_s]
  · rw [pk_un (by omega), up_n _ _ e]; exact hnd i hi
theorem TM.sv {A : Tn} {s : AI} {k v : Nat} (h : TM A s) (hk : k < A.n) : TM (A.wsv (va_up A.sv k v)) (upd s (9 + 6 * k + 2) (nI v)) := by
  obtain ⟨h0, h1, h3, h4, h2, hl, hkd, hnd, hsv, hvc, hpr, hsp⟩ := h
  refine ⟨(pk_un (by omega)).trans h0, (pk_un (by omega)).trans h1, (pk_un (by omega)).trans h3, (pk_un (by omega)).trans h4, (pk_un (by omega)).trans h2, fun i hi => (pk_un (by omega)).trans (hl i hi), fun i hi => (pk_un (by omega)).trans (hkd i hi), fun i hi => (pk_un (by omega)).trans (hnd i hi), fun i hi => ?_, fun i hi => (pk_un (by omega)).trans (hvc i hi), fun i hi => (pk_un (by omega)).trans (hpr i hi), fun i hi => (pk_un (by omega)).trans (hsp i hi)⟩
  show upd s (9 + 6 * k + 2) (nI v) (9 + 6 * i + 2) = nI (va_up A.sv k v i)
  by_cases e : i = k
  · subst e; rw [pk_us, up_s]
  · rw [pk_un (by omega), up_n _ _ e]; exact hsv i hi
theorem TM.kd {A : Tn} {s : AI} {k v : Nat} (h : TM A s) (hk : k < A.n) : TM (A.wkd (va_up A.kd k v)) (upd s (9 + 6 * k) (nI v)) := by
  obtain ⟨h0, h1, h3, h4, h2, hl, hkd, hnd, hsv, hvc, hpr, hsp⟩ := h
  refine ⟨(pk_un (by omega)).trans h0, (pk_un (by omega)).trans h1, (pk_un (by omega)).trans h3, (pk_un (by omega)).trans h4, (pk_un (by omega)).trans h2, fun i hi => (pk_un (by omega)).trans (hl i hi), fun i hi => ?_, fun i hi => (pk_un (by omega)).trans (hnd i hi), fun i hi => (pk_un (by omega)).trans (hsv i hi), fun i hi => (pk_un (by omega)).trans (hvc i hi), fun i hi => (pk_un (by omega)).trans (hpr i hi), fun i hi => (pk_un (by omega)).trans (hsp i hi)⟩
  show upd s (9 + 6 * k) (nI v) (9 + 6 * i) = nI (va_up A.kd k v i)
  by_cases e : i = k
  · subst e; rw [pk_us, up_s]
  · rw [pk_un (by omega), up_n _ _ e]; exact hkd i hi
theorem TM.vc {A : Tn} {s : AI} {k v : Nat} (h : TM A s) (hk : k < A.n) : TM (A.wvc (va_up A.vc k v)) (upd s (9 + 6 * k + 3) (nI v)) := by
  obtain ⟨h0, h1, h3, h4, h2, hl, hkd, hnd, hsv, hvc, hpr, hsp⟩ := h
  refine ⟨(pk_un (by omega)).trans h0, (pk_un (by omega)).trans h1, (pk_un (by omega)).trans h3, (pk_un (by omega)).trans h4, (pk_un (by omega)).trans h2, fun i hi => (pk_un (by omega)).trans (hl i hi), fun i hi => (pk_un (by omega)).trans (hkd i hi), fun i hi => (pk_un (by omega)).trans (hnd i hi), fun i hi => (pk_un (by omega)).trans (hsv i hi), fun i hi => ?_, fun i hi => (pk_un (by omega)).trans (hpr i hi), fun i hi => (pk_un (by omega)).trans (hsp i hi)⟩
  show upd s (9 + 6 * k + 3) (nI v) (9 + 6 * i + 3) = nI (va_up A.vc k v i)
  by_cases e : i = k
  · subst e; rw [pk_us, up_s]
  · rw [pk_un (by omega), up_n _ _ e]; exact hvc i hi
theorem TM.pr {A : Tn} {s : AI} {k v : Nat} (h : TM A s) (hk : k < A.n) : TM (A.wpr (va_up A.pr k v)) (upd s (9 + 6 * k + 4) (nI v)) := by
  obtain ⟨h0, h1, h3, h4, h2, hl, hkd, hnd, hsv, hvc, hpr, hsp⟩ := h
  refine ⟨(pk_un (by omega)).trans h0, (pk_un (by omega)).trans h1, (pk_un (by omega)).trans h3, (pk_un (by omega)).trans h4, (pk_un (by omega)).trans h2, fun i hi => (pk_un (by omega)).trans (hl i hi), fun i hi => (pk_un (by omega)).trans (hkd i hi), fun i hi => (pk_un (by omega)).trans (hnd i hi), fun i hi => (pk_un (by omega)).trans (hsv i hi), fun i hi => (pk_un (by omega)).trans (hvc i hi), fun i hi => ?_, fun i hi => (pk_un (by omega)).trans (hsp i hi)⟩
  show upd s (9 + 6 * k + 4) (nI v) (9 + 6 * i + 4) = nI (va_up A.pr k v i)
  by_cases e : i = k
  · subst e; rw [pk_us, up_s]
  · rw [pk_un (by omega), up_n _ _ e]; exact hpr i hi
theorem TM.sp {A : Tn} {s : AI} {k v : Nat} (h : TM A s) (hk : k < A.n) : TM (A.wsp (va_up A.sp k v)) (upd s (9 + 6 * k + 5) (nI v)) := by
  obtain ⟨h0, h1, h3, h4, h2, hl, hkd, hnd, hsv, hvc, hpr, hsp⟩ := h
  refine ⟨(pk_un (by omega)).trans h0, (pk_un (by omega)).trans h1, (pk_un (by omega)).trans h3, (pk_un (by omega)).trans h4, (pk_un (by omega)).trans h2, fun i hi => (pk_un (by omega)).trans (hl i hi), fun i hi => (pk_un (by omega)).trans (hkd i hi), fun i hi => (pk_un (by omega)).trans (hnd i hi), fun i hi => (pk_un (by omega)).trans (hsv i hi), fun i hi => (pk_un (by omega)).trans (hvc i hi), fun i hi => (pk_un (by omega)).trans (hpr i hi), fun i hi => ?_⟩
  show upd s (9 + 6 * k + 5) (nI v) (9 + 6 * i + 5) = nI (va_up A.sp k v i)
  by_cases e : i = k
  · subst e; rw [pk_us, up_s]
  · rw [pk_un (by omega), up_n _ _ e]; exact hsp i hi
theorem TM.gs {A : Tn} {s : AI} {v : Nat} (h : TM A s) : TM (A.wgs v) (upd s 4 (nI v)) := by
  obtain ⟨h0, h1, h3, h4, h2, hl, hkd, hnd, hsv, hvc, hpr, hsp⟩ := h
  exact ⟨(pk_un (by omega)).trans h0, (pk_un (by omega)).trans h1, (pk_un (by omega)).trans h3, pk_us, (pk_un (by omega)).trans h2, fun i hi => (pk_un (by omega)).trans (hl i hi), fun i hi => (pk_un (by omega)).trans (hkd i hi), fun i hi => (pk_un (by omega)).trans (hnd i hi), fun i hi => (pk_un (by omega)).trans (hsv i hi), fun i hi => (pk_un (by omega)).trans (hvc i hi), fun i hi => (pk_un (by omega)).trans (hpr i hi), fun i hi => (pk_un (by omega)).trans (hsp i hi)⟩
theorem TM.hrd {A : Tn} {s : AI} {v : Nat} (h : TM A s) : TM (A.whrd v) (upd s 3 (nI v)) := by
  obtain ⟨h0, h1, h3, h4, h2, hl, hkd, hnd, hsv, hvc, hpr, hsp⟩ := h
  exact ⟨(pk_un (by omega)).trans h0, (pk_un (by omega)).trans h1, pk_us, (pk_un (by omega)).trans h4, (pk_un (by omega)).trans h2, fun i hi => (pk_un (by omega)).trans (hl i hi), fun i hi => (pk_un (by omega)).trans (hkd i hi), fun i hi => (pk_un (by omega)).trans (hnd i hi), fun i hi => (pk_un (by omega)).trans (hsv i hi), fun i hi => (pk_un (by omega)).trans (hvc i hi), fun i hi => (pk_un (by omega)).trans (hpr i hi), fun i hi => (pk_un (by omega)).trans (hsp i hi)⟩
theorem TM.day {A : Tn} {s : AI} {v : Nat} (h : TM A s) : TM (A.wday v) (upd s 1 (nI v)) := by
  obtain ⟨h0, h1, h3, h4, h2, hl, hkd, hnd, hsv, hvc, hpr, hsp⟩ := h
  exact ⟨(pk_un (by omega)).trans h0, pk_us, (pk_un (by omega)).trans h3, (pk_un (by omega)).trans h4, (pk_un (by omega)).trans h2, fun i hi => (pk_un (by omega)).trans (hl i hi), fun i hi => (pk_un (by omega)).trans (hkd i hi), fun i hi => (pk_un (by omega)).trans (hnd i hi), fun i hi => (pk_un (by omega)).trans (hsv i hi), fun i hi => (pk_un (by omega)).trans (hvc i hi), fun i hi => (pk_un (by omega)).trans (hpr i hi), fun i hi => (pk_un (by omega)).trans (hsp i hi)⟩
theorem TM.z {A : Tn} {s : AI} {v : Int32} (h : TM A s) : TM (A.wz v) (upd s 2 v) := by
  obtain ⟨h0, h1, h3, h4, h2, hl, hkd, hnd, hsv, hvc, hpr, hsp⟩ := h
  exact ⟨(pk_un (by omega)).trans h0, (pk_un (by omega)).trans h1, (pk_un (by omega)).trans h3, (pk_un (by omega)).trans h4, pk_us, fun i hi => (pk_un (by omega)).trans (hl i hi), fun i hi => (pk_un (by omega)).trans (hkd i hi), fun i hi => (pk_un (by omega)).trans (hnd i hi), fun i hi => (pk_un (by omega)).trans (hsv i hi), fun i hi => (pk_un (by omega)).trans (hvc i hi), fun i hi => (pk_un (by omega)).trans (hpr i hi), fun i hi => (pk_un (by omega)).trans (hsp i hi)⟩
theorem TM.law {A : Tn} {s : AI} {k v : Nat} (h : TM A s) (hk : k < 4) : TM (A.wlaw (va_up A.law k v)) (upd s (5 + k) (nI v)) := by
  obtain ⟨h0, h1, h3, h4, h2, hl, hkd, hnd, hsv, hvc, hpr, hsp⟩ := h
  refine ⟨(pk_un (by omega)).trans h0, (pk_un (by omega)).trans h1, (pk_un (by omega)).trans h3, (pk_un (by omega)).trans h4, (pk_un (by omega)).trans h2, fun i hi => ?_, fun i hi => (pk_un (by omega)).trans (hkd i hi), fun i hi => (pk_un (by omega)).trans (hnd i hi), fun i hi => (pk_un (by omega)).trans (hsv i hi), fun i hi => (pk_un (by omega)).trans (hvc i hi), fun i hi => (pk_un (by omega)).trans (hpr i hi), fun i hi => (pk_un (by omega)).trans (hsp i hi)⟩
  show upd s (5 + k) (nI v) (5 + i) = nI (va_up A.law k v i)
  by_cases e : i = k
  · subst e; rw [pk_us, up_s]
  · rw [pk_un (by omega), up_n _ _ e]; exact hl i hi
/-- only the places below 57 count -/
theorem TM.same {A : Tn} {s t : AI} (h : TM A s) (hn : A.n ≤ 8) (e : ∀ k, k < 57 → t k = s k) : TM A t := by
  obtain ⟨h0, h1, h3, h4, h2, hl, hkd, hnd, hsv, hvc, hpr, hsp⟩ := h
  exact ⟨(e _ (by omega)).trans h0, (e _ (by omega)).trans h1, (e _ (by omega)).trans h3, (e _ (by omega)).trans h4, (e _ (by omega)).trans h2, fun i hi => (e _ (by omega)).trans (hl i hi), fun i hi => (e _ (by omega)).trans (hkd i hi), fun i hi => (e _ (by omega)).trans (hnd i hi), fun i hi => (e _ (by omega)).trans (hsv i hi), fun i hi => (e _ (by omega)).trans (hvc i hi), fun i hi => (e _ (by omega)).trans (hpr i hi), fun i hi => (e _ (by omega)).trans (hsp i hi)⟩
/-! the class' town, a row changed -/
abbrev TownV.wneed (T : TownV) (f : AI) : TownV := (T.laws, T.kind, f, T.saved, T.voice, T.partner, T.speaks, T.count, T.day, T.heard, T.geese, T.z)
theorem up_all {f : AI} {g : Nat → Nat} {n k v : Nat} {x : Int32} (h : ∀ i, i < n → f i = nI (g i)) (hx : x = nI v) : ∀ i, i < n → upd f k x i = nI (va_up g k v i) := by
  intro i hi
  by_cases e : i = k
  · subst e; rw [pk_us, up_s]; exact hx
  · rw [pk_un e, up_n _ _ e]; exact h i hi
/-! ===== a day ===== -/
def gN (A : Tn) (k : Nat) : Nat := A.nd k + aUp A k - aDn A k
def grow1 (A : Tn) (k : Nat) : Tn := (A.wnd (va_up A.nd k (min 99 (gN A k)))).wgs (min 99999 (A.gs + (gN A k - 99)))
def growN (A : Tn) : Nat → Tn
  | 0 => A
  | k + 1 => grow1 (growN A k) k
def sMay (A : Tn) (k : Nat) : Nat := if A.pr k = 0 then aSays A k else 2 * aSays A k
def sOwn (A : Tn) (k : Nat) : Nat := min (sMay A k) (A.nd k)
def sNd (A : Tn) (k : Nat) : Nat → Nat := va_up A.nd k (A.nd k - sOwn A k)
def sRest (A : Tn) (k : Nat) : Nat := min (sMay A k - sOwn A k) (sNd A k (A.pr k - 1))
def say1 (A : Tn) (k : Nat) : Tn × Nat := if A.sp k = 0 then (A, 0) else if A.pr k = 0 then (A.wnd (sNd A k), sOwn A k) else (A.wnd (va_up (sNd A k) (A.pr k - 1) (sNd A k (A.pr k - 1) - sRest A k)), sOwn A k + sRest A k)
def sayN (A : Tn) : Nat → Tn × Nat
  | 0 => (A, 0)
  | k + 1 => ((say1 (sayN A k).1 k).1, (sayN A k).2 + (say1 (sayN A k).1 k).2)
def vP (A : Tn) (k : Nat) : Nat := min (aSvs A k) (min (A.nd k) (99 - A.sv k))
def save1 (A : Tn) (k : Nat) : Tn := if A.sp k = 0 then (A.wnd (va_up A.nd k (A.nd k - vP A k))).wsv (va_up A.sv k (A.sv k + vP A k)) else A
def saveN (A : Tn) : Nat → Tn
  | 0 => A
  | k + 1 => save1 (saveN A k) k
def chg1 (A : Tn) (k : Nat) : Tn := if A.pr k = 0 then A else A.wsp (va_up A.sp k (1 - A.sp k))
def chgN (A : Tn) : Nat → Tn
  | 0 => A
  | k + 1 => chg1 (chgN A k) k
def dGr (A : Tn) : Tn := growN A A.n
def dSy (A : Tn) : Tn × Nat := sayN (dGr A) A.n
def dSv (A : Tn) : Tn := saveN (dSy A).1 A.n
def dCh (A : Tn) : Tn := chgN (dSv A) A.n
def dayA (A : Tn) : Tn := ((dCh A).whrd (min 99999 ((dCh A).hrd + (dSy A).2))).wday ((dCh A).day + 1)
def dSaid (A : Tn) : Nat := (dSy A).2
/-! ===== what a day leaves as it was ===== -/
/-- all but need, saved, who speaks, the counts -/
def SameF (A B : Tn) : Prop := B.n = A.n ∧ B.law = A.law ∧ B.kd = A.kd ∧ B.vc = A.vc ∧ B.pr = A.pr ∧ B.day = A.day ∧ B.hrd = A.hrd ∧ B.z = A.z
theorem SameF.rf (A : Tn) : SameF A A := ⟨rfl, rfl, rfl, rfl, rfl, rfl, rfl, rfl⟩
theorem SameF.tr {A B C : Tn} (h : SameF A B) (g : SameF B C) : SameF A C := ⟨g.1.trans h.1, g.2.1.trans h.2.1, g.2.2.1.trans h.2.2.1, g.2.2.2.1.trans h.2.2.2.1, g.2.2.2.2.1.trans h.2.2.2.2.1, g.2.2.2.2.2.1.trans h.2.2.2.2.2.1, g.2.2.2.2.2.2.1.trans h.2.2.2.2.2.2.1, g.2.2.2.2.2.2.2.trans h.2.2.2.2.2.2.2⟩
theorem grow1_F (A : Tn) (k : Nat) : SameF A (grow1 A k) := ⟨rfl, rfl, rfl, rfl, rfl, rfl, rfl, rfl⟩
theorem growN_F (A : Tn) : ∀ k, SameF A (growN A k)
  | 0 => SameF.rf A
  | k + 1 => (growN_F A k).tr (grow1_F _ k)
theorem say1_F (A : Tn) (k : Nat) : SameF A (say1 A k).1 := by
  unfold say1
  split
  · exact SameF.rf A
  · split <;> exact ⟨rfl, rfl, rfl, rfl, rfl, rfl, rfl, rfl⟩
theorem sayN_F (A : Tn) : ∀ k, SameF A (sayN A k).1
  | 0 => SameF.rf A
  | k + 1 => (sayN_F A k).tr (say1_F _ k)
theorem save1_F (A : Tn) (k : Nat) : SameF A (save1 A k) := by
  unfold save1
  split
  · exact ⟨rfl, rfl, rfl, rfl, rfl, rfl, rfl, rfl⟩
  · exact SameF.rf A
theorem saveN_F (A : Tn) : ∀ k, SameF A (saveN A k)
  | 0 => SameF.rf A
  | k + 1 => (saveN_F A k).tr (save1_F _ k)
theorem chg1_F (A : Tn) (k : Nat) : SameF A (chg1 A k) := by
  unfold chg1
  split
  · exact SameF.rf A
  · exact ⟨rfl, rfl, rfl, rfl, rfl, rfl, rfl, rfl⟩
theorem chgN_F (A : Tn) : ∀ k, SameF A (chgN A k)
  | 0 => SameF.rf A
  | k + 1 => (chgN_F A k).tr (chg1_F _ k)
/-! ===== ranges stay ===== -/
theorem aSays_le {A : Tn} (h : WR A) {i : Nat} (hi : i < A.n) : aSays A i ≤ 36 := by
  obtain ⟨r1, r2, r3, r4, r5, r6, r7, r8, r9⟩ := h
  obtain ⟨q1, q2, q3, q4, q5, q6⟩ := r9 i hi
  unfold aSays
  repeat' split
  all_goals omega
theorem aUp_le {A : Tn} (h : WR A) {i : Nat} (hi : i < A.n) : aUp A i ≤ 19 := by
  obtain ⟨r1, r2, r3, r4, r5, r6, r7, r8, r9⟩ := h
  obtain ⟨q1, q2, q3, q4, q5, q6⟩ := r9 i hi
  unfold aUp
  repeat' split
  all_goals omega
theorem aDn_le (A : Tn) (i : Nat) : aDn A i ≤ 2 := by
  unfold aDn
  split <;> omega
theorem aSvs_le {A : Tn} (h : WR A) (i : Nat) : aSvs A i ≤ 30 := by
  obtain ⟨r1, r2, r3, r4, r5, r6, r7, r8, r9⟩ := h
  unfold aSvs
  repeat' split
  all_goals omega
theorem WR.nd {A : Tn} (h : WR A) {k v : Nat} (hv : v ≤ 99) : WR (A.wnd (va_up A.nd k v)) := by
  obtain ⟨r1, r2, r3, r4, r5, r6, r7, r8, r9⟩ := h
  refine ⟨r1, r2, r3, r4, r5, r6, r7, r8, fun i hi => ?_⟩
  obtain ⟨q1, q2, q3, q4, q5, q6⟩ := r9 i hi
  refine ⟨q1, ?_, q3, q4, q5, q6⟩
  show va_up A.nd k v i ≤ 99
  by_cases e : i = k
  · subst e; rw [up_s]; exact hv
  · rw [up_n _ _ e]; exact q2
theorem WR.sv {A : Tn} (h : WR A) {k v : Nat} (hv : v ≤ 99) : WR (A.wsv (va_up A.sv k v)) := by
  obtain ⟨r1, r2, r3, r4, r5, r6, r7, r8, r9⟩ := h
  refine ⟨r1, r2, r3, r4, r5, r6, r7, r8, fun i hi => ?_⟩
  obtain ⟨q1, q2, q3, q4, q5, q6⟩ := r9 i hi
  refine ⟨q1, q2, ?_, q4, q5, q6⟩
  show va_up A.sv k v i ≤ 99
  by_cases e : i = k
  · subst e; rw [up_s]; exact hv
  · rw [up_n _ _ e]; exact q3
theorem WR.sp {A : Tn} (h : WR A) {k v : Nat} (hv : v ≤ 1) : WR (A.wsp (va_up A.sp k v)) := by
  obtain ⟨r1, r2, r3, r4, r5, r6, r7, r8, r9⟩ := h
  refine ⟨r1, r2, r3, r4, r5, r6, r7, r8, fun i hi => ?_⟩
  obtain ⟨q1, q2, q3, q4, q5, q6⟩ := r9 i hi
  refine ⟨q1, q2, q3, q4, ?_, q6⟩
  show va_up A.sp k v i ≤ 1
  by_cases e : i = k
  · subst e; rw [up_s]; exact hv
  · rw [up_n _ _ e]; exact q5
theorem WR.gs {A : Tn} (h : WR A) {v : Nat} (hv : v ≤ 99999) : WR (A.wgs v) := by
  obtain ⟨r1, r2, r3, r4, r5, r6, r7, r8, r9⟩ := h
  exact ⟨r1, r2, r3, r4, r5, r6, r7, hv, r9⟩
theorem WR.hrd {A : Tn} (h : WR A) {v : Nat} (hv : v ≤ 99999) : WR (A.whrd v) := by
  obtain ⟨r1, r2, r3, r4, r5, r6, r7, r8, r9⟩ := h
  exact ⟨r1, r2, r3, r4, r5, r6, hv, r8, r9⟩
theorem WR.day {A : Tn} (h : WR A) {v : Nat} (hv : v < 1000000) : WR (A.wday v) := by
  obtain ⟨r1, r2, r3, r4, r5, r6, r7, r8, r9⟩ := h
  exact ⟨r1, r2, r3, r4, r5, hv, r7, r8, r9⟩
theorem grow1_R {A : Tn} (h : WR A) {k : Nat} (hk : k < A.n) : WR (grow1 A k) := WR.gs (WR.nd h (Nat.min_le_left _ _)) (Nat.min_le_left _ _)
theorem growN_R {A : Tn} (h : WR A) : ∀ k, k ≤ A.n → WR (growN A k)
  | 0, _ => h
  | k + 1, hk => grow1_R (growN_R h k (by omega)) (by rw [(growN_F A k).1]; omega)
theorem say1_R {A : Tn} (h : WR A) {k : Nat} (hk : k < A.n) : WR (say1 A k).1 ∧ (say1 A k).2 ≤ 72 := by
  have hs := aSays_le h hk
  have hm : sMay A k ≤ 72 := by unfold sMay; split <;> omega
  have ho : sOwn A k ≤ sMay A k := Nat.min_le_left _ _
  have q2 := (h.2.2.2.2.2.2.2.2 k hk).2.1
  have h1 : WR (A.wnd (sNd A k)) := WR.nd h (by omega)
  unfold say1
  split
  · exact ⟨h, by omega⟩
  · split
    · exact ⟨h1, by show sOwn A k ≤ 72; omega⟩
    · have hr : sRest A k ≤ sMay A k - sOwn A k := Nat.min_le_left _ _
      refine ⟨?_, by show sOwn A k + sRest A k ≤ 72; omega⟩
      obtain ⟨r1, r2, r3, r4, r5, r6, r7, r8, r9⟩ := h1
      refine ⟨r1, r2, r3, r4, r5, r6, r7, r8, fun i hi => ?_⟩
      obtain ⟨p1, p2, p3, p4, p5, p6⟩ := r9 i hi
      refine ⟨p1, ?_, p3, p4, p5, p6⟩
      show va_up (sNd A k) (A.pr k - 1) (sNd A k (A.pr k - 1) - sRest A k) i ≤ 99
      by_cases e : i = A.pr k - 1
      · rw [e, up_s]
        have : sNd A k i ≤ 99 := p2
        rw [e] at this; omega
      · rw [up_n _ _ e]; exact p2
theorem sayN_R {A : Tn} (h : WR A) : ∀ k, k ≤ A.n → WR (sayN A k).1 ∧ (sayN A k).2 ≤ 72 * k
  | 0, _ => ⟨h, Nat.zero_le _⟩
  | k + 1, hk => by
    obtain ⟨h1, h2⟩ := sayN_R h k (by omega)
    obtain ⟨h3, h4⟩ := say1_R h1 (k := k) (by rw [(sayN_F A k).1]; omega)
    exact ⟨h3, by show (sayN A k).2 + (say1 (sayN A k).1 k).2 ≤ 72 * (k + 1); omega⟩
theorem save1_R {A : Tn} (h : WR A) {k : Nat} (hk : k < A.n) : WR (save1 A k) := by
  have q := h.2.2.2.2.2.2.2.2 k hk
  have hv : vP A k ≤ 99 - A.sv k := Nat.le_trans (Nat.min_le_right _ _) (Nat.min_le_right _ _)
  unfold save1
  split
  · exact WR.sv (WR.nd h (by omega)) (by omega)
  · exact h
theorem saveN_R {A : Tn} (h : WR A) : ∀ k, k ≤ A.n → WR (saveN A k)
  | 0, _ => h
  | k + 1, hk => save1_R (saveN_R h k (by omega)) (by rw [(saveN_F A k).1]; omega)
theorem chg1_R {A : Tn} (h : WR A) (k : Nat) : WR (chg1 A k) := by
  unfold chg1
  split
  · exact h
  · exact WR.sp h (by omega)
theorem chgN_R {A : Tn} (h : WR A) : ∀ k, WR (chgN A k)
  | 0 => h
  | k + 1 => chg1_R (chgN_R h k) k
theorem dGr_n (A : Tn) : (dGr A).n = A.n := (growN_F A _).1
theorem dSy_n (A : Tn) : (dSy A).1.n = A.n := (sayN_F _ _).1.trans (dGr_n A)
theorem dSv_n (A : Tn) : (dSv A).n = A.n := (saveN_F _ _).1.trans (dSy_n A)
theorem dCh_n (A : Tn) : (dCh A).n = A.n := (chgN_F _ _).1.trans (dSv_n A)
theorem dGr_R {A : Tn} (h : WR A) : WR (dGr A) := growN_R h _ (Nat.le_refl _)
theorem dSy_R {A : Tn} (h : WR A) : WR (dSy A).1 ∧ (dSy A).2 ≤ 72 * A.n := sayN_R (dGr_R h) _ (by rw [dGr_n]; exact Nat.le_refl _)
theorem dSv_R {A : Tn} (h : WR A) : WR (dSv A) := saveN_R (dSy_R h).1 _ (by rw [dSy_n]; exact Nat.le_refl _)
theorem dCh_R {A : Tn} (h : WR A) : WR (dCh A) := chgN_R (dSv_R h) _
theorem dCh_day (A : Tn) : (dCh A).day = A.day := (chgN_F _ _).2.2.2.2.2.1.trans ((saveN_F _ _).2.2.2.2.2.1.trans ((sayN_F _ _).2.2.2.2.2.1.trans (growN_F _ _).2.2.2.2.2.1))
theorem dayA_n (A : Tn) : (dayA A).n = A.n := dCh_n A
theorem dayA_day (A : Tn) : (dayA A).day = A.day + 1 := congrArg (· + 1) (dCh_day A)
theorem dayA_R {A : Tn} (h : WR A) (hd : A.day + 1 < 1000000) : WR (dayA A) := WR.day (WR.hrd (dCh_R h) (Nat.min_le_left _ _)) (by rw [dCh_day]; exact hd)
theorem dSaid_le {A : Tn} (h : WR A) : dSaid A ≤ 576 := by
  have h1 := (dSy_R h).2
  have h2 := h.1
  show (dSy A).2 ≤ 576
  omega
