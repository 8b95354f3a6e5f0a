/-! ===== pairs by themselves ===== -/
def oneT (A : Tn) (i : Nat) : Tn := (1, A.law, fun _ => A.kd i, fun _ => A.nd i, fun _ => A.sv i, fun _ => A.vc i, fun _ => 0, fun _ => 1, A.day, 0, 0, 0)
def twoT (A : Tn) (i j : Nat) : Tn := (2, A.law, fun k => if k = 0 then A.kd i else A.kd j, fun k => if k = 0 then A.nd i else A.nd j, fun k => if k = 0 then A.sv i else A.sv j, fun k => if k = 0 then A.vc i else A.vc j, fun k => if k = 0 then 2 else 1, fun k => if k = 0 then 1 else 0, A.day, 0, 0, 0)
theorem oneT_OS (A : Tn) (i : Nat) : OS (oneT A i) := fun k _ j h => absurd (show (0 : Nat) = j + 1 from h) (by omega)
theorem twoT_OS (A : Tn) (i j : Nat) : OS (twoT A i j) := by
  intro k hk l hl
  have hk' : k < 2 := hk
  have hl' : (if k = 0 then 2 else 1) = l + 1 := hl
  show l < 2 ∧ (if l = 0 then 2 else 1) = k + 1 ∧ l ≠ k ∧ (if k = 0 then 1 else 0) + (if l = 0 then 1 else 0) = 1
  by_cases e : k = 0
  · subst e
    rw [if_pos rfl] at hl'
    have : l = 1 := by omega
    subst this
    exact ⟨by omega, rfl, by omega, rfl⟩
  · rw [if_neg e] at hl'
    have : l = 0 := by omega
    subst this
    have : k = 1 := by omega
    subst this
    exact ⟨by omega, rfl, by omega, rfl⟩
/-- what i and j say together in N days, or i alone -/
def Sd (A : Tn) (N i j : Nat) : Nat := if i = j then totA (oneT A i) N else totA (twoT A i j) N
theorem tot_one {F A : Tn} {i N : Nat} (h : OS F) (hn : F.n = 1) (hl : F.law = A.law) (hd : F.day = A.day) (he : EQP F 0 (oneT A i) 0) (hp : F.pr 0 = 0) : totA F N = Sd A N i i := by
  unfold Sd
  rw [if_pos rfl, tot_ctr h, tot_ctr (oneT_OS A i), hn]
  have := (pass_eq h (oneT_OS A i) hl hd (by rw [hn]; omega) (show 0 < 1 by omega) he ⟨hp, rfl⟩ N).2
  show 0 + ctr F N 0 = 0 + ctr (oneT A i) N 0
  rw [this]
theorem tot_two {F A : Tn} {i j N : Nat} (h : OS F) (hij : i ≠ j) (hn : F.n = 2) (hl : F.law = A.law) (hd : F.day = A.day) (he0 : EQP F 0 (twoT A i j) 0) (he1 : EQP F 1 (twoT A i j) 1) (hp : F.pr 0 = 2) : totA F N = Sd A N i j := by
  unfold Sd
  rw [if_neg hij, tot_ctr h, tot_ctr (twoT_OS A i j), hn]
  obtain ⟨-, -, e0, e1⟩ := pass_eq2 (j := 0) (i := 0) (j' := 1) (i' := 1) h (twoT_OS A i j) hl hd (by rw [hn]; omega) (show 0 < 2 by omega) he0 he1 hp rfl N
  show 0 + ctr F N 0 + ctr F N 1 = 0 + ctr (twoT A i j) N 0 + ctr (twoT A i j) N 1
  rw [e0, e1]
/-- everyone's partner, 0 or its number and 1: both ways -/
def MU (n : Nat) (P : Nat → Nat) : Prop := ∀ i, i < n → ∀ j, P i = j + 1 → j < n ∧ P j = i + 1 ∧ j ≠ i
def wayT (A : Tn) (P : Nat → Nat) : Tn := (A.wpr P).wsp (fun k => if P k ≠ 0 ∧ P k - 1 < k then 0 else 1)
theorem wayT_OS {A : Tn} {P : Nat → Nat} (h : MU A.n P) : OS (wayT A P) := by
  intro i hi j hj
  have hj' : P i = j + 1 := hj
  obtain ⟨a, b, c⟩ := h i hi j hj'
  refine ⟨a, b, c, ?_⟩
  show (if P i ≠ 0 ∧ P i - 1 < i then 0 else 1) + (if P j ≠ 0 ∧ P j - 1 < j then 0 else 1) = 1
  rw [hj', b]
  by_cases x : j < i
  · rw [if_pos ⟨by omega, by omega⟩, if_neg (by omega)]
  · rw [if_neg (by omega), if_pos ⟨by omega, by omega⟩]
theorem sg_zero {f : Nat → Nat} : ∀ {n : Nat}, (∀ k, k < n → f k = 0) → sg f n = 0
  | 0, _ => rfl
  | n + 1, h => by
    show sg f n + f n = 0
    rw [sg_zero (fun k hk => h k (Nat.lt_succ_of_lt hk)), h n (Nat.lt_succ_self n)]
theorem sg_one {f : Nat → Nat} {k0 : Nat} : ∀ {n : Nat}, k0 < n → (∀ k, k < n → k ≠ k0 → f k = 0) → sg f n = f k0
  | 0, h, _ => absurd h (Nat.not_lt_zero _)
  | n + 1, h, hz => by
    show sg f n + f n = f k0
    by_cases e : k0 = n
    · subst e
      rw [sg_zero (fun k hk => hz k (by omega) (by omega)), Nat.zero_add]
    · rw [sg_one (by omega) (fun k hk => hz k (by omega)), hz n (Nat.lt_succ_self n) (by omega)]; rfl
theorem sg_swap (h : Nat → Nat → Nat) (n : Nat) : ∀ m, sg (fun k => sg (fun j => h k j) n) m = sg (fun j => sg (fun k => h k j) m) n
  | 0 => (sg_zero (fun _ _ => rfl)).symm
  | m + 1 => by
    show sg (fun k => sg (fun j => h k j) n) m + sg (fun j => h m j) n = sg (fun j => sg (fun k => h k j) m + h m j) n
    rw [sg_swap h n m, sg_add]
/-- a sum over all, pair by pair -/
theorem sg_pair {n : Nat} {P : Nat → Nat} (hP : MU n P) (f : Nat → Nat) : sg f n = sg (fun k => if P k = 0 then f k else if k < P k - 1 then f k + f (P k - 1) else 0) n := by
  have e1 : sg f n = sg (fun k => (if P k = 0 then f k else if k < P k - 1 then f k else 0) + (if P k ≠ 0 ∧ P k - 1 < k then f k else 0)) n := by
    refine sg_cong (fun k hk => ?_)
    by_cases p : P k = 0
    · rw [if_pos p, if_neg (fun x => x.1 p)]; rfl
    · rw [if_neg p]
      have := (hP k hk (P k - 1) (by omega)).2.2
      by_cases q : k < P k - 1
      · rw [if_pos q, if_neg (fun x => by omega)]; rfl
      · rw [if_neg q, if_pos ⟨p, by omega⟩, Nat.zero_add]
  have e2 : sg (fun k => if P k = 0 then f k else if k < P k - 1 then f k + f (P k - 1) else 0) n = sg (fun k => (if P k = 0 then f k else if k < P k - 1 then f k else 0) + (if P k ≠ 0 ∧ k < P k - 1 then f (P k - 1) else 0)) n := by
    refine sg_cong (fun k hk => ?_)
    by_cases p : P k = 0
    · rw [if_pos p, if_pos p, if_neg (fun x => x.1 p)]; rfl
    · rw [if_neg p, if_neg p]
      by_cases q : k < P k - 1
      · rw [if_pos q, if_pos q, if_pos ⟨p, q⟩]
      · rw [if_neg q, if_neg q, if_neg (fun x => q x.2)]
  have e3 : sg (fun k => if P k ≠ 0 ∧ k < P k - 1 then f (P k - 1) else 0) n = sg (fun k => sg (fun j => if P k = j + 1 ∧ k < j then f j else 0) n) n := by
    refine sg_cong (fun k hk => ?_)
    by_cases p : P k = 0
    · rw [if_neg (fun x => x.1 p)]
      exact (sg_zero (fun j _ => if_neg (fun x => by omega))).symm
    · have hm := hP k hk (P k - 1) (by omega)
      rw [sg_one (k0 := P k - 1) hm.1 (fun j _ hj => if_neg (fun x => hj (by omega)))]
      by_cases q : k < P k - 1
      · rw [if_pos ⟨p, q⟩, if_pos ⟨by omega, q⟩]
      · rw [if_neg (fun x => q x.2), if_neg (fun x => q x.2)]
  have e4 : sg (fun k => if P k ≠ 0 ∧ P k - 1 < k then f k else 0) n = sg (fun j => sg (fun k => if P k = j + 1 ∧ k < j then f j else 0) n) n := by
    refine sg_cong (fun j hj => ?_)
    by_cases p : P j = 0
    · rw [if_neg (fun x => x.1 p)]
      refine (sg_zero (fun k hk => if_neg (fun x => ?_))).symm
      have := (hP k hk j x.1).2.1
      omega
    · have hm := hP j hj (P j - 1) (by omega)
      rw [sg_one (k0 := P j - 1) hm.1 (fun k hk hne => if_neg (fun x => hne (by
        have := (hP k hk j x.1).2.1
        omega)))]
      by_cases q : P j - 1 < j
      · rw [if_pos ⟨p, q⟩, if_pos ⟨by omega, q⟩]
      · rw [if_neg (fun x => q x.2), if_neg (fun x => q x.2)]
  rw [e1, e2, sg_add, sg_add, e3, e4, sg_swap]
/-- what the one of a pair with the lesser number brings -/
def wSd (A : Tn) (N : Nat) (P : Nat → Nat) (k : Nat) : Nat := if P k = 0 then Sd A N k k else if k < P k - 1 then Sd A N k (P k - 1) else 0
theorem tot_way {A : Tn} {P : Nat → Nat} {N : Nat} (h : MU A.n P) : totA (wayT A P) N = sg (wSd A N P) A.n := by
  have o := wayT_OS h
  rw [tot_ctr o]
  show sg (ctr (wayT A P) N) A.n = _
  rw [sg_pair h]
  refine sg_cong (fun k hk => ?_)
  unfold wSd
  by_cases p : P k = 0
  · rw [if_pos p, if_pos p]
    unfold Sd
    rw [if_pos rfl, tot_ctr (oneT_OS A k)]
    have hs : (if P k ≠ 0 ∧ P k - 1 < k then 0 else 1) = 1 := if_neg (fun x => x.1 p)
    have := (pass_eq (F := oneT A k) (C := wayT A P) (j := 0) (i := k) (oneT_OS A k) o rfl rfl (show 0 < 1 by omega) hk ⟨rfl, rfl, rfl, rfl, hs.symm⟩ ⟨rfl, p⟩ N).2
    show ctr (wayT A P) N k = 0 + ctr (oneT A k) N 0
    rw [this, Nat.zero_add]
  · rw [if_neg p, if_neg p]
    by_cases q : k < P k - 1
    · rw [if_pos q, if_pos q]
      obtain ⟨m1, m2, m3⟩ := h k hk (P k - 1) (by omega)
      unfold Sd
      rw [if_neg (by omega), tot_ctr (twoT_OS A k (P k - 1))]
      have hs0 : (if P k ≠ 0 ∧ P k - 1 < k then 0 else 1) = 1 := if_neg (fun x => by omega)
      have hs1 : (if P (P k - 1) ≠ 0 ∧ P (P k - 1) - 1 < P k - 1 then 0 else 1) = 0 := if_pos ⟨by omega, by omega⟩
      obtain ⟨-, -, e0, e1⟩ := pass_eq2 (F := twoT A k (P k - 1)) (C := wayT A P) (j := 0) (i := k) (j' := 1) (i' := P k - 1) (twoT_OS A k (P k - 1)) o rfl rfl (show 0 < 2 by omega) hk ⟨rfl, rfl, rfl, rfl, hs0.symm⟩ ⟨rfl, rfl, rfl, rfl, hs1.symm⟩ rfl (show P k = P k - 1 + 1 by omega) N
      show ctr (wayT A P) N k + ctr (wayT A P) N (P k - 1) = 0 + ctr (twoT A k (P k - 1)) N 0 + ctr (twoT A k (P k - 1)) N 1
      rw [e0, e1, Nat.zero_add]
    · rw [if_neg q, if_neg q]
theorem sg_le {f : Nat → Nat} {b : Nat} : ∀ {n : Nat}, (∀ k, k < n → f k ≤ b) → sg f n ≤ b * n
  | 0, _ => Nat.zero_le _
  | n + 1, h => by
    have h1 := sg_le (f := f) (n := n) (fun k hk => h k (Nat.lt_succ_of_lt hk))
    have h2 := h n (Nat.lt_succ_self n)
    show sg f n + f n ≤ b * (n + 1)
    rw [Nat.mul_succ]; omega
/-! ===== the best of all ways, over those who are left ===== -/
/-- without two (or one) -/
def rm2 (R : Nat → Bool) (i j : Nat) : Nat → Bool := fun k => R k && !(decide (k = i) || decide (k = j))
/-- the greatest of those who may go with o, from q on -/
def mxQ (V : Nat → Nat) (R : Nat → Bool) : Nat → Nat → Nat
  | 0, _ => 0
  | d + 1, q => if R q then max (V q) (mxQ V R d (q + 1)) else mxQ V R d (q + 1)
/-- the first of those who may go with o, from q on, with whom it is v -/
def fsQ (V : Nat → Nat) (R : Nat → Bool) (v : Nat) (o : Nat) : Nat → Nat → Nat
  | 0, _ => o
  | d + 1, q => if R q && decide (V q = v) then q else fsQ V R v o d (q + 1)
def bR (S : Nat → Nat → Nat) : Nat → Nat → (Nat → Bool) → Nat
  | 0, _, _ => 0
  | d + 1, o, R => if R o then mxQ (fun q => S o q + bR S d (o + 1) (rm2 R o q)) R (d + 1) o else bR S d (o + 1) R
/-- the way: who goes with whom -/
def setP (P : Nat → Nat) (o q : Nat) : Nat → Nat := if q = o then P else va_up (va_up P o (q + 1)) q (o + 1)
def wR (S : Nat → Nat → Nat) : Nat → Nat → (Nat → Bool) → (Nat → Nat) → (Nat → Nat)
  | 0, _, _, P => P
  | d + 1, o, R, P => if R o then (let q := fsQ (fun q => S o q + bR S d (o + 1) (rm2 R o q)) R (bR S (d + 1) o R) o (d + 1) o; wR S d (o + 1) (rm2 R o q) (setP P o q)) else wR S d (o + 1) R P
theorem bR_cong {S : Nat → Nat → Nat} : ∀ (d o : Nat) {R R' : Nat → Bool}, (∀ k, o ≤ k → k < o + d → R k = R' k) → bR S d o R = bR S d o R' := by
  intro d
  induction d with
  | zero => intro o R R' _; rfl
  | succ d ih =>
    intro o R R' h
    have h0 := h o (Nat.le_refl o) (by omega)
    have mq : ∀ (V V' : Nat → Nat) (m q : Nat), o ≤ q → q + m = o + (d + 1) → (∀ k, o ≤ k → k < o + (d + 1) → V k = V' k) → mxQ V R m q = mxQ V' R' m q := by
      intro V V' m
      induction m with
      | zero => intro q _ _ _; rfl
      | succ m ihm =>
        intro q h1 h2 h3
        show (if R q then max (V q) (mxQ V R m (q + 1)) else mxQ V R m (q + 1)) = (if R' q then max (V' q) (mxQ V' R' m (q + 1)) else mxQ V' R' m (q + 1))
        rw [ihm (q + 1) (by omega) (by omega) h3, h q h1 (by omega), h3 q h1 (by omega)]
    show (if R o then mxQ (fun q => S o q + bR S d (o + 1) (rm2 R o q)) R (d + 1) o else bR S d (o + 1) R) = (if R' o then mxQ (fun q => S o q + bR S d (o + 1) (rm2 R' o q)) R' (d + 1) o else bR S d (o + 1) R')
    rw [h0, ih (o + 1) (R := R) (R' := R') (fun k k1 k2 => h k (by omega) (by omega)), mq (fun q => S o q + bR S d (o + 1) (rm2 R o q)) (fun q => S o q + bR S d (o + 1) (rm2 R' o q)) (d + 1) o (Nat.le_refl o) rfl (fun k k1 k2 => by
      show S o k + bR S d (o + 1) (rm2 R o k) = S o k + bR S d (o + 1) (rm2 R' o k)
      rw [ih (o + 1) (R := rm2 R o k) (R' := rm2 R' o k) (fun t t1 t2 => by
        unfold rm2
        rw [h t (by omega) (by omega)])])]
