/-! ===== a day, person by person ===== -/
def sg (f : Nat → Nat) : Nat → Nat
  | 0 => 0
  | k + 1 => sg f k + f k
theorem sg_cong {f g : Nat → Nat} : ∀ {n : Nat}, (∀ k, k < n → f k = g k) → sg f n = sg g n
  | 0, _ => rfl
  | n + 1, h => by
    show sg f n + f n = sg g n + g n
    rw [sg_cong (fun k hk => h k (Nat.lt_succ_of_lt hk)), h n (Nat.lt_succ_self n)]
theorem sg_add (f g : Nat → Nat) : ∀ n, sg (fun k => f k + g k) n = sg f n + sg g n
  | 0 => rfl
  | n + 1 => by
    show sg (fun k => f k + g k) n + (f n + g n) = (sg f n + f n) + (sg g n + g n)
    rw [sg_add f g n]; omega
/-- partners are mutual, and one of the two speaks -/
def OS (C : Tn) : Prop := ∀ i, i < C.n → ∀ j, C.pr i = j + 1 → j < C.n ∧ C.pr j = i + 1 ∧ j ≠ i ∧ C.sp i + C.sp j = 1
theorem growN_nd (C : Tn) : ∀ k, ∃ (f : Nat → Nat) (g : Nat), growN C k = (C.wnd f).wgs g ∧ ∀ i, f i = if i < k then min 99 (gN C i) else C.nd i
  | 0 => ⟨C.nd, C.gs, rfl, fun i => (if_neg (Nat.not_lt_zero i)).symm⟩
  | k + 1 => by
    obtain ⟨f, g, e, h⟩ := growN_nd C k
    have hk : f k = C.nd k := (h k).trans (if_neg (Nat.lt_irrefl k))
    have eg : gN ((C.wnd f).wgs g) k = gN C k := by
      show f k + aUp C k - aDn C k = C.nd k + aUp C k - aDn C k
      rw [hk]
    refine ⟨va_up f k (min 99 (gN C k)), min 99999 (g + (gN C k - 99)), ?_, fun i => ?_⟩
    · show grow1 (growN C k) k = _
      rw [e]
      unfold grow1
      rw [eg]
    · by_cases x : i = k
      · subst x; rw [up_s, if_pos (Nat.lt_succ_self i)]
      · rw [up_n _ _ x, h i]
        by_cases y : i < k
        · rw [if_pos y, if_pos (by omega)]
        · rw [if_neg y, if_neg (by omega)]
/-- need behind what is said, of the one who speaks and of the one who is spoken for -/
def nS (G : Tn) (i : Nat) : Nat := if G.sp i = 0 then (if G.pr i = 0 then G.nd i else G.nd i - min (sMay G (G.pr i - 1) - sOwn G (G.pr i - 1)) (G.nd i)) else G.nd i - sOwn G i
/-- what one says -/
def cS (G : Tn) (k : Nat) : Nat := if G.sp k = 0 then 0 else if G.pr k = 0 then sOwn G k else sOwn G k + min (sMay G k - sOwn G k) (G.nd (G.pr k - 1))
def whoS (G : Tn) (i : Nat) : Nat := if G.sp i = 0 then G.pr i - 1 else i
theorem sayN_nd {G : Tn} (h : OS G) : ∀ k, k ≤ G.n → ∃ f : Nat → Nat, sayN G k = (G.wnd f, sg (cS G) k) ∧ ∀ i, i < G.n → f i = if whoS G i < k then nS G i else G.nd i
  | 0, _ => ⟨G.nd, rfl, fun i _ => (if_neg (Nat.not_lt_zero _)).symm⟩
  | k + 1, hk => by
    obtain ⟨f, e, hf⟩ := sayN_nd h k (by omega)
    have hkn : k < G.n := by omega
    have E : sayN G (k + 1) = ((say1 (G.wnd f) k).1, sg (cS G) k + (say1 (G.wnd f) k).2) := by
      show ((say1 (sayN G k).1 k).1, (sayN G k).2 + (say1 (sayN G k).1 k).2) = _
      rw [e]
    have SM : sMay (G.wnd f) k = sMay G k := rfl
    by_cases s0 : G.sp k = 0
    · have e1 : say1 (G.wnd f) k = (G.wnd f, 0) := by unfold say1; rw [if_pos s0]
      have c0 : cS G k = 0 := if_pos s0
      refine ⟨f, ?_, fun i hi => ?_⟩
      · rw [E, e1]
        show (G.wnd f, sg (cS G) k + 0) = (G.wnd f, sg (cS G) k + cS G k)
        rw [c0]
      · rw [hf i hi]
        by_cases w : whoS G i = k
        · have : nS G i = G.nd i := by
            unfold whoS at w
            unfold nS
            by_cases si : G.sp i = 0
            · rw [if_pos si] at w ⊢
              by_cases pi : G.pr i = 0
              · rw [if_pos pi]
              · have := h i hi k (by omega)
                omega
            · rw [if_neg si] at w
              rw [w] at si
              exact absurd s0 si
          rw [this]
          split <;> split <;> rfl
        · by_cases y : whoS G i < k
          · rw [if_pos y, if_pos (by omega)]
          · rw [if_neg y, if_neg (by omega)]
    · have wk : whoS G k = k := if_neg s0
      have fk : f k = G.nd k := by rw [hf k hkn, wk, if_neg (Nat.lt_irrefl k)]
      have so : sOwn (G.wnd f) k = sOwn G k := by
        show min (sMay G k) (f k) = min (sMay G k) (G.nd k)
        rw [fk]
      by_cases p0 : G.pr k = 0
      · have e1 : say1 (G.wnd f) k = (G.wnd (va_up f k (G.nd k - sOwn G k)), sOwn G k) := by
          unfold say1
          rw [if_neg s0, if_pos p0]
          unfold sNd
          rw [so]
          show (G.wnd (va_up f k (f k - sOwn G k)), sOwn G k) = _
          rw [fk]
        have c0 : cS G k = sOwn G k := by unfold cS; rw [if_neg s0, if_pos p0]
        refine ⟨va_up f k (G.nd k - sOwn G k), ?_, fun i hi => ?_⟩
        · rw [E, e1]
          show (G.wnd _, sg (cS G) k + sOwn G k) = (G.wnd _, sg (cS G) k + cS G k)
          rw [c0]
        · by_cases x : i = k
          · subst x
            rw [up_s, wk, if_pos (Nat.lt_succ_self i)]
            unfold nS; rw [if_neg s0]
          · rw [up_n _ _ x, hf i hi]
            by_cases w : whoS G i = k
            · have hn : nS G i = G.nd i := by
                unfold whoS at w
                unfold nS
                by_cases si : G.sp i = 0
                · rw [if_pos si] at w ⊢
                  by_cases pi : G.pr i = 0
                  · rw [if_pos pi]
                  · have := h i hi k (by omega)
                    omega
                · rw [if_neg si] at w
                  exact absurd w x
              rw [hn]
              split <;> split <;> rfl
            · by_cases y : whoS G i < k
              · rw [if_pos y, if_pos (by omega)]
              · rw [if_neg y, if_neg (by omega)]
      · obtain ⟨p, hp⟩ : ∃ p, G.pr k = p + 1 := ⟨G.pr k - 1, by omega⟩
        obtain ⟨hpn, hpr, hpk, hsp⟩ := h k hkn p hp
        have sp0 : G.sp p = 0 := by omega
        have ep : G.pr k - 1 = p := by omega
        have wp : whoS G p = k := by unfold whoS; rw [if_pos sp0, hpr]; omega
        have fp : f p = G.nd p := by rw [hf p hpn, wp, if_neg (Nat.lt_irrefl k)]
        have e1 : say1 (G.wnd f) k = (G.wnd (va_up (va_up f k (G.nd k - sOwn G k)) p (G.nd p - min (sMay G k - sOwn G k) (G.nd p))), sOwn G k + min (sMay G k - sOwn G k) (G.nd p)) := by
          have n1 : sNd (G.wnd f) k = va_up f k (G.nd k - sOwn G k) := by
            unfold sNd
            rw [so]
            show va_up f k (f k - sOwn G k) = _
            rw [fk]
          have n2 : sNd (G.wnd f) k ((G.wnd f).pr k - 1) = G.nd p := by
            rw [n1]
            show va_up f k (G.nd k - sOwn G k) (G.pr k - 1) = G.nd p
            rw [ep, up_n _ _ hpk, fp]
          have r1 : sRest (G.wnd f) k = min (sMay G k - sOwn G k) (G.nd p) := by
            unfold sRest
            rw [n2, so, SM]
          unfold say1
          rw [if_neg s0, if_neg p0, r1, n2, n1, so]
          show (G.wnd (va_up (va_up f k (G.nd k - sOwn G k)) (G.pr k - 1) (G.nd p - min (sMay G k - sOwn G k) (G.nd p))), _) = _
          rw [ep]
        have c0 : cS G k = sOwn G k + min (sMay G k - sOwn G k) (G.nd p) := by unfold cS; rw [if_neg s0, if_neg p0, ep]
        refine ⟨va_up (va_up f k (G.nd k - sOwn G k)) p (G.nd p - min (sMay G k - sOwn G k) (G.nd p)), ?_, fun i hi => ?_⟩
        · rw [E, e1]
          show (G.wnd _, sg (cS G) k + (sOwn G k + min (sMay G k - sOwn G k) (G.nd p))) = (G.wnd _, sg (cS G) k + cS G k)
          rw [c0]
        · by_cases x : i = p
          · subst x
            rw [up_s, wp, if_pos (Nat.lt_succ_self k)]
            unfold nS
            rw [if_pos sp0, if_neg (by omega), hpr, Nat.add_sub_cancel]
          · rw [up_n _ _ x]
            by_cases x2 : i = k
            · subst x2
              rw [up_s, wk, if_pos (Nat.lt_succ_self i)]
              unfold nS; rw [if_neg s0]
            · rw [up_n _ _ x2, hf i hi]
              by_cases w : whoS G i = k
              · have hn : nS G i = G.nd i := by
                  unfold whoS at w
                  unfold nS
                  by_cases si : G.sp i = 0
                  · rw [if_pos si] at w ⊢
                    by_cases pi : G.pr i = 0
                    · rw [if_pos pi]
                    · have := h i hi k (by omega)
                      omega
                  · rw [if_neg si] at w
                    exact absurd w x2
                rw [hn]
                split <;> split <;> rfl
              · by_cases y : whoS G i < k
                · rw [if_pos y, if_pos (by omega)]
                · rw [if_neg y, if_neg (by omega)]
def nV (S : Tn) (i : Nat) : Nat := if S.sp i = 0 then S.nd i - vP S i else S.nd i
def sV (S : Tn) (i : Nat) : Nat := if S.sp i = 0 then S.sv i + vP S i else S.sv i
theorem saveN_nd (S : Tn) : ∀ k, ∃ f g : Nat → Nat, saveN S k = (S.wnd f).wsv g ∧ ∀ i, f i = (if i < k then nV S i else S.nd i) ∧ g i = (if i < k then sV S i else S.sv i)
  | 0 => ⟨S.nd, S.sv, rfl, fun i => ⟨(if_neg (Nat.not_lt_zero i)).symm, (if_neg (Nat.not_lt_zero i)).symm⟩⟩
  | k + 1 => by
    obtain ⟨f, g, e, h⟩ := saveN_nd S k
    have fk : f k = S.nd k := (h k).1.trans (if_neg (Nat.lt_irrefl k))
    have gk : g k = S.sv k := (h k).2.trans (if_neg (Nat.lt_irrefl k))
    have ev : vP ((S.wnd f).wsv g) k = vP S k := by
      show min (aSvs S k) (min (f k) (99 - g k)) = min (aSvs S k) (min (S.nd k) (99 - S.sv k))
      rw [fk, gk]
    have stay : ∀ i, i ≠ k → f i = (if i < k + 1 then nV S i else S.nd i) ∧ g i = (if i < k + 1 then sV S i else S.sv i) := by
      intro i x
      obtain ⟨h1, h2⟩ := h i
      by_cases y : i < k
      · rw [h1, h2, if_pos y, if_pos y, if_pos (by omega), if_pos (by omega)]; exact ⟨rfl, rfl⟩
      · rw [h1, h2, if_neg y, if_neg y, if_neg (by omega), if_neg (by omega)]; exact ⟨rfl, rfl⟩
    by_cases s0 : S.sp k = 0
    · refine ⟨va_up f k (S.nd k - vP S k), va_up g k (S.sv k + vP S k), ?_, fun i => ?_⟩
      · show save1 (saveN S k) k = _
        rw [e]
        unfold save1
        rw [if_pos (show ((S.wnd f).wsv g).sp k = 0 from s0), ev]
        show ((S.wnd (va_up f k (f k - vP S k))).wsv (va_up g k (g k + vP S k))) = _
        rw [fk, gk]
      · by_cases x : i = k
        · subst x
          rw [up_s, up_s, if_pos (Nat.lt_succ_self i), if_pos (Nat.lt_succ_self i)]
          unfold nV sV
          rw [if_pos s0, if_pos s0]
          exact ⟨rfl, rfl⟩
        · rw [up_n _ _ x, up_n _ _ x]; exact stay i x
    · refine ⟨f, g, ?_, fun i => ?_⟩
      · show save1 (saveN S k) k = _
        rw [e]
        unfold save1
        rw [if_neg (show ¬ ((S.wnd f).wsv g).sp k = 0 from s0)]
      · by_cases x : i = k
        · subst x
          rw [if_pos (Nat.lt_succ_self i), if_pos (Nat.lt_succ_self i), fk, gk]
          unfold nV sV
          rw [if_neg s0, if_neg s0]
          exact ⟨rfl, rfl⟩
        · exact stay i x
theorem chgN_sp (S : Tn) : ∀ k, ∃ f : Nat → Nat, chgN S k = S.wsp f ∧ ∀ i, f i = if i < k then (if S.pr i = 0 then S.sp i else 1 - S.sp i) else S.sp i
  | 0 => ⟨S.sp, rfl, fun i => (if_neg (Nat.not_lt_zero i)).symm⟩
  | k + 1 => by
    obtain ⟨f, e, h⟩ := chgN_sp S k
    have fk : f k = S.sp k := (h k).trans (if_neg (Nat.lt_irrefl k))
    have stay : ∀ i, i ≠ k → f i = if i < k + 1 then (if S.pr i = 0 then S.sp i else 1 - S.sp i) else S.sp i := by
      intro i x
      rw [h i]
      by_cases y : i < k
      · rw [if_pos y, if_pos (show i < k + 1 by omega)]
      · rw [if_neg y, if_neg (show ¬ i < k + 1 by omega)]
    by_cases p0 : S.pr k = 0
    · refine ⟨f, ?_, fun i => ?_⟩
      · show chg1 (chgN S k) k = _
        rw [e]
        unfold chg1
        rw [if_pos (show (S.wsp f).pr k = 0 from p0)]
      · by_cases x : i = k
        · subst x; rw [if_pos (Nat.lt_succ_self i), if_pos p0, fk]
        · exact stay i x
    · refine ⟨va_up f k (1 - S.sp k), ?_, fun i => ?_⟩
      · show chg1 (chgN S k) k = _
        rw [e]
        unfold chg1
        rw [if_neg (show ¬ (S.wsp f).pr k = 0 from p0)]
        show S.wsp (va_up f k (1 - f k)) = _
        rw [fk]
      · by_cases x : i = k
        · subst x; rw [up_s, if_pos (Nat.lt_succ_self i), if_neg p0]
        · rw [up_n _ _ x]; exact stay i x
/-! the day as towns that are told person by person -/
def grT (C : Tn) : Tn := C.wnd (fun i => min 99 (gN C i))
def syT (C : Tn) : Tn := (grT C).wnd (nS (grT C))
theorem nS_cong {G : Tn} {f f' : Nat → Nat} {i : Nat} (h1 : f i = f' i) (h2 : ¬ G.pr i = 0 → f (G.pr i - 1) = f' (G.pr i - 1)) : nS (G.wnd f) i = nS (G.wnd f') i := by
  unfold nS sOwn
  show (if G.sp i = 0 then (if G.pr i = 0 then f i else f i - min (sMay G (G.pr i - 1) - min (sMay G (G.pr i - 1)) (f (G.pr i - 1))) (f i)) else f i - min (sMay G i) (f i)) = (if G.sp i = 0 then (if G.pr i = 0 then f' i else f' i - min (sMay G (G.pr i - 1) - min (sMay G (G.pr i - 1)) (f' (G.pr i - 1))) (f' i)) else f' i - min (sMay G i) (f' i))
  rw [h1]
  by_cases p0 : G.pr i = 0
  · rw [if_pos p0, if_pos p0]
  · rw [if_neg p0, if_neg p0, h2 p0]
theorem cS_cong {G : Tn} {f f' : Nat → Nat} {i : Nat} (h1 : f i = f' i) (h2 : ¬ G.pr i = 0 → f (G.pr i - 1) = f' (G.pr i - 1)) : cS (G.wnd f) i = cS (G.wnd f') i := by
  unfold cS sOwn
  show (if G.sp i = 0 then 0 else if G.pr i = 0 then min (sMay G i) (f i) else min (sMay G i) (f i) + min (sMay G i - min (sMay G i) (f i)) (f (G.pr i - 1))) = (if G.sp i = 0 then 0 else if G.pr i = 0 then min (sMay G i) (f' i) else min (sMay G i) (f' i) + min (sMay G i - min (sMay G i) (f' i)) (f' (G.pr i - 1)))
  rw [h1]
  by_cases p0 : G.pr i = 0
  · rw [if_pos p0, if_pos p0]
  · rw [if_neg p0, if_neg p0, h2 p0]
theorem day_form {C : Tn} (h : OS C) : dSaid C = sg (cS (grT C)) C.n ∧ (∀ i, i < C.n → (dayA C).nd i = nV (syT C) i ∧ (dayA C).sv i = sV (syT C) i ∧ (dayA C).sp i = (if C.pr i = 0 then C.sp i else 1 - C.sp i)) ∧ (dayA C).n = C.n ∧ (dayA C).law = C.law ∧ (dayA C).kd = C.kd ∧ (dayA C).vc = C.vc ∧ (dayA C).pr = C.pr ∧ (dayA C).day = C.day + 1 := by
  obtain ⟨f, g, e1, h1⟩ := growN_nd C C.n
  have E1 : dGr C = (C.wnd f).wgs g := e1
  have hf : ∀ i, i < C.n → f i = min 99 (gN C i) := fun i hi => (h1 i).trans (if_pos hi)
  have O1 : OS ((C.wnd f).wgs g) := h
  obtain ⟨f2, e2, h2⟩ := sayN_nd O1 C.n (Nat.le_refl _)
  have E2 : dSy C = (((C.wnd f).wgs g).wnd f2, sg (cS ((C.wnd f).wgs g)) C.n) := by
    unfold dSy; rw [E1]; exact e2
  have cg : ∀ i, i < C.n → cS ((C.wnd f).wgs g) i = cS (grT C) i := fun i hi => cS_cong (G := C) (hf i hi) (fun p0 => hf _ (by
    have := (h i hi (C.pr i - 1) (by omega)).1
    exact this))
  have ng : ∀ i, i < C.n → nS ((C.wnd f).wgs g) i = nS (grT C) i := fun i hi => nS_cong (G := C) (hf i hi) (fun p0 => hf _ (by
    have := (h i hi (C.pr i - 1) (by omega)).1
    exact this))
  have hf2 : ∀ i, i < C.n → f2 i = nS (grT C) i := by
    intro i hi
    rw [h2 i hi]
    have hw : whoS ((C.wnd f).wgs g) i < C.n := by
      unfold whoS
      show (if C.sp i = 0 then C.pr i - 1 else i) < C.n
      by_cases s0 : C.sp i = 0
      · rw [if_pos s0]
        by_cases p0 : C.pr i = 0
        · omega
        · exact (h i hi (C.pr i - 1) (by omega)).1
      · rw [if_neg s0]; exact hi
    rw [if_pos hw]
    exact ng i hi
  obtain ⟨f3, g3, e3, h3⟩ := saveN_nd (((C.wnd f).wgs g).wnd f2) C.n
  have E3 : dSv C = ((((C.wnd f).wgs g).wnd f2).wnd f3).wsv g3 := by
    unfold dSv; rw [E2]; exact e3
  obtain ⟨f4, e4, h4⟩ := chgN_sp (((((C.wnd f).wgs g).wnd f2).wnd f3).wsv g3) C.n
  have E4 : dCh C = (((((C.wnd f).wgs g).wnd f2).wnd f3).wsv g3).wsp f4 := by
    unfold dCh; rw [E3]; exact e4
  refine ⟨?_, fun i hi => ⟨?_, ?_, ?_⟩, dayA_n C, ?_, ?_, ?_, ?_, dayA_day C⟩
  · show (dSy C).2 = _
    rw [E2]
    exact sg_cong cg
  · show (dCh C).nd i = _
    rw [E4]
    show f3 i = _
    rw [(h3 i).1, if_pos hi]
    unfold nV
    show (if C.sp i = 0 then f2 i - min (aSvs C i) (min (f2 i) (99 - C.sv i)) else f2 i) = (if C.sp i = 0 then nS (grT C) i - min (aSvs C i) (min (nS (grT C) i) (99 - C.sv i)) else nS (grT C) i)
    rw [hf2 i hi]
  · show (dCh C).sv i = _
    rw [E4]
    show g3 i = _
    rw [(h3 i).2, if_pos hi]
    unfold sV
    show (if C.sp i = 0 then C.sv i + min (aSvs C i) (min (f2 i) (99 - C.sv i)) else C.sv i) = (if C.sp i = 0 then C.sv i + min (aSvs C i) (min (nS (grT C) i) (99 - C.sv i)) else C.sv i)
    rw [hf2 i hi]
  · show (dCh C).sp i = _
    rw [E4]
    show f4 i = _
    rw [h4 i, if_pos hi]
  · show (dCh C).law = _
    rw [E4]
  · show (dCh C).kd = _
    rw [E4]
  · show (dCh C).vc = _
    rw [E4]
  · show (dCh C).pr = _
    rw [E4]
/-! one of two towns is as one of the other -/
def EQP (F : Tn) (j : Nat) (C : Tn) (i : Nat) : Prop := F.kd j = C.kd i ∧ F.nd j = C.nd i ∧ F.sv j = C.sv i ∧ F.vc j = C.vc i ∧ F.sp j = C.sp i
theorem aUp_eq {F C : Tn} {j i : Nat} (hl : F.law = C.law) (h : EQP F j C i) : gN F j = gN C i := by
  obtain ⟨h1, h2, h3, h4, h5⟩ := h
  unfold gN aUp aDn
  rw [hl, h1, h2, h4]
theorem aSays_eq {F C : Tn} {j i : Nat} (hl : F.law = C.law) (hd : F.day = C.day) (h1 : F.kd j = C.kd i) (h3 : F.sv j = C.sv i) (h4 : F.vc j = C.vc i) : aSays F j = aSays C i := by
  unfold aSays
  rw [hl, hd, h1, h3, h4]
theorem aSvs_eq {F C : Tn} {j i : Nat} (hl : F.law = C.law) (hd : F.day = C.day) (h1 : F.kd j = C.kd i) : aSvs F j = aSvs C i := by
  unfold aSvs
  rw [hl, hd, h1]
/-- a day keeps one who is alone alike, and one of a pair -/
theorem day_eq {F C : Tn} {j i : Nat} (oF : OS F) (oC : OS C) (hl : F.law = C.law) (hd : F.day = C.day) (hj : j < F.n) (hi : i < C.n) (h : EQP F j C i) (hp : (F.pr j = 0 ∧ C.pr i = 0) ∨ (∃ j' i', F.pr j = j' + 1 ∧ C.pr i = i' + 1 ∧ EQP F j' C i')) : EQP (dayA F) j (dayA C) i ∧ cS (grT F) j = cS (grT C) i := by
  have h0 := h
  obtain ⟨h1, h2, h3, h4, h5⟩ := h
  obtain ⟨-, a2, a3, a4, a5, a6, a7, a8⟩ := day_form oF
  obtain ⟨-, b2, b3, b4, b5, b6, b7, b8⟩ := day_form oC
  have g0 : (grT F).nd j = (grT C).nd i := by
    show min 99 (gN F j) = min 99 (gN C i)
    rw [aUp_eq hl h0]
  have may : sMay (grT F) j = sMay (grT C) i := by
    have e := aSays_eq (F := grT F) (C := grT C) hl hd h1 h3 h4
    unfold sMay
    rw [e]
    show (if F.pr j = 0 then _ else _) = (if C.pr i = 0 then _ else _)
    rcases hp with ⟨p1, p2⟩ | ⟨j', i', p1, p2, -⟩
    · rw [if_pos p1, if_pos p2]
    · rw [if_neg (by omega), if_neg (by omega)]
  have own : sOwn (grT F) j = sOwn (grT C) i := by
    unfold sOwn
    rw [may, g0]
  have ns : nS (grT F) j = nS (grT C) i ∧ cS (grT F) j = cS (grT C) i := by
    unfold nS cS
    rw [own, g0, may]
    show (if F.sp j = 0 then _ else _) = (if C.sp i = 0 then _ else _) ∧ (if F.sp j = 0 then _ else _) = (if C.sp i = 0 then _ else _)
    rw [h5]
    rcases hp with ⟨p1, p2⟩ | ⟨j', i', p1, p2, q⟩
    · have p1' : (grT F).pr j = 0 := p1
      have p2' : (grT C).pr i = 0 := p2
      rw [if_pos p1', if_pos p2', if_pos p1', if_pos p2']
      exact ⟨rfl, rfl⟩
    · have p1' : (grT F).pr j = j' + 1 := p1
      have p2' : (grT C).pr i = i' + 1 := p2
      have o1 := oF j hj j' p1
      have o2 := oC i hi i' p2
      have g0' : (grT F).nd j' = (grT C).nd i' := by
        show min 99 (gN F j') = min 99 (gN C i')
        rw [aUp_eq hl q]
      have may' : sMay (grT F) j' = sMay (grT C) i' := by
        have e := aSays_eq (F := grT F) (C := grT C) hl hd q.1 q.2.2.1 q.2.2.2.1
        unfold sMay
        rw [e]
        show (if F.pr j' = 0 then _ else _) = (if C.pr i' = 0 then _ else _)
        rw [if_neg (by omega), if_neg (by omega)]
      have own' : sOwn (grT F) j' = sOwn (grT C) i' := by
        unfold sOwn
        rw [may', g0']
      rw [p1', p2', if_neg (show ¬ j' + 1 = 0 by omega), if_neg (show ¬ i' + 1 = 0 by omega), if_neg (show ¬ j' + 1 = 0 by omega), if_neg (show ¬ i' + 1 = 0 by omega), Nat.add_sub_cancel, Nat.add_sub_cancel, g0', may', own']
      exact ⟨rfl, rfl⟩
  have sv : aSvs F j = aSvs C i := aSvs_eq hl hd h1
  refine ⟨⟨?_, ?_, ?_, ?_, ?_⟩, ns.2⟩
  · rw [a5, b5]; exact h1
  · rw [(a2 j hj).1, (b2 i hi).1]
    unfold nV
    show (if F.sp j = 0 then nS (grT F) j - min (aSvs F j) (min (nS (grT F) j) (99 - F.sv j)) else nS (grT F) j) = (if C.sp i = 0 then nS (grT C) i - min (aSvs C i) (min (nS (grT C) i) (99 - C.sv i)) else nS (grT C) i)
    rw [ns.1, sv, h3, h5]
  · rw [(a2 j hj).2.1, (b2 i hi).2.1]
    unfold sV
    show (if F.sp j = 0 then F.sv j + min (aSvs F j) (min (nS (grT F) j) (99 - F.sv j)) else F.sv j) = (if C.sp i = 0 then C.sv i + min (aSvs C i) (min (nS (grT C) i) (99 - C.sv i)) else C.sv i)
    rw [ns.1, sv, h3, h5]
  · rw [a6, b6]; exact h4
  · rw [(a2 j hj).2.2, (b2 i hi).2.2, h5]
    rcases hp with ⟨p1, p2⟩ | ⟨j', i', p1, p2, -⟩
    · rw [if_pos p1, if_pos p2]
    · rw [if_neg (by omega), if_neg (by omega)]
theorem OS.day {C : Tn} (h : OS C) : OS (dayA C) := by
  obtain ⟨-, b2, b3, b4, b5, b6, b7, b8⟩ := day_form h
  intro i hi j hj
  rw [b3] at hi
  rw [b7] at hj
  obtain ⟨q1, q2, q3, q4⟩ := h i hi j hj
  rw [b3, b7]
  refine ⟨q1, q2, q3, ?_⟩
  rw [(b2 i hi).2.2, (b2 j q1).2.2, if_neg (by omega), if_neg (by omega)]
  omega
theorem OS.pass {C : Tn} (h : OS C) : ∀ k, OS (passA C k)
  | 0 => h
  | k + 1 => OS.day (OS.pass h k)
theorem pass_same {C : Tn} (h : OS C) : ∀ k, (passA C k).n = C.n ∧ (passA C k).law = C.law ∧ (passA C k).pr = C.pr ∧ (passA C k).day = C.day + k
  | 0 => ⟨rfl, rfl, rfl, rfl⟩
  | k + 1 => by
    obtain ⟨p1, p2, p3, p4⟩ := pass_same h k
    obtain ⟨-, b2, b3, b4, b5, b6, b7, b8⟩ := day_form (h.pass k)
    exact ⟨b3.trans p1, b4.trans p2, b7.trans p3, by show (dayA (passA C k)).day = _; rw [b8, p4]; omega⟩
/-- what one says in all -/
def ctr (C : Tn) (N k : Nat) : Nat := sg (fun d => cS (grT (passA C d)) k) N
theorem tot_ctr {C : Tn} (h : OS C) : ∀ N, totA C N = sg (ctr C N) C.n
  | 0 => by
    show 0 = sg (fun _ => 0) C.n
    have : ∀ n, sg (fun _ => 0) n = 0 := by
      intro n
      induction n with
      | zero => rfl
      | succ n ih => show sg (fun _ => 0) n + 0 = 0; rw [ih]
    rw [this]
  | N + 1 => by
    show totA C N + dSaid (passA C N) = sg (fun k => ctr C N k + cS (grT (passA C N)) k) C.n
    rw [sg_add, tot_ctr h N, (day_form (h.pass N)).1, (pass_same h N).1]
theorem pass_eq {F C : Tn} {j i : Nat} (oF : OS F) (oC : OS C) (hl : F.law = C.law) (hd : F.day = C.day) (hj : j < F.n) (hi : i < C.n) (h : EQP F j C i) (hp : F.pr j = 0 ∧ C.pr i = 0) : ∀ N, EQP (passA F N) j (passA C N) i ∧ ctr F N j = ctr C N i
  | 0 => ⟨h, rfl⟩
  | N + 1 => by
    obtain ⟨q1, q2⟩ := pass_eq oF oC hl hd hj hi h hp N
    obtain ⟨f1, f2, f3, f4⟩ := pass_same oF N
    obtain ⟨c1, c2, c3, c4⟩ := pass_same oC N
    obtain ⟨r1, r2⟩ := day_eq (oF.pass N) (oC.pass N) (f2.trans (hl.trans c2.symm)) (by omega) (by rw [f1]; exact hj) (by rw [c1]; exact hi) q1 (Or.inl (by rw [f3, c3]; exact hp))
    refine ⟨r1, ?_⟩
    show ctr F N j + cS (grT (passA F N)) j = ctr C N i + cS (grT (passA C N)) i
    rw [q2, r2]
theorem pass_eq2 {F C : Tn} {j i j' i' : Nat} (oF : OS F) (oC : OS C) (hl : F.law = C.law) (hd : F.day = C.day) (hj : j < F.n) (hi : i < C.n) (h : EQP F j C i) (h' : EQP F j' C i') (hF : F.pr j = j' + 1) (hC : C.pr i = i' + 1) : ∀ N, EQP (passA F N) j (passA C N) i ∧ EQP (passA F N) j' (passA C N) i' ∧ ctr F N j = ctr C N i ∧ ctr F N j' = ctr C N i'
  | 0 => ⟨h, h', rfl, rfl⟩
  | N + 1 => by
    obtain ⟨q1, q1', q2, q2'⟩ := pass_eq2 oF oC hl hd hj hi h h' hF hC N
    obtain ⟨f1, f2, f3, f4⟩ := pass_same oF N
    obtain ⟨c1, c2, c3, c4⟩ := pass_same oC N
    obtain ⟨u1, u2, u3, -⟩ := oF j hj j' hF
    obtain ⟨w1, w2, w3, -⟩ := oC i hi i' hC
    obtain ⟨r1, r2⟩ := day_eq (oF.pass N) (oC.pass N) (f2.trans (hl.trans c2.symm)) (by omega) (by rw [f1]; exact hj) (by rw [c1]; exact hi) q1 (Or.inr ⟨j', i', by rw [f3]; exact hF, by rw [c3]; exact hC, q1'⟩)
    obtain ⟨r1', r2'⟩ := day_eq (oF.pass N) (oC.pass N) (f2.trans (hl.trans c2.symm)) (by omega) (by rw [f1]; exact u1) (by rw [c1]; exact w1) q1' (Or.inr ⟨j, i, by rw [f3]; exact u2, by rw [c3]; exact w2, q1⟩)
    refine ⟨r1, r1', ?_, ?_⟩
    · show ctr F N j + cS (grT (passA F N)) j = ctr C N i + cS (grT (passA C N)) i
      rw [q2, r2]
    · show ctr F N j' + cS (grT (passA F N)) j' = ctr C N i' + cS (grT (passA C N)) i'
      rw [q2', r2']
