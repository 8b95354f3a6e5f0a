/-! ===== acts, both sides ===== -/
theorem o_mut {k : Nat} (hk : k ≤ 5) (RM : ModV) (b c : AI) (m v x : Int32) : ∃ (l : List Int32) (r : Int32), l.length ≤ 30 ∧ fX1_mutters (b, 0, 0, nI k, m, v) x = some (r, app b 0 l, nI l.length) ∧ fX9_mutters (RM.wact c 0 (nI k) m v 0) x = some (r, app c 0 l, nI l.length) := by
  rcases z_six hk with rfl | rfl | rfl | rfl | rfl | rfl
  · exact ⟨[10], (x + (m * (6 : Int32))), by decide, xm_0 b m v x, mm_0 RM c m v x⟩
  · exact ⟨[10], (x + (m * (6 : Int32))), by decide, xm_1 b m v x, mm_1 RM c m v x⟩
  · exact ⟨[30, 10], ((0 : Int32) - (x + (m * (6 : Int32)))), by decide, xm_2 b m v x, mm_2 RM c m v x⟩
  · exact ⟨[51, 10], ((x + (m * (6 : Int32))) + (7 : Int32)), by decide, xm_3 b m v x, mm_3 RM c m v x⟩
  · exact ⟨[40, 30, 10], (((0 : Int32) - (x + (m * (6 : Int32)))) - (5 : Int32)), by decide, xm_4 b m v x, mm_4 RM c m v x⟩
  · exact ⟨[10], (x + (m * (6 : Int32))), by decide, xm_5 b m v x, mm_5 RM c m v x⟩
theorem o_say {k : Nat} (hk : k ≤ 5) (RM : ModV) (b c : AI) (m v x : Int32) : ∃ (l : List Int32) (r : Int32), l.length ≤ 30 ∧ fX1_says (b, 0, 0, nI k, m, v) x = some (r, app b 0 l, nI l.length) ∧ fX9_says (RM.wact c 0 (nI k) m v 0) x = some (r, app c 0 l, nI l.length) := by
  rcases z_six hk with rfl | rfl | rfl | rfl | rfl | rfl
  · exact ⟨[11, 10], (((x + (m * (6 : Int32))) * (2 : Int32)) + v), by decide, xs_0 b m v x, ms_0 RM c m v x⟩
  · exact ⟨[20, 11, 10], ((((x + (m * (6 : Int32))) * (2 : Int32)) + v) * (3 : Int32)), by decide, xs_1 b m v x, ms_1 RM c m v x⟩
  · exact ⟨[11, 30, 10], ((((0 : Int32) - (x + (m * (6 : Int32)))) * (2 : Int32)) + v), by decide, xs_2 b m v x, ms_2 RM c m v x⟩
  · exact ⟨[20, 11, 51, 10], (((((x + (m * (6 : Int32))) + (7 : Int32)) * (2 : Int32)) + v) * (3 : Int32)), by decide, xs_3 b m v x, ms_3 RM c m v x⟩
  · exact ⟨[41, 11, 40, 30, 10, 40, 30, 10], ((((((0 : Int32) - (x + (m * (6 : Int32)))) - (5 : Int32)) * (2 : Int32)) + v) ^^^ (((0 : Int32) - (v + (m * (6 : Int32)))) - (5 : Int32))), by decide, xs_4 b m v x, ms_4 RM c m v x⟩
  · exact ⟨[11, 10], (((x + (m * (6 : Int32))) * (2 : Int32)) + v), by decide, xs_5 b m v x, ms_5 RM c m v x⟩
theorem z_mv {i w : Nat} (hi : i < 1000) (hw : w < 1000) : i = w ∨ (¬ nI w - nI i = 0 ∧ ¬ nI i = nI w ∧ ht_nz (nI w - nI i) = true) := by
  by_cases e : i = w
  · exact Or.inl e
  · have h : ¬ nI w - nI i = 0 := fun q => by
      have q2 := congrArg Int32.toInt q
      rw [z_subT (by omega) (by omega), show ((0 : Int32).toInt) = 0 by decide] at q2
      omega
    exact Or.inr ⟨h, fun q => e ((z_eq (by omega) (by omega)).mp q), by simp [ht_nz, h]⟩
theorem o_par {k : Nat} (hk : k ≤ 5) (RM : ModV) (b c : AI) {i w : Nat} (hi : i < 1000) (hw : w < 1000) (x : Int32) : ∃ (l : List Int32) (r r2 p : Int32), l.length ≤ 30 ∧ (p = 0 → r = r2) ∧ fX1_parts (b, 0, 0, nI k, nI i, nI w) x = some (r, app b 0 l, nI l.length, p) ∧ fX9_parts (RM.wact c 0 (nI k) (nI i) (nI w) 0) x = some (r2, app c 0 l, nI l.length, p) := by
  rcases z_mv hi hw with rfl | ⟨hz, he, hn⟩
  · rcases z_six hk with rfl | rfl | rfl | rfl | rfl | rfl
    · exact ⟨[12], 0, 0, 1, by decide, fun q => absurd q (by decide), xq_0 b (nI i) x, mq_0 RM c (nI i) x⟩
    · exact ⟨[12], 0, 0, 1, by decide, fun q => absurd q (by decide), xq_1 b (nI i) x, mq_1 RM c (nI i) x⟩
    · exact ⟨[12], 0, 0, 1, by decide, fun q => absurd q (by decide), xq_2 b (nI i) x, mq_2 RM c (nI i) x⟩
    · exact ⟨[50, 12], 0, (0 : Int32) + nI i, 1, by decide, fun q => absurd q (by decide), xq_3 b (nI i) x, mq_3 RM c (nI i) x⟩
    · exact ⟨[12], 0, 0, 1, by decide, fun q => absurd q (by decide), xq_4 b (nI i) x, mq_4 RM c (nI i) x⟩
    · exact ⟨[61, 12], 0, 0, 1, by decide, fun q => absurd q (by decide), xq_5 b (nI i) x, mq_5 RM c (nI i) x⟩
  · rcases z_six hk with rfl | rfl | rfl | rfl | rfl | rfl
    · exact ⟨[12], (x / ((nI w) - (nI i))), (x / ((nI w) - (nI i))), 0, by decide, fun _ => rfl, xp_0 b (nI i) (nI w) x hz hn, mp_0 RM c (nI i) (nI w) x he hn⟩
    · exact ⟨[12], (x / ((nI w) - (nI i))), (x / ((nI w) - (nI i))), 0, by decide, fun _ => rfl, xp_1 b (nI i) (nI w) x hz hn, mp_1 RM c (nI i) (nI w) x he hn⟩
    · exact ⟨[12], (x / ((nI w) - (nI i))), (x / ((nI w) - (nI i))), 0, by decide, fun _ => rfl, xp_2 b (nI i) (nI w) x hz hn, mp_2 RM c (nI i) (nI w) x he hn⟩
    · exact ⟨[50, 12], (((x * (2 : Int32)) / ((nI w) - (nI i))) + (nI i)), (((x * (2 : Int32)) / ((nI w) - (nI i))) + (nI i)), 0, by decide, fun _ => rfl, xp_3 b (nI i) (nI w) x hz hn, mp_3 RM c (nI i) (nI w) x he hn⟩
    · exact ⟨[12], (x / ((nI w) - (nI i))), (x / ((nI w) - (nI i))), 0, by decide, fun _ => rfl, xp_4 b (nI i) (nI w) x hz hn, mp_4 RM c (nI i) (nI w) x he hn⟩
    · exact ⟨[61, 12, 10], ((x / ((nI w) - (nI i))) + ((nI i) + ((nI i) * (6 : Int32)))), ((x / ((nI w) - (nI i))) + ((nI i) + ((nI i) * (6 : Int32)))), 0, by decide, fun _ => rfl, xp_5 b (nI i) (nI w) x hz hn, mp_5 RM c (nI i) (nI w) x he hn⟩
theorem o_sho {k : Nat} (hk : k ≤ 5) (RM : ModV) (b c : AI) {i w : Nat} (hi : i < 1000) (hw : w < 1000) (x : Int32) : ∃ (l : List Int32) (r r2 p : Int32), l.length ≤ 30 ∧ (p = 0 → r = r2) ∧ fX1_shouts (b, 0, 0, nI k, nI i, nI w) x = some (r, app b 0 l, nI l.length, p) ∧ fX9_shouts (RM.wact c 0 (nI k) (nI i) (nI w) 0) x = some (r2, app c 0 l, nI l.length, p) := by
  rcases z_mv hi hw with rfl | ⟨hz, he, hn⟩
  · rcases z_six hk with rfl | rfl | rfl | rfl | rfl | rfl
    · exact ⟨[13, 11, 10], ((((x + ((nI i) * (6 : Int32))) * (2 : Int32)) + (nI i)) ^^^ (60 : Int32)), ((((x + ((nI i) * (6 : Int32))) * (2 : Int32)) + (nI i)) ^^^ (60 : Int32)), 0, by decide, fun _ => rfl, xh_0 b (nI i) (nI i) x, mh_0 RM c (nI i) (nI i) x⟩
    · exact ⟨[13, 20, 11, 10], (((((x + ((nI i) * (6 : Int32))) * (2 : Int32)) + (nI i)) * (3 : Int32)) ^^^ (60 : Int32)), (((((x + ((nI i) * (6 : Int32))) * (2 : Int32)) + (nI i)) * (3 : Int32)) ^^^ (60 : Int32)), 0, by decide, fun _ => rfl, xh_1 b (nI i) (nI i) x, mh_1 RM c (nI i) (nI i) x⟩
    · exact ⟨[31, 13, 11, 30, 10, 12], ((((((0 : Int32) - (x + ((nI i) * (6 : Int32)))) * (2 : Int32)) + (nI i)) ^^^ (60 : Int32)) + (0 : Int32)), ((((((0 : Int32) - (x + ((nI i) * (6 : Int32)))) * (2 : Int32)) + (nI i)) ^^^ (60 : Int32)) + (0 : Int32)), 1, by decide, fun _ => rfl, xi_2 b (nI i) x, mi_2 RM c (nI i) x⟩
    · exact ⟨[13, 20, 11, 51, 10], ((((((x + ((nI i) * (6 : Int32))) + (7 : Int32)) * (2 : Int32)) + (nI i)) * (3 : Int32)) ^^^ (60 : Int32)), ((((((x + ((nI i) * (6 : Int32))) + (7 : Int32)) * (2 : Int32)) + (nI i)) * (3 : Int32)) ^^^ (60 : Int32)), 0, by decide, fun _ => rfl, xh_3 b (nI i) (nI i) x, mh_3 RM c (nI i) (nI i) x⟩
    · exact ⟨[31, 13, 41, 11, 40, 30, 10, 40, 30, 10, 12], ((((((((0 : Int32) - (x + ((nI i) * (6 : Int32)))) - (5 : Int32)) * (2 : Int32)) + (nI i)) ^^^ (((0 : Int32) - ((nI i) + ((nI i) * (6 : Int32)))) - (5 : Int32))) ^^^ (60 : Int32)) + (0 : Int32)), ((((((((0 : Int32) - (x + ((nI i) * (6 : Int32)))) - (5 : Int32)) * (2 : Int32)) + (nI i)) ^^^ (((0 : Int32) - ((nI i) + ((nI i) * (6 : Int32)))) - (5 : Int32))) ^^^ (60 : Int32)) + (0 : Int32)), 1, by decide, fun _ => rfl, xi_4 b (nI i) x, mi_4 RM c (nI i) x⟩
    · exact ⟨[60, 13, 11, 10], ((9 : Int32) - ((((x + ((nI i) * (6 : Int32))) * (2 : Int32)) + (nI i)) ^^^ (60 : Int32))), ((9 : Int32) - ((((x + ((nI i) * (6 : Int32))) * (2 : Int32)) + (nI i)) ^^^ (60 : Int32))), 0, by decide, fun _ => rfl, xh_5 b (nI i) (nI i) x, mh_5 RM c (nI i) (nI i) x⟩
  · rcases z_six hk with rfl | rfl | rfl | rfl | rfl | rfl
    · exact ⟨[13, 11, 10], ((((x + ((nI i) * (6 : Int32))) * (2 : Int32)) + (nI w)) ^^^ (60 : Int32)), ((((x + ((nI i) * (6 : Int32))) * (2 : Int32)) + (nI w)) ^^^ (60 : Int32)), 0, by decide, fun _ => rfl, xh_0 b (nI i) (nI w) x, mh_0 RM c (nI i) (nI w) x⟩
    · exact ⟨[13, 20, 11, 10], (((((x + ((nI i) * (6 : Int32))) * (2 : Int32)) + (nI w)) * (3 : Int32)) ^^^ (60 : Int32)), (((((x + ((nI i) * (6 : Int32))) * (2 : Int32)) + (nI w)) * (3 : Int32)) ^^^ (60 : Int32)), 0, by decide, fun _ => rfl, xh_1 b (nI i) (nI w) x, mh_1 RM c (nI i) (nI w) x⟩
    · exact ⟨[31, 13, 11, 30, 10, 12], ((((((0 : Int32) - (x + ((nI i) * (6 : Int32)))) * (2 : Int32)) + (nI w)) ^^^ (60 : Int32)) + ((nI i) / ((nI w) - (nI i)))), ((((((0 : Int32) - (x + ((nI i) * (6 : Int32)))) * (2 : Int32)) + (nI w)) ^^^ (60 : Int32)) + ((nI i) / ((nI w) - (nI i)))), 0, by decide, fun _ => rfl, xh_2 b (nI i) (nI w) x hz hn, mh_2 RM c (nI i) (nI w) x he hn⟩
    · exact ⟨[13, 20, 11, 51, 10], ((((((x + ((nI i) * (6 : Int32))) + (7 : Int32)) * (2 : Int32)) + (nI w)) * (3 : Int32)) ^^^ (60 : Int32)), ((((((x + ((nI i) * (6 : Int32))) + (7 : Int32)) * (2 : Int32)) + (nI w)) * (3 : Int32)) ^^^ (60 : Int32)), 0, by decide, fun _ => rfl, xh_3 b (nI i) (nI w) x, mh_3 RM c (nI i) (nI w) x⟩
    · exact ⟨[31, 13, 41, 11, 40, 30, 10, 40, 30, 10, 12], ((((((((0 : Int32) - (x + ((nI i) * (6 : Int32)))) - (5 : Int32)) * (2 : Int32)) + (nI w)) ^^^ (((0 : Int32) - ((nI w) + ((nI i) * (6 : Int32)))) - (5 : Int32))) ^^^ (60 : Int32)) + ((nI i) / ((nI w) - (nI i)))), ((((((((0 : Int32) - (x + ((nI i) * (6 : Int32)))) - (5 : Int32)) * (2 : Int32)) + (nI w)) ^^^ (((0 : Int32) - ((nI w) + ((nI i) * (6 : Int32)))) - (5 : Int32))) ^^^ (60 : Int32)) + ((nI i) / ((nI w) - (nI i)))), 0, by decide, fun _ => rfl, xh_4 b (nI i) (nI w) x hz hn, mh_4 RM c (nI i) (nI w) x he hn⟩
    · exact ⟨[60, 13, 11, 10], ((9 : Int32) - ((((x + ((nI i) * (6 : Int32))) * (2 : Int32)) + (nI w)) ^^^ (60 : Int32))), ((9 : Int32) - ((((x + ((nI i) * (6 : Int32))) * (2 : Int32)) + (nI w)) ^^^ (60 : Int32))), 0, by decide, fun _ => rfl, xh_5 b (nI i) (nI w) x, mh_5 RM c (nI i) (nI w) x⟩
/-- what an act sees of a shelf -/
def SFp (Y hw hi : AI) : Prop := ∀ h, h < 4 → (Y h = -1 ∧ ¬ hw h = 1) ∨ (∃ n, n < 8 ∧ Y h = nI n ∧ hw h = 1 ∧ hi h = nI n)
theorem SFs.p {Y : AI} {Z : AQ} {st : Nat → Option RowV} {hw hi hm : AI} (H : SFs Y Z st hw hi hm) : SFp Y hw hi := by
  intro h hh
  rcases H h hh with ⟨-, f2, f3⟩ | ⟨n, hn, -, f2, f3, f4⟩ | ⟨j, W, q, -, -, f2, f3, -⟩
  · exact Or.inl ⟨f2, by rw [f3]; decide⟩
  · exact Or.inr ⟨n, hn, f2, f3, f4⟩
  · exact Or.inl ⟨f2, by rw [f3]; decide⟩
/-- the trace, on both sides -/
def DE (RE : DeedV) (RM : ModV) : Prop := ∃ n, n ≤ 30 ∧ RE.begun = nI n ∧ RM.ran = nI n ∧ ∀ i, i < n → RE.bodies i = RM.bodies i
theorem o_act {RX : HTV} {RE : DeedV} {A : Tn} {T : TownV} {Y : AI} {RM : ModV} (hI : TI A T RM.s) (hf : SFp Y RM.holdsWhat RM.holdsWhich) (y1 y2 y3 : Int32) : ∃ (r : Int32) (b c : AI) (n : Nat) (p1 k1 m1 v1 k2 m2 v2 p2 : Int32), fX8_act RX RE T Y y1 y2 y3 = some (r, b, nI n, p1, k1, m1, v1) ∧ fX9_act RM y1 y2 y3 = some (r, c, nI n, k2, m2, v2, p2) ∧ n ≤ 30 ∧ ∀ i, i < n → b i = c i := by
  obtain ⟨hT, hM, hR, hA, hP⟩ := hI
  have h8 := hR.1
  have fg : fX1_forget RE = some ((0 : Int32), (0 : Int32)) := rfl
  rcases z_four y1 with ⟨-, a, -, b, -⟩ | ⟨u, hu, rfl, -, a, -, b, g, c⟩
  · refine ⟨0, RE.bodies, RM.bodies, 0, 0, RE.kind, RE.number, RE.voice, RM.actKind, RM.actN, RM.actA, RM.isParted, ?_, ?_, by omega, fun i hi => absurd hi (by omega)⟩
    · unfold fX8_act; rw [z_bn fg, z_bn a, if_pos rfl]; rfl
    · unfold fX9_act; rw [z_bn b, if_pos rfl]; rfl
  rcases z_rng y2 0 3 (a := 0) (b := 3) (c := 0) (d := 3) rfl rfl rfl rfl (by omega) (by omega) with ⟨w, i⟩ | ⟨p, -, hp, rfl, w, i⟩
  · refine ⟨0, RE.bodies, RM.bodies, 0, 0, RE.kind, RE.number, RE.voice, RM.actKind, RM.actN, RM.actA, RM.isParted, ?_, ?_, by omega, fun i hi => absurd hi (by omega)⟩
    · unfold fX8_act; rw [z_bn fg, z_bn a, if_neg z_01, z_bn w, if_pos rfl]; rfl
    · unfold fX9_act; rw [z_bn b, if_neg z_01, z_bn i, if_pos rfl]; rfl
  rcases hf u hu with ⟨f2, f3⟩ | ⟨n, hn, f2, f3, f4⟩
  · have hd := m_held0 (RM := RM.wact RM.bodies 0 RM.actKind RM.actN RM.actA RM.isParted) hu (v := RM.holdsWhat u) rfl f3
    refine ⟨0, RE.bodies, RM.bodies, 0, 0, RE.kind, RE.number, RE.voice, RM.actKind, RM.actN, RM.actA, RM.isParted, ?_, ?_, by omega, fun i hi => absurd hi (by omega)⟩
    · unfold fX8_act; rw [z_bn fg, z_bn a, if_neg z_01, z_bn w, if_neg z_01, z_gd g, c, f2, z_nm, z_bn x_hasM, if_pos rfl]; rfl
    · unfold fX9_act; rw [z_bn b, if_neg z_01, z_bn i, if_neg z_01]
      refine Eq.trans (z_bn hd) ?_
      rw [if_neg f3]; rfl
  rcases z_has (T := T) (RM := RM.wact RM.bodies 0 RM.actKind RM.actN RM.actA RM.isParted) hT.1 hM.1 h8 (nI n) with ⟨w3, i3⟩ | ⟨o, ho, e, w3, i3⟩
  · have hd := m_held1 (RM := RM.wact RM.bodies 0 RM.actKind RM.actN RM.actA RM.isParted) hu f3 f4 i3
    rw [if_pos rfl] at hd
    refine ⟨0, RE.bodies, RM.bodies, 0, 0, RE.kind, RE.number, RE.voice, RM.actKind, RM.actN, RM.actA, RM.isParted, ?_, ?_, by omega, fun i hi => absurd hi (by omega)⟩
    · unfold fX8_act; rw [z_bn fg, z_bn a, if_neg z_01, z_bn w, if_neg z_01, z_gd g, c, f2, z_nm, z_bn w3, if_pos rfl]; rfl
    · unfold fX9_act; rw [z_bn b, if_neg z_01, z_bn i, if_neg z_01]
      refine Eq.trans (z_bn hd) ?_
      rw [if_neg (by decide)]; rfl
  have e' : n = o := (z_eq (by omega) (by omega)).mp e
  subst e'
  have hd := m_held1 (RM := RM.wact RM.bodies 0 RM.actKind RM.actN RM.actA RM.isParted) hu f3 f4 i3
  rw [if_neg z_01] at hd
  obtain ⟨q1, q2, q3, q4, q5, q6⟩ := hR.2.2.2.2.2.2.2.2 n ho
  have g8 : ht_ix (nI n) 8 = true := z_ix (by omega) (by omega)
  have c8 : (nI n).toNatClampNeg = n := z_cl (by omega)
  have hkd : T.kind n = nI (A.kd n) := hT.2.2.2.2.2.2.1 n ho
  have hvc : T.voice n = nI (A.vc n) := hT.2.2.2.2.2.2.2.2.2.1 n ho
  have hsk : RM.s (9 + 6 * n + 0) = nI (A.kd n) := hM.2.2.2.2.2.2.1 n ho
  have hsv : RM.s (9 + 6 * n + 3) = nI (A.vc n) := hM.2.2.2.2.2.2.2.2.2.1 n ho
  have hi0 : fX9_its (RM.wact RM.bodies 0 RM.actKind RM.actN RM.actA 0) (nI n) (0 : Int32) = some (nI (A.kd n)) := (z_its (RM := RM.wact RM.bodies 0 RM.actKind RM.actN RM.actA 0) (o := n) (w := 0) (by omega)).trans (congrArg some hsk)
  have hi3 : fX9_its (RM.wact RM.bodies 0 (nI (A.kd n)) (nI n) RM.actA 0) (nI n) (3 : Int32) = some (nI (A.vc n)) := (z_its (RM := RM.wact RM.bodies 0 (nI (A.kd n)) (nI n) RM.actA 0) (o := n) (w := 3) (by omega)).trans (congrArg some hsv)
  -- both have come to the act itself
  have EX : ∀ (r : Int32) (bb : AI) (nn pp : Int32), fX1_run (RE.bodies, (0 : Int32), (0 : Int32), RE.kind, RE.number, RE.voice) T (nI n) (nI p) y3 = some (r, bb, nn, pp, nI (A.kd n), nI n, nI (A.vc n)) → fX8_act RX RE T Y (nI u) (nI p) y3 = some (if pp = 0 then r else -15, bb, nn, pp, nI (A.kd n), nI n, nI (A.vc n)) := by
    intro r bb nn pp hr
    unfold fX8_act
    rw [z_bn fg, z_bn a, if_neg z_01, z_bn w, if_neg z_01, z_gd g, c, f2, z_nm, z_bn w3, if_neg z_01]
    refine Eq.trans (z_bn hr) ?_
    rw [z_nm]
    by_cases e0 : pp = 0
    · rw [if_pos e0, if_pos e0]
    · rw [if_neg e0, if_neg e0]
  have ER : fX1_run (RE.bodies, (0 : Int32), (0 : Int32), RE.kind, RE.number, RE.voice) T (nI n) (nI p) y3 = (if nI p = 0 then (ht_bn (fX1_mutters (RE.bodies, 0, 0, nI (A.kd n), nI n, nI (A.vc n)) y3) (fun o_6 => some (o_6.1, o_6.2.1, o_6.2.2, (0 : Int32), nI (A.kd n), nI n, nI (A.vc n)))) else if nI p = 1 then (ht_bn (fX1_says (RE.bodies, 0, 0, nI (A.kd n), nI n, nI (A.vc n)) y3) (fun o_8 => some (o_8.1, o_8.2.1, o_8.2.2, (0 : Int32), nI (A.kd n), nI n, nI (A.vc n)))) else if nI p = 2 then (ht_bn (fX1_parts (RE.bodies, 0, 0, nI (A.kd n), nI n, nI (A.vc n)) y3) (fun o_10 => some (o_10.1, o_10.2.1, o_10.2.2.1, o_10.2.2.2, nI (A.kd n), nI n, nI (A.vc n)))) else (ht_bn (fX1_shouts (RE.bodies, 0, 0, nI (A.kd n), nI n, nI (A.vc n)) y3) (fun o_11 => some (o_11.1, o_11.2.1, o_11.2.2.1, o_11.2.2.2, nI (A.kd n), nI n, nI (A.vc n))))) := by
    unfold fX1_run
    rw [z_gd g8, z_nm, z_gd g8, z_nm, c8, hkd, hvc]
  have EM : fX9_act RM (nI u) (nI p) y3 = (if nI p = 0 then (ht_bn (fX9_mutters (RM.wact RM.bodies 0 (nI (A.kd n)) (nI n) (nI (A.vc n)) 0) y3) (fun o_20 => fX9_act_b123 RM o_20.1 o_20.2.1 o_20.2.2 (nI (A.kd n)) (nI n) (nI (A.vc n)) (0 : Int32))) else (if nI p = (1 : Int32) then (ht_bn (fX9_says (RM.wact RM.bodies 0 (nI (A.kd n)) (nI n) (nI (A.vc n)) 0) y3) (fun o_19 => fX9_act_b123 RM o_19.1 o_19.2.1 o_19.2.2 (nI (A.kd n)) (nI n) (nI (A.vc n)) (0 : Int32))) else (if nI p = (2 : Int32) then (ht_bn (fX9_parts (RM.wact RM.bodies 0 (nI (A.kd n)) (nI n) (nI (A.vc n)) 0) y3) (fun o_18 => fX9_act_b123 RM o_18.1 o_18.2.1 o_18.2.2.1 (nI (A.kd n)) (nI n) (nI (A.vc n)) o_18.2.2.2)) else (ht_bn (fX9_shouts (RM.wact RM.bodies 0 (nI (A.kd n)) (nI n) (nI (A.vc n)) 0) y3) (fun o_17 => fX9_act_b123 RM o_17.1 o_17.2.1 o_17.2.2.1 (nI (A.kd n)) (nI n) (nI (A.vc n)) o_17.2.2.2))))) := by
    unfold fX9_act
    rw [z_bn b, if_neg z_01, z_bn i, if_neg z_01]
    refine Eq.trans (z_bn hd) ?_
    rw [if_pos rfl, z_gd g, c, f4]
    refine Eq.trans (z_bn hi0) ?_
    rw [z_gd g, z_nm, z_gd g]
    exact z_bn hi3
  have M123 : ∀ (r r2 : Int32) (bb : AI) (nn pp : Int32), (pp = 0 → r = r2) → fX9_act_b123 RM r2 bb nn (nI (A.kd n)) (nI n) (nI (A.vc n)) pp = some (if pp = 0 then r else -15, bb, nn, nI (A.kd n), nI n, nI (A.vc n), pp) := by
    intro r r2 bb nn pp hr
    unfold fX9_act_b123
    by_cases e0 : pp = 0
    · rw [if_pos e0, if_pos e0, hr e0]
    · rw [if_neg e0, if_neg e0]
  have hp4 : p = 0 ∨ p = 1 ∨ p = 2 ∨ p = 3 := by omega
  rcases hp4 with rfl | rfl | rfl | rfl
  · obtain ⟨l, r, hl, x1, x2⟩ := o_mut q1 RM RE.bodies RM.bodies (nI n) (nI (A.vc n)) y3
    refine ⟨if (0 : Int32) = 0 then r else -15, app RE.bodies 0 l, app RM.bodies 0 l, l.length, 0, nI (A.kd n), nI n, nI (A.vc n), nI (A.kd n), nI n, nI (A.vc n), 0, EX r _ _ 0 ?_, ?_, hl, fun i hi => app_same l _ _ 0 i (by omega) (by omega)⟩
    · rw [ER, if_pos (by decide)]; exact z_bn x1
    · rw [EM, if_pos (by decide)]; exact (z_bn x2).trans (M123 r r _ _ 0 (fun _ => rfl))
  · obtain ⟨l, r, hl, x1, x2⟩ := o_say q1 RM RE.bodies RM.bodies (nI n) (nI (A.vc n)) y3
    refine ⟨if (0 : Int32) = 0 then r else -15, app RE.bodies 0 l, app RM.bodies 0 l, l.length, 0, nI (A.kd n), nI n, nI (A.vc n), nI (A.kd n), nI n, nI (A.vc n), 0, EX r _ _ 0 ?_, ?_, hl, fun i hi => app_same l _ _ 0 i (by omega) (by omega)⟩
    · rw [ER, if_neg (by decide), if_pos (by decide)]; exact z_bn x1
    · rw [EM, if_neg (by decide), if_pos (by decide)]; exact (z_bn x2).trans (M123 r r _ _ 0 (fun _ => rfl))
  · obtain ⟨l, r, r2, pp, hl, hr, x1, x2⟩ := o_par q1 RM RE.bodies RM.bodies (i := n) (w := A.vc n) (by omega) (by omega) y3
    refine ⟨if pp = 0 then r else -15, app RE.bodies 0 l, app RM.bodies 0 l, l.length, pp, nI (A.kd n), nI n, nI (A.vc n), nI (A.kd n), nI n, nI (A.vc n), pp, EX r _ _ pp ?_, ?_, hl, fun i hi => app_same l _ _ 0 i (by omega) (by omega)⟩
    · rw [ER, if_neg (by decide), if_neg (by decide), if_pos (by decide)]; exact z_bn x1
    · rw [EM, if_neg (by decide), if_neg (by decide), if_pos (by decide)]; exact (z_bn x2).trans (M123 r r2 _ _ pp hr)
  · obtain ⟨l, r, r2, pp, hl, hr, x1, x2⟩ := o_sho q1 RM RE.bodies RM.bodies (i := n) (w := A.vc n) (by omega) (by omega) y3
    refine ⟨if pp = 0 then r else -15, app RE.bodies 0 l, app RM.bodies 0 l, l.length, pp, nI (A.kd n), nI n, nI (A.vc n), nI (A.kd n), nI n, nI (A.vc n), pp, EX r _ _ pp ?_, ?_, hl, fun i hi => app_same l _ _ 0 i (by omega) (by omega)⟩
    · rw [ER, if_neg (by decide), if_neg (by decide), if_neg (by decide)]; exact z_bn x1
    · rw [EM, if_neg (by decide), if_neg (by decide), if_neg (by decide)]; exact (z_bn x2).trans (M123 r r2 _ _ pp hr)
theorem o_trace {RX : HTV} {RE : DeedV} {RM : ModV} (h : DE RE RM) (y1 : Int32) : ∃ r, fX8_trace RX RE y1 = some r ∧ fX9_trace RM y1 = some r := by
  obtain ⟨n, hn, h1, h2, h3⟩ := h
  have E : fX9_isIn y1.toInt64 (0 : Int64) ((RM.ran - (1 : Int32)).toInt64) = some (if y1 < 0 then 0 else if nI n - 1 < y1 then 0 else 1) := by rw [h2]; exact m_isIn0 y1 (nI n - 1)
  have F : fX8_within y1 (0 : Int32) (RE.begun - (1 : Int32)) = some (if y1 < 0 then 0 else if nI n - 1 < y1 then 0 else 1) := by
    rw [h1]
    unfold fX8_within
    by_cases c1 : y1 < 0
    · rw [if_pos c1, if_pos c1]
    · rw [if_neg c1, if_neg c1]
      by_cases c2 : nI n - 1 < y1
      · rw [if_pos c2, if_pos c2]
      · rw [if_neg c2, if_neg c2]
  by_cases c1 : y1 < 0
  · rw [if_pos c1] at E F
    refine ⟨-3, ?_, ?_⟩
    · unfold fX8_trace; rw [z_bn F, if_pos rfl]
    · unfold fX9_trace; rw [z_bn E, if_pos rfl]
  rw [if_neg c1] at E F
  by_cases c2 : nI n - 1 < y1
  · rw [if_pos c2] at E F
    refine ⟨-3, ?_, ?_⟩
    · unfold fX8_trace; rw [z_bn F, if_pos rfl]
    · unfold fX9_trace; rw [z_bn E, if_pos rfl]
  rw [if_neg c2] at E F
  have c3 : ¬ nI n ≤ y1 := fun q => c2 ((z_pre (by omega) y1).mpr q)
  obtain ⟨j, hj, rfl⟩ := nI_of c1
  have hjn : j < n := Nat.lt_of_not_le (fun q => c3 (nI_le q hj))
  have g : ht_ix (nI j) 30 = true := z_ix (by omega) (by omega)
  have c : (nI j).toNatClampNeg = j := z_cl (by omega)
  refine ⟨RM.bodies j, ?_, ?_⟩
  · unfold fX8_trace; rw [z_bn F, if_neg z_01, z_gd g, c, h3 j hjn]
  · unfold fX9_trace; rw [z_bn E, if_neg z_01, z_gd g, c]
