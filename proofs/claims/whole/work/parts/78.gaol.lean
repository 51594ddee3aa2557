/-! a gaol by draws: a day of it, by both -/
def drw (x0 x1 : Int32) : Int32 := ((((((7919 * x0.toInt64) + (6151 * x1.toInt64)) + 1) * (((7919 * x0.toInt64) + (6151 * x1.toInt64)) + 1)) - ((((7919 * x0.toInt64) + (6151 * x1.toInt64)) + 1) * (((7919 * x0.toInt64) + (6151 * x1.toInt64)) + 1)) / 65521 * 65521).toInt32)
theorem bm64 {x : Int} (h : 0 ≤ x) (h2 : x < 9223372036854775808) : x.bmod (2 ^ 64) = x := by
  rw [Int.bmod_eq_of_le] <;> omega
theorem bm32 {x : Int} (h : 0 ≤ x) (h2 : x < 2147483648) : x.bmod (2 ^ 32) = x := by
  rw [Int.bmod_eq_of_le] <;> omega
theorem drw_nat {z k : Nat} (hz : z ≤ 9999) (hk : k ≤ 40) : ∃ d, d < 65521 ∧ drw (nI z) (nI k) = nI d := by
  have e1 : (nI z).toInt64.toInt = (z : Int) := by rw [Int32.toInt_toInt64, nI_toInt (by omega)]
  have e2 : (nI k).toInt64.toInt = (k : Int) := by rw [Int32.toInt_toInt64, nI_toInt (by omega)]
  have c1 : (7919 : Int64).toInt = 7919 := by decide
  have c2 : (6151 : Int64).toInt = 6151 := by decide
  have c3 : (1 : Int64).toInt = 1 := by decide
  have c4 : (65521 : Int64).toInt = 65521 := by decide
  obtain ⟨a, ha⟩ : ∃ a, ((7919 * (nI z).toInt64) + (6151 * (nI k).toInt64)) + 1 = a := ⟨_, rfl⟩
  have ea : a.toInt = 7919 * (z : Int) + 6151 * (k : Int) + 1 := by
    rw [← ha, Int64.toInt_add, Int64.toInt_add, Int64.toInt_mul, Int64.toInt_mul, e1, e2, c1, c2, c3, bm64 (x := 7919 * (z : Int)) (by omega) (by omega), bm64 (x := 6151 * (k : Int)) (by omega) (by omega), bm64 (x := 7919 * (z : Int) + 6151 * (k : Int)) (by omega) (by omega), bm64 (by omega) (by omega)]
  obtain ⟨A, hA, hA2⟩ : ∃ A : Nat, a.toInt = (A : Int) ∧ A ≤ 100000000 := ⟨7919 * z + 6151 * k + 1, by rw [ea]; omega, by omega⟩
  have hAA : A * A ≤ 100000000 * 100000000 := Nat.mul_le_mul hA2 hA2
  obtain ⟨B, hB⟩ : ∃ B, A * A = B := ⟨_, rfl⟩
  rw [hB] at hAA
  have em : (a * a).toInt = (B : Int) := by
    rw [Int64.toInt_mul, hA, ← Int.natCast_mul, hB, bm64 (by omega) (by omega)]
  have ed : (a * a / 65521).toInt = ((B / 65521 : Nat) : Int) := by
    rw [Int64.toInt_div, em, c4, Int.tdiv_eq_ediv_of_nonneg (by omega), bm64 (by omega) (by omega)]
    omega
  have er : (a * a - a * a / 65521 * 65521).toInt = ((B % 65521 : Nat) : Int) := by
    rw [Int64.toInt_sub, em, Int64.toInt_mul, ed, c4, bm64 (x := ((B / 65521 : Nat) : Int) * 65521) (by omega) (by omega), bm64 (by omega) (by omega)]
    omega
  refine ⟨B % 65521, by omega, ?_⟩
  unfold drw
  rw [ha]
  apply Int32.toInt_inj.mp
  rw [Int64.toInt_toInt32, er, nI_toInt (by omega), bm32 (by omega) (by omega)]
def dyP (g : Nat → Int32) : Nat → Int32 := upd g 0 (g 0 + 1)
def dyG (ro : RO) (g : Nat → Int32) (d : Nat) : Nat → Int32 :=
  if rfB ro g (d % ro.Q) (d / 4 % ro.P) (d / 32 % ro.P) = 0 then dyP (gWed ro g (d % ro.Q) (d / 4 % ro.P) (d / 32 % ro.P))
  else if d / 256 % 2 = 0 ∧ rbB ro g (d % ro.Q) = 0 then dyP (gBegin g (d % ro.Q)) else dyP g
theorem BK_day {ro : RO} {T : Nat} {g : Nat → Int32} (hT : T < 1000000) (h : BK ro T g) : BK ro (T + 1) (dyP g) := BK_pass (n := 1) hT (by omega) h
theorem CB_day {f : hF} {bk : Nat} {g : Nat → Int32} (hc : CB f bk g) : CB (st2 f bk 0 (f bk 0 + 1)) bk (dyP g) := by
  unfold dyP
  refine ⟨by rw [s2_s, u_s, u_s, hc.1], fun q hq => ?_, fun q hq => ?_, fun q hq => ?_, fun t ht hv => ?_⟩
  · rw [s2_n (by omega), u_n (by omega)]; exact hc.2.1 q hq
  · rw [s2_n (by omega), u_n (by omega)]; exact hc.2.2.1 q hq
  · rw [s2_n (by omega), u_n (by omega)]; exact hc.2.2.2.1 q hq
  · have hv2 : vth g t = true := by
      unfold vth vln at hv ⊢
      rw [u_n (by omega)] at hv
      exact hv
    rw [s2_n (by omega), s2_n (by omega), s2_n (by omega), s2_n (by omega), s2_n (by omega), u_n (by omega), u_n (by omega), u_n (by omega), u_n (by omega)]
    exact hc.2.2.2.2 t ht hv2
theorem rf_0 {ro : RO} {g : Nat → Int32} {p a b : Nat} : rfB ro g p a b = 0 ↔ wdB ro g p a b = true ∧ vln g p < 8 := by
  unfold rfB
  cases wdB ro g p a b with
  | false =>
    rw [if_neg (by decide)]
    exact ⟨fun z => absurd z (by decide), fun z => (by cases z.1)⟩
  | true =>
    by_cases z : vln g p < 8
    · rw [if_pos rfl, if_pos z]; exact ⟨fun _ => ⟨rfl, z⟩, fun _ => rfl⟩
    · rw [if_pos rfl, if_neg z]; exact ⟨fun y => absurd y (by decide), fun y => absurd y.2 z⟩
theorem rb_0 {ro : RO} {g : Nat → Int32} {p : Nat} : rbB ro g p = 0 ↔ clB ro g p = true ∧ vln g p < 8 := by
  unfold rbB
  cases clB ro g p with
  | false =>
    rw [if_neg (by decide)]
    exact ⟨fun z => absurd z (by decide), fun z => (by cases z.1)⟩
  | true =>
    by_cases z : vln g p < 8
    · rw [if_pos rfl, if_pos z]; exact ⟨fun _ => ⟨rfl, z⟩, fun _ => rfl⟩
    · rw [if_pos rfl, if_neg z]; exact ⟨fun y => absurd y (by decide), fun y => absurd y.2 z⟩
theorem wd_cp {ro : RO} {g : Nat → Int32} {p a b : Nat} (h : wdB ro g p a b = true) : cpB ro a b = true := by
  unfold wdB at h
  simp only [Bool.and_eq_true] at h
  exact h.1.1
theorem dyG_BK {ro : RO} {T : Nat} {g : Nat → Int32} (hk : ROk ro) (hT : T < 1000000) (h : BK ro T g) (d : Nat) : BK ro (T + 1) (dyG ro g d) := by
  have hp : d % ro.Q < ro.Q := Nat.mod_lt _ (by have := hk.2.2.1; omega)
  have ha : d / 4 % ro.P < ro.P := Nat.mod_lt _ (by have := hk.1; omega)
  have hb : d / 32 % ro.P < ro.P := Nat.mod_lt _ (by have := hk.1; omega)
  unfold dyG
  by_cases q : rfB ro g (d % ro.Q) (d / 4 % ro.P) (d / 32 % ro.P) = 0
  · rw [if_pos q]
    obtain ⟨q1, q2⟩ := rf_0.mp q
    exact BK_day hT (BK_wed hk hT hp ha hb (wd_cp q1) q2 h)
  · rw [if_neg q]
    by_cases y : d / 256 % 2 = 0 ∧ rbB ro g (d % ro.Q) = 0
    · rw [if_pos y]
      exact BK_day hT (BK_begin hT hk.2.2.2.1 hp (rb_0.mp y.2).2 h)
    · rw [if_neg y]; exact BK_day hT h
theorem co_day {ro : RO} {T : Nat} {g : Nat → Int32} {f : hF} (hr : RR ro f) (hT : T < 1000000) (h : BK ro T g) (hc : CB f 34 g) {d : Nat} (hd : d < 65521) : ∃ f2, fX2_liveDay 33 3 f (nI d) = some f2 ∧ (∀ j, ¬ (34 ≤ j ∧ j ≤ 42) → f2 j = f j) ∧ CB f2 34 (dyG ro g d) := by
  have hk := hr.ok
  have hP := hk.2.1
  have hQ := hk.2.2.2.1
  have hP1 := hk.1
  have hQ1 := hk.2.2.1
  have hp : d % ro.Q < ro.Q := Nat.mod_lt _ (by omega)
  have ha : d / 4 % ro.P < ro.P := Nat.mod_lt _ (by omega)
  have hb : d / 32 % ro.P < ro.P := Nat.mod_lt _ (by omega)
  have nzk' : ∀ {n : Nat} {k : Option hF}, 1 ≤ n → n < 1000 → nz (nI n) k = k := fun h1 h2 => nzk (fun z => by have := (nI_eq (b := 0) (by omega) (by omega)).mp z; omega)
  have e1 : nI d - nI d / nI ro.Q * nI ro.Q = nI (d % ro.Q) := nrem (by omega) (by omega) (by omega)
  have e2 : nI d / 4 - nI d / 4 / nI ro.P * nI ro.P = nI (d / 4 % ro.P) := by rw [L4, ndiv (by omega) (by omega) (by omega), nrem (by omega) (by omega) (by omega)]
  have e3 : nI d / 32 - nI d / 32 / nI ro.P * nI ro.P = nI (d / 32 % ro.P) := by rw [L32, ndiv (by omega) (by omega) (by omega), nrem (by omega) (by omega) (by omega)]
  have e4 : nI d / 256 - nI d / 256 / 2 * 2 = nI (d / 256 % 2) := by rw [show (256 : Int32) = nI 256 from rfl, ndiv (by omega) (by omega) (by omega), L2, nrem (by omega) (by omega) (by omega)]
  have fin : ∀ (f1 : hF) (g1 : Nat → Int32), (∀ j, ¬ (34 ≤ j ∧ j ≤ 42) → f1 j = f j) → CB f1 34 g1 → ∃ f2, fX2_liveDay_103 33 3 (nI d) f1 = some f2 ∧ (∀ j, ¬ (34 ≤ j ∧ j ≤ 42) → f2 j = f j) ∧ CB f2 34 (dyP g1) := fun f1 g1 h1 h2 => by
    refine ⟨st2 f1 34 0 (f1 34 0 + 1), ?_, fun j hj => by rw [s2_n (by omega), h1 j hj], CB_day h2⟩
    unfold fX2_liveDay_103
    rw [lte]
  unfold fX2_liveDay dyG
  rw [hr.c0, hr.c1, if_neg (show ¬ nI ro.P < (1 : Int32) from fun z => by have := (nI_ltI (b := 1) (by omega) (by omega)).mp z; omega), if_pos (show (1 : Int32) ≤ nI ro.Q from (nI_leI (a := 1) (by omega) (by omega)).mpr hQ1), nzk' hQ1 (by omega), nzk' hP1 (by omega), nzk' hP1 (by omega), e1, e2, e3, e4, co_refuse (k := 33) h.1 hr hc hp ha hb, b1s]
  by_cases q : rfB ro g (d % ro.Q) (d / 4 % ro.P) (d / 32 % ro.P) = 0
  · obtain ⟨q1, q2⟩ := rf_0.mp q
    obtain ⟨f1, c1, c2, c3⟩ := co_wedding (k := 33) h hT (by omega) (by omega) hr hc hp ha hb (wd_cp q1) q2
    rw [if_pos q, if_pos q, c1, b2s]
    exact fin f1 _ (fun j hj => c2 j (by omega)) c3
  · rw [if_neg q, if_neg q, co_refuseB (k := 33) h.1 hr hc hp, b1s]
    by_cases y : d / 256 % 2 = 0
    · rw [if_pos (show nI (d / 256 % 2) = 0 by rw [y]; rfl)]
      by_cases x : rbB ro g (d % ro.Q) = 0
      · obtain ⟨f1, c1, c2, c3⟩ := co_begin h.1 hc (show d % ro.Q < 3 by omega) (rb_0.mp x).2
        rw [if_pos x, if_pos ⟨y, x⟩, c1, b2s]
        exact fin f1 _ (fun j hj => c2 j (by omega) (by omega) (by omega)) c3
      · rw [if_neg x, if_neg (fun w => x w.2)]
        exact fin f g (fun _ _ => rfl) hc
    · rw [if_neg (show ¬ nI (d / 256 % 2) = 0 from fun w => y ((nI_eq (b := 0) (by omega) (by omega)).mp w)), if_neg (fun w => y w.1)]
      exact fin f g (fun _ _ => rfl) hc
theorem mo_day {ro : RO} {T : Nat} {f : hF} (hr : RR ro f) (hT : T < 1000000) (h : BK ro T (f 158)) {d : Nat} (hd : d < 65521) (x1 x2 x3 : Int32) (q64 : hF → Int32 → Int32 → Option (Int32 × hF)) (y4 y5 s0 : Int32) (hs : s0 = if vln (f 158) (d % ro.Q) < 8 then 1 else 0) :
    fX8_gaol_152 x1 x2 x3 q64 f y4 y5 (nI d) (nI (d % ro.Q)) (nI (d / 4 % ro.P)) (nI (d / 32 % ro.P)) s0 = q64 (stA f 158 (dyG ro (f 158) d)) y4 (y5 + 1) := by
  have hk := hr.ok
  have hP := hk.2.1
  have hQ := hk.2.2.2.1
  have hP1 := hk.1
  have hQ1 := hk.2.2.1
  have hp : d % ro.Q < ro.Q := Nat.mod_lt _ (by omega)
  have ha : d / 4 % ro.P < ro.P := Nat.mod_lt _ (by omega)
  have hb : d / 32 % ro.P < ro.P := Nat.mod_lt _ (by omega)
  have e4 : nI d / 256 - nI d / 256 / 2 * 2 = nI (d / 256 % 2) := by rw [show (256 : Int32) = nI 256 from rfl, ndiv (by omega) (by omega) (by omega), L2, nrem (by omega) (by omega) (by omega)]
  have fin : ∀ g1, fX8_gaol_225 x1 x2 x3 q64 (stA f 158 g1) y4 y5 = q64 (stA f 158 (dyP g1)) y4 (y5 + 1) := fun g1 => by
    unfold fX8_gaol_225
    rw [gd0 (by decide), gd0 (by decide), cl0, lte, s2_A, sA_s, sA_sA]
    rfl
  have fin0 : fX8_gaol_225 x1 x2 x3 q64 f y4 y5 = q64 (stA f 158 (dyP (f 158))) y4 (y5 + 1) := by
    have := fin (f 158)
    rw [sA_self] at this
    exact this
  have l192 : rfB ro (f 158) (d % ro.Q) (d / 4 % ro.P) (d / 32 % ro.P) ≠ 0 → fX8_gaol_192 x1 x2 x3 q64 f y4 y5 (nI d) (nI (d % ro.Q)) s0 = q64 (stA f 158 (dyG ro (f 158) d)) y4 (y5 + 1) := by
    intro q
    unfold fX8_gaol_192 dyG
    rw [if_neg q, e4, mo_canLeave h.1 hr hp, b1s, bi_if]
    by_cases y : d / 256 % 2 = 0
    · rw [if_pos (show nI (d / 256 % 2) = 0 by rw [y]; rfl)]
      by_cases z : vln (f 158) (d % ro.Q) < 8
      · rw [if_pos z] at hs
        rw [hs, if_neg (show ¬ (1 : Int32) = 0 by decide)]
        cases w : clB ro (f 158) (d % ro.Q) with
        | false =>
          rw [if_neg (by decide), if_neg (fun v => by rw [(rb_0.mp v.2).1] at w; cases w)]
          exact fin0
        | true =>
          rw [if_pos rfl, if_pos ⟨y, rb_0.mpr ⟨w, z⟩⟩, mo_begins h.1 (show d % ro.Q < 3 by omega) z, b2s]
          exact fin _
      · rw [if_neg z] at hs
        rw [hs, if_pos rfl, if_neg (fun v => z (rb_0.mp v.2).2)]
        exact fin0
    · rw [if_neg (show ¬ nI (d / 256 % 2) = 0 from fun w => y ((nI_eq (b := 0) (by omega) (by omega)).mp w)), if_neg (fun w => y w.1)]
      exact fin0
  unfold fX8_gaol_152
  by_cases e : d / 4 % ro.P = d / 32 % ro.P
  · rw [if_pos (by rw [e])]
    refine l192 (fun q => ?_)
    have := (cpB_mw (wd_cp (rf_0.mp q).1)).1
    exact this e
  · rw [if_neg (by rw [neqq (by omega) (by omega)]; exact e)]
    by_cases z : vln (f 158) (d % ro.Q) < 8
    · have hs' := hs
      rw [if_pos z] at hs'
      rw [if_neg (show ¬ s0 = 0 by rw [hs']; decide), mo_canWed hr hp ha hb, b1s, bi_if]
      cases w : wdB ro (f 158) (d % ro.Q) (d / 4 % ro.P) (d / 32 % ro.P) with
      | false =>
        rw [if_neg (by decide)]
        exact l192 (fun q => by rw [(rf_0.mp q).1] at w; cases w)
      | true =>
        rw [if_pos rfl, mo_weds hr h hp ha hb (wd_cp w) z, b1s, fin]
        unfold dyG
        rw [if_pos (rf_0.mpr ⟨w, z⟩)]
    · have hs' := hs
      rw [if_neg z] at hs'
      rw [if_pos hs']
      exact l192 (fun q => z (rf_0.mp q).2)
