/-! a gaol: all its days, by both -/
noncomputable def dN (z k : Nat) : Nat := (drw (nI z) (nI k)).toNatClampNeg
theorem dN_ok {z k : Nat} (hz : z ≤ 9999) (hk : k ≤ 40) : drw (nI z) (nI k) = nI (dN z k) ∧ dN z k < 65521 := by
  obtain ⟨d, h1, h2⟩ := drw_nat hz hk
  have : dN z k = d := by unfold dN; rw [h2, nI_clamp (by omega)]
  rw [this]
  exact ⟨h2, h1⟩
noncomputable def gG (ro : RO) (z : Nat) (g : Nat → Int32) : Nat → Nat → Int32
  | 0 => g
  | k+1 => dyG ro (gG ro z g k) (dN z k)
theorem gG_BK {ro : RO} {T z : Nat} {g : Nat → Int32} (hk : ROk ro) (hT : T + 100 < 1000000) (h : BK ro T g) : ∀ k, k ≤ 40 → BK ro (T + k) (gG ro z g k) := by
  intro k
  induction k with
  | zero => intro _; exact h
  | succ k ih => intro hk2; exact dyG_BK hk (by omega) (ih (by omega)) _
def pd3 (g : Nat → Int32) : Int32 := g 9 + g 10 + g 11
theorem co_paid {f : hF} {g : Nat → Int32} (hc : CB f 34 g) : fX0_paidInAll 34 f = some (pd3 g) := by
  have h0 := hc.2.2.1 0 (by decide)
  have h1 := hc.2.2.1 1 (by decide)
  have h2 := hc.2.2.1 2 (by decide)
  show fX0_paidInAll_4 34 f FU 0 (nI 0) = _
  obtain ⟨n, hn⟩ : ∃ n, FU = n + 4 := ⟨FU - 4, by decide⟩
  rw [hn, fX0_paidInAll_4, if_neg (by decide), gdk (by decide) (by decide), ncl (by decide), show nI 0 + 1 = nI 1 from nadd 0 1, fX0_paidInAll_4, if_neg (by decide), gdk (by decide) (by decide), ncl (by decide), show nI 1 + 1 = nI 2 from nadd 1 1, fX0_paidInAll_4, if_neg (by decide), gdk (by decide) (by decide), ncl (by decide), show nI 2 + 1 = nI 3 from nadd 2 1, fX0_paidInAll_4, if_pos (by decide), h0, h1, h2, Int32.zero_add]
  rfl
theorem co_gaol {ro : RO} {T z N : Nat} {g : Nat → Int32} (hz : z ≤ 9999) (hN : N ≤ 40) (hT : T + 100 < 1000000) (h : BK ro T g) {f0 : hF} (hr : RR ro f0) (x3 y4 : Int32) : ∀ (r i n : Nat) (f : hF), i + r = N → r < n → (∀ j, ¬ (34 ≤ j ∧ j ≤ 42) → f j = f0 j) → CB f 34 (gG ro z g i) →
    ∃ f2, fX7_gaol_63 (nI z) (nI N) x3 n f y4 (nI i) = (if x3 = 0 then b2 (fX2_countHeld 33 3 f2) fun r4 f5 => some (r4, f5) else some (pd3 (gG ro z g N) - y4, f2)) ∧ (∀ j, ¬ (34 ≤ j ∧ j ≤ 42) → f2 j = f0 j) ∧ CB f2 34 (gG ro z g N) := by
  intro r
  induction r with
  | zero =>
    intro i n f hr2 hn e hc
    obtain ⟨n, rfl⟩ : ∃ k, n = k + 1 := ⟨n - 1, by omega⟩
    obtain rfl : i = N := by omega
    refine ⟨f, ?_, e, hc⟩
    rw [fX7_gaol_63, if_pos (Int32.le_refl _), co_paid hc, b1s]
  | succ r ih =>
    intro i n f hr2 hn e hc
    obtain ⟨n, rfl⟩ : ∃ k, n = k + 1 := ⟨n - 1, by omega⟩
    obtain ⟨d1, d2⟩ := dN_ok hz (show i ≤ 40 by omega)
    obtain ⟨f1, c1, c2, c3⟩ := co_day (RR_of (fun j hj => e j (by omega)) hr) (show T + i < 1000000 by omega) (gG_BK hr.ok hT h i (by omega)) hc d2
    obtain ⟨f2, k1, k2, k3⟩ := ih (i + 1) n f1 (by omega) (by omega) (fun j hj => by rw [c2 j hj, e j hj]) c3
    refine ⟨f2, ?_, k2, k3⟩
    rw [fX7_gaol_63, if_neg (show ¬ nI N ≤ nI i from fun w => by have := (nI_leI (by omega) (by omega)).mp w; omega), show fX7_draw (nI z) (nI i) = some (drw (nI z) (nI i)) from rfl, b1s, d1, c1, b1s, show nI i + 1 = nI (i + 1) from nadd i 1]
    exact k1
theorem mo_gaol {ro : RO} {T z N : Nat} {g : Nat → Int32} (hz : z ≤ 9999) (hN : N ≤ 40) (hT : T + 100 < 1000000) (h : BK ro T g) {f0 : hF} (hr : RR ro f0) (x3 y4 : Int32) : ∀ (r i n : Nat) (f : hF), i + r = N → r < n → (∀ j, j ≠ 158 → f j = f0 j) → f 158 = gG ro z g i →
    ∃ f2, fX8_gaol_64 (nI z) (nI N) x3 n f y4 (nI i) = (b1 (fX8_findHolds f2) fun f2 => (if x3 = 0 then b1 (fX8_manyHold f2) fun r7 => some (r7, f2) else gd 9 111 <| gd 10 111 <| gd 11 111 <| some (((((f2 158 (9 : Int32).toNatClampNeg) + (f2 158 (10 : Int32).toNatClampNeg)) + (f2 158 (11 : Int32).toNatClampNeg)) - y4), f2))) ∧ (∀ j, j ≠ 158 → f2 j = f0 j) ∧ f2 158 = gG ro z g N := by
  have hk := hr.ok
  have hP := hk.2.1
  have hQ := hk.2.2.2.1
  have hP1 := hk.1
  have hQ1 := hk.2.2.1
  have nzk' : ∀ {n : Nat} {k : Option (Int32 × hF)}, 1 ≤ n → n < 1000 → nz (nI n) k = k := fun h1 h2 => nzk (fun z => by have := (nI_eq (b := 0) (by omega) (by omega)).mp z; omega)
  intro r
  induction r with
  | zero =>
    intro i n f hr2 hn e hc
    obtain ⟨n, rfl⟩ : ∃ k, n = k + 1 := ⟨n - 1, by omega⟩
    obtain rfl : i = N := by omega
    refine ⟨f, ?_, e, hc⟩
    rw [fX8_gaol_64, if_pos (Int32.le_refl _)]
  | succ r ih =>
    intro i n f hr2 hn e hc
    obtain ⟨n, rfl⟩ : ∃ k, n = k + 1 := ⟨n - 1, by omega⟩
    obtain ⟨d1, d2⟩ := dN_ok hz (show i ≤ 40 by omega)
    have hrf : RR ro f := RR_of (fun j hj => e j (by omega)) hr
    have hB := gG_BK (z := z) hk hT h i (by omega)
    have hp : dN z i % ro.Q < ro.Q := Nat.mod_lt _ (by omega)
    obtain ⟨f2, k1, k2, k3⟩ := ih (i + 1) n (stA f 158 (dyG ro (f 158) (dN z i))) (by omega) (by omega) (fun j hj => by rw [sA_n hj, e j hj]) (by rw [sA_s, hc]; rfl)
    refine ⟨f2, ?_, k2, k3⟩
    have hln := VB_ln hB.1 (p := dN z i % ro.Q) (by omega)
    have md := fun s0 hs => mo_day (d := dN z i) hrf (show T + i < 1000000 by omega) (by rw [hc]; exact hB) d2 (nI z) (nI N) x3 (fX8_gaol_64 (nI z) (nI N) x3 n) y4 (nI i) s0 hs
    rw [show nI i + 1 = nI (i + 1) from nadd i 1, k1] at md
    have e1 : nI (dN z i) - nI (dN z i) / nI ro.Q * nI ro.Q = nI (dN z i % ro.Q) := nrem (by omega) (by omega) (by omega)
    have e2 : nI (dN z i) / 4 - nI (dN z i) / 4 / nI ro.P * nI ro.P = nI (dN z i / 4 % ro.P) := by rw [L4, ndiv (by omega) (by omega) (by omega), nrem (by omega) (by omega) (by omega)]
    have e3 : nI (dN z i) / 32 - nI (dN z i) / 32 / nI ro.P * nI ro.P = nI (dN z i / 32 % ro.P) := by rw [L32, ndiv (by omega) (by omega) (by omega), nrem (by omega) (by omega) (by omega)]
    rw [fX8_gaol_64, if_neg (show ¬ nI N ≤ nI i from fun w => by have := (nI_leI (by omega) (by omega)).mp w; omega), hrf.m1, hrf.m0, nzk' hQ1 (by omega), nzk' hP1 (by omega), nzk' hP1 (by omega)]
    change (gd (12 + (drw (nI z) (nI i) - drw (nI z) (nI i) / nI ro.Q * nI ro.Q)) 111 <| if 8 ≤ f 158 (12 + (drw (nI z) (nI i) - drw (nI z) (nI i) / nI ro.Q * nI ro.Q)).toNatClampNeg then
      fX8_gaol_152 (nI z) (nI N) x3 (fX8_gaol_64 (nI z) (nI N) x3 n) f y4 (nI i) (drw (nI z) (nI i)) (drw (nI z) (nI i) - drw (nI z) (nI i) / nI ro.Q * nI ro.Q) (drw (nI z) (nI i) / 4 - drw (nI z) (nI i) / 4 / nI ro.P * nI ro.P) (drw (nI z) (nI i) / 32 - drw (nI z) (nI i) / 32 / nI ro.P * nI ro.P) 0 else
      fX8_gaol_152 (nI z) (nI N) x3 (fX8_gaol_64 (nI z) (nI N) x3 n) f y4 (nI i) (drw (nI z) (nI i)) (drw (nI z) (nI i) - drw (nI z) (nI i) / nI ro.Q * nI ro.Q) (drw (nI z) (nI i) / 4 - drw (nI z) (nI i) / 4 / nI ro.P * nI ro.P) (drw (nI z) (nI i) / 32 - drw (nI z) (nI i) / 32 / nI ro.P * nI ro.P) 1) = _
    rw [d1, e1, e2, e3, L12, nadd, gdk (by omega) (by omega), ncl (by omega), hc, hln.1]
    rw [hc] at md
    by_cases w : vln (gG ro z g i) (dN z i % ro.Q) < 8
    · rw [if_neg (ge8 w)]
      exact md 1 (by rw [if_pos w])
    · rw [if_pos (show (8 : Int32) ≤ nI (vln (gG ro z g i) (dN z i % ro.Q)) from (nI_leI (a := 8) (by omega) (by omega)).mpr (by omega))]
      exact md 0 (by rw [if_neg w])
theorem gaol_same {T : Nat} {ro : RO} {f : hF} (h : R T ro f) (hT : T + 100 < 1000000) (x y z : Int32) : Same T ro f (fun f => fX7_gaol f x y z) (fun f => fX8_gaol f x y z) := by
  have hP := h.rr.ok.2.1
  have bad : fX7_gaol f x y z = some (-1, f) → fX8_gaol f x y z = some (-1, f) → Same T ro f (fun f => fX7_gaol f x y z) (fun f => fX8_gaol f x y z) := fun h1 h2 => ⟨-1, f, f, h1, Sc.refl f, h2, Sc.refl f⟩
  rcases in_or x 0 9999 (by omega) (by omega) with ⟨u, -, hu, rfl, hin1⟩ | ⟨hin1, hout⟩
  · have cx1 : ¬ nI u < 0 := nI_pos (by omega)
    have cx2 : ¬ (9999 : Int32) < nI u := fun w => by have := (nI_ltI (a := 9999) (by omega) (by omega)).mp w; omega
    rcases in_or y 1 40 (by omega) (by omega) with ⟨N, hN1, hN, rfl, hin2⟩ | ⟨hin2, hout⟩
    · have cy1 : ¬ nI N < (1 : Int32) := fun w => by have := (nI_ltI (b := 1) (by omega) (by omega)).mp w; omega
      have cy2 : ¬ (40 : Int32) < nI N := fun w => by have := (nI_ltI (a := 40) (by omega) (by omega)).mp w; omega
      rcases in_or z 0 1 (by omega) (by omega) with ⟨w, -, hw, rfl, hin⟩ | ⟨hin, hout⟩
      · have hpart : fX7_isPart (nI w) = some 1 := by
          unfold fX7_isPart
          rcases (show w = 0 ∨ w = 1 by omega) with rfl | rfl <;> rfl
        generalize hgg : f 149 = g
        have hB : BK ro T g := by rw [← hgg]; exact h.bk
        obtain ⟨f7, a1, a2, a3⟩ := co_copy (f := f) (k := 34) (o := 20) (Or.inl (by decide))
        have hc7 : CB f7 34 (gG ro u g 0) := a3 g (by rw [← hgg]; exact h.cb)
        obtain ⟨f8, c1, c2, c3⟩ := co_gaol hu hN hT hB (RR_of (fun j hj => a2 j (by omega)) h.rr) (nI w) (pd3 g) N 0 FU f7 (by omega) (by unfold FU; omega) (fun _ _ => rfl) hc7
        have hBN := gG_BK (z := u) h.rr.ok hT hB N hN
        have ref : ∀ f', R T ro f' → f' 149 = g → ∃ f3, fX8_gaol f' (nI u) (nI N) (nI w) = some (if w = 0 then nI (cnt (hdB (gG ro u g N)) 24) else pd3 (gG ro u g N) - pd3 g, f3) ∧ Sc f' f3 := by
          intro f' h' e
          obtain ⟨f2, k1, k2, k3⟩ := mo_gaol hu hN hT hB (RR_sc h'.sc1 h'.rr) (nI w) (pd3 g) N 0 FU (stA f' 158 (f' 149)) (by omega) (by unfold FU; omega) (fun _ _ => rfl) (by rw [sA_s, e]; rfl)
          obtain ⟨f3, m1, m2, m3, -⟩ := mo_find (f := f2) (by rw [k3]; exact hBN.1) hP (show T + N < 1000000 by omega)
          rw [k3] at m3
          have e158 : f3 158 = gG ro u g N := by rw [m2 158 (by decide) (by decide)]; exact k3
          refine ⟨f3, ?_, Sc_158 h' (fun j j1 j2 j3 _ => by rw [m2 j j2 j3, k2 j j1, sA_n j1]) (fun i hi => by rw [e158]; exact hBN.2.2 i hi)⟩
          unfold fX8_gaol
          rw [show fX8_in (nI u) (0 : Int32) (9999 : Int32) = some 1 from hin1, b1s, if_neg (by decide), show fX8_in (nI N) (1 : Int32) (40 : Int32) = some 1 from hin2, b1s, if_neg (by decide), show fX8_in (nI w) (0 : Int32) (1 : Int32) = some 1 from hin, b1s, if_neg (by decide), h'.as, b1s, L9, L10, show (11 : Int32) = nI 11 from rfl, gdk (by omega) (by omega), gdk (by omega) (by omega), gdk (by omega) (by omega), ncl (by omega), ncl (by omega), ncl (by omega), sA_s, e]
          rw [e] at k1
          rw [show fX8_gaol_64 (nI u) (nI N) (nI w) FU (stA f' 158 g) (g 9 + g 10 + g 11) 0 = _ from k1]
          rw [m1, b1s]
          rcases (show w = 0 ∨ w = 1 by omega) with rfl | rfl
          · rw [if_pos (by decide), mo_many m3, b1s, if_pos rfl]
          · rw [if_neg (by decide), L9, L10, show (11 : Int32) = nI 11 from rfl, gdk (by omega) (by omega), gdk (by omega) (by omega), gdk (by omega) (by omega), ncl (by omega), ncl (by omega), ncl (by omega), e158, if_neg (by decide)]
            rfl
        have C : fX7_gaol f (nI u) (nI N) (nI w) = (if nI w = 0 then b2 (fX2_countHeld 33 3 f8) fun r4 f5 => some (r4, f5) else some (pd3 (gG ro u g N) - pd3 g, f8)) := by
          unfold fX7_gaol
          rw [if_neg cx1, if_neg cx2, if_neg cy1, if_neg cy2, hpart, b1s, if_neg (by decide), a1, b1s, co_paid hc7, b1s]
          exact c1
        rcases (show w = 0 ∨ w = 1 by omega) with rfl | rfl
        · obtain ⟨f9, d1, d2⟩ := co_countB (k := 33) (ro := 3) hBN.1 hP (show T + N < 1000000 by omega) c3
          refine Same.mk' (r := nI (cnt (hdB (gG ro u g N)) 24)) h ⟨f9, ?_, Sc.co (fun j j1 j2 => ?_), ?_⟩ (fun f' h' e => ref f' h' (e.trans hgg))
          · show fX7_gaol f _ _ _ = _
            rw [C, if_pos (by decide), d1, b2s]
          · rw [d2 j (by omega) (by omega), c2 j (by omega), a2 j (by omega)]
          · rw [d2 149 (by omega) (by omega), c2 149 (by omega), a2 149 (by omega)]
        · refine Same.mk' (r := pd3 (gG ro u g N) - pd3 g) h ⟨f8, ?_, Sc.co (fun j j1 j2 => ?_), ?_⟩ (fun f' h' e => ref f' h' (e.trans hgg))
          · show fX7_gaol f _ _ _ = _
            rw [C, if_neg (by decide)]
          · rw [c2 j (by omega), a2 j (by omega)]
          · rw [c2 149 (by omega), a2 149 (by omega)]
      · have ne := fun d (hd : d ≤ 1) => out_ne (by omega) hout (Nat.zero_le d) hd
        refine bad ?_ ?_
        · unfold fX7_gaol fX7_isPart
          rw [if_neg cx1, if_neg cx2, if_neg cy1, if_neg cy2, if_neg (show ¬ z = (0 : Int32) from ne 0 (by omega)), if_neg (show ¬ z = (1 : Int32) from ne 1 (by omega)), b1s, if_pos rfl]
        · unfold fX8_gaol
          rw [show fX8_in (nI u) (0 : Int32) (9999 : Int32) = some 1 from hin1, b1s, if_neg (by decide), show fX8_in (nI N) (1 : Int32) (40 : Int32) = some 1 from hin2, b1s, if_neg (by decide), show fX8_in z (0 : Int32) (1 : Int32) = some 0 from hin, b1s, if_pos rfl]
    · refine bad ?_ ?_
      · unfold fX7_gaol
        rw [if_neg cx1, if_neg cx2]
        rcases hout with q | q
        · rw [if_pos (show y < (1 : Int32) from q)]
        · by_cases v : y < 1
          · rw [if_pos v]
          · rw [if_neg v, if_pos (show (40 : Int32) < y from q)]
      · unfold fX8_gaol
        rw [show fX8_in (nI u) (0 : Int32) (9999 : Int32) = some 1 from hin1, b1s, if_neg (by decide), show fX8_in y (1 : Int32) (40 : Int32) = some 0 from hin2, b1s, if_pos rfl]
  · refine bad ?_ ?_
    · unfold fX7_gaol
      rcases hout with q | q
      · rw [if_pos (show x < (0 : Int32) from q)]
      · by_cases v : x < 0
        · rw [if_pos v]
        · rw [if_neg v, if_pos (show (9999 : Int32) < x from q)]
    · unfold fX8_gaol
      rw [show fX8_in x (0 : Int32) (9999 : Int32) = some 0 from hin1, b1s, if_pos rfl]
