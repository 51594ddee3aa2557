/-! date asked of both -/
def ctN (ro : RO) (g : Nat → Int32) (s : Nat) : Nat := if ro.tr (s / 8) = 2 then ro.pr (s / 8) + ((g 0).toNatClampNeg - vbg g s) / 2 else ro.pr (s / 8) + ((g 0).toNatClampNeg - vbg g s)
theorem ctB_N {ro : RO} {T : Nat} {g : Nat → Int32} (hk : ROk ro) (h : VB ro.P T ro.fm g) (hT : T < 1000000) {s : Nat} (hs : s < 24) (hq : s / 8 < ro.Q) (hv : vth g s = true) : ctB ro g s = nI (ctN ro g s) ∧ ctN ro g s < 2000000 := by
  have hd := VB_day h hT
  have hb := VB_bg h hT hs hv
  have hp := (hk.2.2.2.2.2.2 _ hq).2
  have hle : vbg g s ≤ (g 0).toNatClampNeg := by
    obtain ⟨⟨d, e1, e2, e3⟩, -⟩ := h.2.2.1 s hs hv
    have : vbg g s = d := by unfold vbg; rw [e1]; exact nI_clamp (by omega)
    rw [this]
    rw [hd.1] at e2
    exact (nI_leI (by omega) (by omega)).mp e2
  unfold ctB ctN
  have e : g 0 - g (15 + 4 * s) = nI ((g 0).toNatClampNeg - vbg g s) := by rw [hb.1, hd.1, ncl (by omega), nsub hle]
  rw [e]
  by_cases z : ro.tr (s / 8) = 2
  · rw [if_pos z, if_pos z, L2, ndiv (by omega) (by omega) (by omega), nadd]
    exact ⟨rfl, by omega⟩
  · rw [if_neg z, if_neg z, nadd]
    exact ⟨rfl, by omega⟩
theorem co_costL {ro : RO} {T : Nat} {g : Nat → Int32} (h : VB ro.P T ro.fm g) (hT : T < 1000000) {f : hF} {k : Nat} (hr : RR ro f) (hc : CB f (k+1) g) {p l : Nat} (hq : p < ro.Q) (hl : l < vln g p) : fX2_costOfLine k 3 f (nI p) (nI l) = some (nI (ctN ro g (8 * p + l))) := by
  have hQ := hr.ok.2.2.2.1
  have hn := (VB_ln h (show p < 3 by omega)).2
  obtain ⟨v1, v2⟩ := vth_nx h (show p < 3 by omega) hl
  unfold fX2_costOfLine
  rw [co_slot h hc (by omega) (by omega), if_pos hl, b1s, if_neg (n1 (b := 8 * p + l) (by omega)), co_cost h hr hc (show p = (8 * p + l) / 8 by omega) v1 v2 hq, b1s, (ctB_N hr.ok h hT v1 (by rw [show (8 * p + l) / 8 = p by omega]; exact hq) v2).1]
theorem co_costL8 {ro : RO} {T : Nat} {g : Nat → Int32} (h : VB ro.P T ro.fm g) {f : hF} {k : Nat} (hr : RR ro f) (hc : CB f (k+1) g) {p : Nat} (hq : p < ro.Q) : fX2_costOfLine k 3 f (nI p) (8 : Int32) = some (nI (ro.pr p)) := by
  have hQ := hr.ok.2.2.2.1
  have hn := (VB_ln h (show p < 3 by omega)).2
  have := co_slot h hc (show p < 3 by omega) (show 8 ≤ 8 by omega)
  rw [if_neg (by omega)] at this
  unfold fX2_costOfLine
  rw [show fX0_slotOf (k + 1) f (nI p) (8 : Int32) = some (-1) from this, b1s, if_pos rfl, hr.cpar, per_t (by omega) hq, b1s, if_neg bt0, gdk (by omega) (by omega), ncl (by omega), (hr.cp p hq).2]
def dtI (ro : RO) (g : Nat → Int32) (p : Nat) (y3 y4 y5 : Int32) : Prop := (y3 = -4 ∧ y4 = -4 ∧ y5 = -4) ∨ ∃ l, l < 8 ∧ l < vln g p ∧ y3 = nI l ∧ y5 = nI l ∧ y4 = nI (ctN ro g (8 * p + l))
def dtK (f : hF) (x1 x3 : Int32) (r7 : Int32) : Option Int32 := if r7 = -4 then some r7 else if x3 = 1 then some r7 else b1 (fX2_costOfLine 19 3 f x1 r7) fun r10 => some r10
theorem date_same {T : Nat} {ro : RO} {f : hF} (h : R T ro f) (hT : T < 1000000) (x y z : Int32) : Same T ro f (fun f => b1 (fX7_date f x y z) fun r => some (r, f)) (fun f => fX8_date f x y z) := by
  have hQ := h.rr.ok.2.2.2.1
  have bad : fX7_date f x y z = some (-1) → fX8_date f x y z = some (-1, f) → Same T ro f (fun f => b1 (fX7_date f x y z) fun r => some (r, f)) (fun f => fX8_date f x y z) := fun h1 h2 => ⟨-1, f, f, by show b1 (fX7_date f x y z) _ = _; rw [h1, b1s], Sc.refl f, h2, Sc.refl f⟩
  cases hp : decide (0 ≤ x ∧ x < nI ro.Q) with
  | false =>
    refine bad ?_ ?_
    · unfold fX7_date
      rw [h.rr.cpar, hp]; rfl
    · unfold fX8_date
      rw [h.rr.mpar, hp]; rfl
  | true =>
    obtain ⟨p, hpq, rfl⟩ := person_nI (by omega) hp
    obtain ⟨b, d1, d2, d3⟩ := day_same y
    cases b with
    | false =>
      refine bad ?_ ?_
      · unfold fX7_date
        rw [h.rr.cpar, hp, b1s, if_neg bt0, d1, b1s, if_pos bf0]
      · unfold fX8_date
        rw [h.rr.mpar, hp, b1s, if_neg bt0, d2, b1s, if_pos bf0]
    | true =>
      obtain ⟨d, hd, rfl⟩ := d3 rfl
      rcases in_or z 0 1 (by omega) (by omega) with ⟨w, -, hw, rfl, hin⟩ | ⟨hin, hout⟩
      · have hpart : fX7_isPart (nI w) = some 1 := by
          unfold fX7_isPart
          rcases (show w = 0 ∨ w = 1 by omega) with rfl | rfl <;> rfl
        have hday := VB_day h.bk.1 hT
        have hln := VB_ln h.bk.1 (p := p) (by omega)
        have hpr := (h.rr.ok.2.2.2.2.2.2 p hpq).2
        have C : fX7_date f (nI p) (nI d) (nI w) = b1 (fX2_cheapestLine_6 19 3 f (nI p) (nI d) FU (-4) 0) (dtK f (nI p) (nI w)) := by
          unfold fX7_date
          rw [h.rr.cpar, hp, b1s, if_neg bt0, d1, b1s, if_neg bt0, hpart, b1s, if_neg (by decide)]
          rfl
        have hrA : RR ro (stA f 158 (f 149)) := RR_sc h.sc1 h.rr
        have hV : VB ro.P T ro.fm (stA f 158 (f 149) 158) := by rw [sA_s]; exact h.bk.1
        have e149 : stA f 158 (f 149) 149 = f 149 := sA_n (by decide)
        have e158 : stA f 158 (f 149) 158 = f 149 := sA_s _ _ _
        have costr : ∀ l, l < vln (f 149) p → fX8_costOf (stA f 158 (f 149)) (nI (8 * p + l)) = some (nI (ctN ro (f 149) (8 * p + l))) ∧ ctN ro (f 149) (8 * p + l) < 2000000 := fun l hl => by
          obtain ⟨v1, v2⟩ := vth_nx h.bk.1 (show p < 3 by omega) hl
          have hq : (8 * p + l) / 8 < ro.Q := by omega
          rw [mo_cost hrA v1 hq, e158]
          have := ctB_N h.rr.ok h.bk.1 hT v1 hq v2
          exact ⟨by rw [this.1], this.2⟩
        have key : ∀ (r i n m : Nat) (y3 y4 y5 : Int32), i + r = 8 → r < n → r < m → dtI ro (f 149) p y3 y4 y5 → ∃ q, b1 (fX2_cheapestLine_6 19 3 f (nI p) (nI d) n y3 (nI i)) (dtK f (nI p) (nI w)) = some q ∧ fX8_date_45 (nI p) (nI d) (nI w) m (stA f 158 (f 149)) y4 y5 (nI i) = some (q, stA f 158 (f 149)) := by
          intro r
          induction r with
          | zero =>
            intro i n m y3 y4 y5 hr hn hm hI
            obtain ⟨n, rfl⟩ : ∃ k, n = k + 1 := ⟨n - 1, by omega⟩
            obtain ⟨m, rfl⟩ : ∃ k, m = k + 1 := ⟨m - 1, by omega⟩
            obtain rfl : i = 8 := by omega
            have k8 : ∀ v, v = (8 : Int32) → dtK f (nI p) (nI w) v = some (if w = 1 then 8 else nI (ro.pr p)) := fun v hv => by
              subst hv
              unfold dtK
              rw [if_neg (by decide), co_costL8 (k := 19) h.bk.1 h.rr h.cb hpq, b1s]
              rcases (show w = 0 ∨ w = 1 by omega) with rfl | rfl <;> rfl
            have k4 : dtK f (nI p) (nI w) (-4) = some (-4) := rfl
            have kl : ∀ l, l < 8 → l < vln (f 149) p → dtK f (nI p) (nI w) (nI l) = some (if w = 1 then nI l else nI (ctN ro (f 149) (8 * p + l))) := fun l l8 hl => by
              unfold dtK
              rw [if_neg (n4 (b := l) (by omega)), co_costL (k := 19) h.bk.1 hT h.rr h.cb hpq hl, b1s]
              rcases (show w = 0 ∨ w = 1 by omega) with rfl | rfl <;> rfl
            have x0 : (if nI w = 0 then (0 : Nat) else 1) = w := by rcases (show w = 0 ∨ w = 1 by omega) with rfl | rfl <;> rfl
            have no : ∀ y6, fX8_date_200 (nI p) (nI d) (nI w) (stA f 158 (f 149)) y4 y5 y6 = some (if w = 1 then y5 else y4, stA f 158 (f 149)) := fun y6 => by
              unfold fX8_date_200 fX8_date_201
              rcases (show w = 0 ∨ w = 1 by omega) with rfl | rfl <;> rfl
            have ye : ∀ y6, fX8_date_196 (nI p) (nI d) (nI w) (stA f 158 (f 149)) y4 y5 y6 = some (if w = 1 then 8 else y6, stA f 158 (f 149)) := fun y6 => by
              unfold fX8_date_196 fX8_date_201
              rcases (show w = 0 ∨ w = 1 by omega) with rfl | rfl <;> rfl
            have kn : dtK f (nI p) (nI w) y3 = some (if w = 1 then y5 else y4) := by
              rcases hI with ⟨e1, e2, e3⟩ | ⟨l, l8, hl, e1, e2, e3⟩
              · rw [e1, e2, e3, k4]
                rcases (show w = 0 ∨ w = 1 by omega) with rfl | rfl <;> rfl
              · rw [e1, e2, e3]; exact kl l l8 hl
            rw [fX2_cheapestLine_6, if_pos (by decide), co_room h.bk.1 h.cb (show p < 3 by omega), b1s, co_law (k := 19) h.rr h.cb, b1s, h.cb.1, fX8_date_45, if_pos (show (8 : Int32) ≤ nI 8 by decide), show (2 : Int32) * nI p = nI (2 * p) from nmul 2 p, show nI (2 * p) + 1 = nI (2 * p + 1) from nadd _ 1, gdk (by omega) (by omega), ncl (by omega), (hrA.mp p hpq).2, gd0 (by decide), cl0, e149, mo_law hrA, b1s, e158, show (12 : Int32) + nI p = nI (12 + p) from nadd 12 p, gdk (by omega) (by omega), ncl (by omega), hln.1]
            unfold fX2_cheapestLine_134 fX2_cheapestLine_135
            simp only [if_true]
            by_cases v1 : nI d < f 149 0
            · rw [if_pos v1, if_pos v1, no]
              refine ⟨_, ?_, rfl⟩
              cases decide (vln (f 149) p < 8) <;> cases lwB ro (f 149) <;> exact kn
            · rw [if_neg v1, if_neg v1]
              cases v2 : lwB ro (f 149) with
              | true =>
                rw [if_neg bt0, if_neg bt0, no]
                refine ⟨_, ?_, rfl⟩
                cases decide (vln (f 149) p < 8) <;> exact kn
              | false =>
                rw [if_pos bf0, if_pos bf0]
                by_cases v3 : vln (f 149) p < 8
                · rw [decide_eq_true v3, if_neg bt0, if_neg (ge8 (p := vln (f 149) p) v3), if_neg (by decide)]
                  rcases hI with ⟨e1, e2, e3⟩ | ⟨l, l8, hl, e1, e2, e3⟩
                  · rw [if_pos e1, if_pos (by rw [e2]; decide), ye, b1s, k8 _ rfl]
                    exact ⟨_, rfl, rfl⟩
                  · have cl := costr l hl
                    rw [e1, if_neg (n4 (b := l) (by omega)), co_costL8 (k := 19) h.bk.1 h.rr h.cb hpq, b1s, co_costL (k := 19) h.bk.1 hT h.rr h.cb hpq hl, b1s, e3, if_neg (nI_pos (by omega))]
                    by_cases v4 : nI (ctN ro (f 149) (8 * p + l)) ≤ nI (ro.pr p)
                    · rw [if_pos v4, if_pos v4, b1s, kl l l8 hl, ← e3, no, e2, e3]
                      exact ⟨_, rfl, rfl⟩
                    · rw [if_neg v4, if_neg v4, b1s, k8 _ rfl, ← e3, ye]
                      exact ⟨_, rfl, rfl⟩
                · rw [decide_eq_false v3, if_pos bf0, if_pos (show (8 : Int32) ≤ nI (vln (f 149) p) from (nI_leI (a := 8) (by omega) (by omega)).mpr (by omega)), no]
                  exact ⟨_, kn, rfl⟩
          | succ r ih =>
            intro i n m y3 y4 y5 hr hn hm hI
            obtain ⟨n, rfl⟩ : ∃ k, n = k + 1 := ⟨n - 1, by omega⟩
            obtain ⟨m, rfl⟩ : ∃ k, m = k + 1 := ⟨m - 1, by omega⟩
            have hi : i < 8 := by omega
            have e1 : ∀ c3 c4 c5, dtI ro (f 149) p c3 c4 c5 → ∃ q, b1 (fX2_cheapestLine_6 19 3 f (nI p) (nI d) n c3 (nI (i + 1))) (dtK f (nI p) (nI w)) = some q ∧ fX8_date_45 (nI p) (nI d) (nI w) m (stA f 158 (f 149)) c4 c5 (nI (i + 1)) = some (q, stA f 158 (f 149)) := fun c3 c4 c5 hc => ih (i + 1) n m c3 c4 c5 (by omega) (by omega) (by omega) hc
            have keep := e1 y3 y4 y5 hI
            have hvi := vth_in (g := f 149) (p := p) hi
            rw [fX2_cheapestLine_6, if_neg (ge8 hi), co_slot h.bk.1 h.cb (show p < 3 by omega) (by omega), b1s, fX8_date_45, if_neg (ge8 hi), show (8 : Int32) * nI p = nI (8 * p) from nmul 8 p, nadd, mo_blank hV (show 8 * p + i < 24 by omega), b1s, e158]
            unfold fX2_cheapestLine_62 fX2_cheapestLine_63 fX2_cheapestLine_92 fX8_date_96 fX8_date_100 fX8_date_101 fX8_date_115
            rw [show nI i + 1 = nI (i + 1) from nadd i 1]
            simp only [if_true]
            rw [if_neg (show ¬ (1 : Int32) = 0 by decide)]
            by_cases z : i < vln (f 149) p
            · rw [decide_eq_true z] at hvi
              have h24 : 8 * p + i < 24 := by omega
              have hb := CB_blank h.cb h24 hvi
              have hbg := VB_bg h.bk.1 hT h24 hvi
              have cl := costr i z
              rw [if_pos z, if_neg (n1 (b := 8 * p + i) (by omega)), gdk h24 (by omega), gdk h24 (by omega), ncl (by omega)]
              cases q : vbl (f 149) (8 * p + i) with
              | false =>
                rw [if_neg (fun w => by rw [hb.mp w] at q; cases q), if_pos bf0]
                exact keep
              | true =>
                rw [if_pos (hb.mpr q), if_neg bt0, (h.cb.2.2.2.2 _ h24 hvi).1, mo_beg h24, b1s, e158]
                by_cases v : nI d < f 149 (15 + 4 * (8 * p + i))
                · rw [if_pos v, if_pos v]; exact keep
                · rw [if_neg v, if_neg v, cl.1]
                  simp only [if_neg (show ¬ (1 : Int32) = 0 by decide), b1s]
                  have new := e1 (nI i) (nI (ctN ro (f 149) (8 * p + i))) (nI i) (Or.inr ⟨i, hi, z, rfl, rfl, rfl⟩)
                  rcases hI with ⟨e1, e2, e3⟩ | ⟨l, l8, hl, e1, e2, e3⟩
                  · rw [if_pos e1, if_pos (show y4 < 0 by rw [e2]; decide)]
                    exact new
                  · have cl2 := costr l hl
                    rw [if_neg (show ¬ y3 = -4 by rw [e1]; exact n4 (by omega)), co_costL (k := 19) h.bk.1 hT h.rr h.cb hpq z, b1s, if_neg (show ¬ y4 < 0 by rw [e3]; exact nI_pos (by omega))]
                    rw [show fX2_costOfLine 19 3 f (nI p) y3 = some (nI (ctN ro (f 149) (8 * p + l))) by rw [e1]; exact co_costL (k := 19) h.bk.1 hT h.rr h.cb hpq hl, b1s]
                    by_cases u : nI (ctN ro (f 149) (8 * p + l)) ≤ nI (ctN ro (f 149) (8 * p + i))
                    · rw [if_pos u, if_pos (show y4 ≤ nI (ctN ro (f 149) (8 * p + i)) by rw [e3]; exact u)]; exact keep
                    · rw [if_neg u, if_neg (show ¬ y4 ≤ nI (ctN ro (f 149) (8 * p + i)) by rw [e3]; exact u)]; exact new
            · rw [decide_eq_false z] at hvi
              have q : vbl (f 149) (8 * p + i) = false := by unfold vbl; rw [hvi]; rfl
              rw [if_neg z, if_pos rfl, q, if_pos bf0]
              exact keep
        obtain ⟨q, k1, k2⟩ := key 8 0 FU FU (-4) (-4) (-4) rfl (by decide) (by decide) (Or.inl ⟨rfl, rfl, rfl⟩)
        refine ⟨q, f, stA f 158 (f 149), ?_, Sc.refl f, ?_, h.sc1⟩
        · show b1 (fX7_date f _ _ _) _ = _
          rw [C]
          rw [show (0 : Int32) = nI 0 from rfl, k1, b1s]
        · show fX8_date f _ _ _ = _
          unfold fX8_date
          rw [h.rr.mpar, hp, b1s, if_neg bt0, d2, b1s, if_neg bt0, show fX8_in (nI w) (0 : Int32) (1 : Int32) = some 1 from hin, b1s, if_neg (by decide), h.as, b1s]
          exact k2
      · have ne := fun d (hd : d ≤ 1) => out_ne (by omega) hout (Nat.zero_le d) hd
        refine bad ?_ ?_
        · unfold fX7_date fX7_isPart
          rw [h.rr.cpar, hp, b1s, if_neg bt0, d1, b1s, if_neg bt0, if_neg (show ¬ z = (0 : Int32) from ne 0 (by omega)), if_neg (show ¬ z = (1 : Int32) from ne 1 (by omega)), b1s, if_pos rfl]
        · unfold fX8_date
          rw [h.rr.mpar, hp, b1s, if_neg bt0, d2, b1s, if_neg bt0, show fX8_in z (0 : Int32) (1 : Int32) = some 0 from hin, b1s, if_pos rfl]
