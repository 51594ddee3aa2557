/-! paid, begun, written: by both -/
theorem RR.st {ro : RO} {f : hF} {k : Nat} {u : Nat → Int32} (h : RR ro f) (hk : ¬ ((3 ≤ k ∧ k ≤ 9) ∨ (146 ≤ k ∧ k ≤ 148))) : RR ro (stA f k u) :=
  RR_of (fun j hj => sA_n (by omega)) h
theorem RR.st2 {ro : RO} {f : hF} {k i : Nat} {x : Int32} (h : RR ro f) (hk : ¬ ((3 ≤ k ∧ k ≤ 9) ∨ (146 ≤ k ∧ k ≤ 148))) : RR ro (st2 f k i x) := h.st hk
theorem mo_pays {ro : RO} {f : hF} (hr : RR ro f) {p a b : Nat} {c : Int32} (hp : p < ro.Q) (ha : a < ro.P) (hb : b < ro.P) (hne : mnW ro a b ≠ wmW ro a b) : fX8_pays f (nI p) (nI a) (nI b) c = some (stA f 158 (gPay (f 158) (mnW ro a b) (wmW ro a b) p c)) := by
  have hP := hr.ok.2.1
  have hQ := hr.ok.2.2.2.1
  have hl := mnW_lt ha hb
  have e : fX8_pays f (nI p) (nI a) (nI b) c = fX8_pays_36 (nI p) (nI a) (nI b) c f (nI (mnW ro a b)) (pyM (f 158) (mnW ro a b) c) := by
    unfold fX8_pays pyM
    rw [mo_manOfTwo hr ha, b1s, L1, nadd, gdk (by omega) (by omega), ncl (by omega), gdk (by omega) (by omega)]
    by_cases z : c ≤ f 158 (1 + mnW ro a b)
    · rw [if_pos z]
      by_cases y : c < f 158 (1 + mnW ro a b)
      · rw [if_pos y]
      · rw [if_neg y, Int32.le_antisymm z (Int32.not_lt.mp y)]
    · rw [if_neg z, if_neg (fun y => z (Int32.le_of_lt y))]
  rw [e]
  unfold fX8_pays_36
  rw [L1, nadd, gdk (by omega) (by omega), gdk (by omega) (by omega), lte, ncl (by omega), mo_womOfTwo (hr.st2 (by omega)) ha, b1s, nadd, gdk (by omega) (by omega), gdk (by omega) (by omega), lte, ncl (by omega), L9, nadd, gdk (by omega) (by omega), gdk (by omega) (by omega), lte, ncl (by omega)]
  have k1 : st2 f 158 (1 + mnW ro a b) (f 158 (1 + mnW ro a b) - pyM (f 158) (mnW ro a b) c) 158 (1 + wmW ro a b) = f 158 (1 + wmW ro a b) := by rw [s2_s, u_n (by omega)]
  rw [k1, s2_A f, s2_sA, s2_sA, sA_s, u_n (k := 1 + wmW ro a b) (by omega), u_n (k := 1 + mnW ro a b) (by omega)]
  rfl
theorem mo_begins {P T : Nat} {fm : Nat → Bool} {f : hF} (h : VB P T fm (f 158)) {p : Nat} (hp : p < 3) (hl : vln (f 158) p < 8) : fX8_begins f (nI p) = some (nI (8 * p + vln (f 158) p), stA f 158 (gBegin (f 158) p)) := by
  have hn := VB_ln h hp
  unfold fX8_begins
  rw [L12, nadd, gdk (by omega) (by omega), ncl (by omega), hn.1, L8, nmul, nadd, L4, nmul, L15, nadd, L0, gdk (by omega) (by omega), gdk (by omega) (by omega), lte, ncl (by omega), ncl (by omega), L1, nadd, gdk (by omega) (by omega), lte, ncl (by omega), gdk (by omega) (by omega), gdk (by omega) (by omega), lte]
  rw [s2_A f, s2_sA, s2_sA, sA_s, u_n (k := 15 + 4 * (8 * p + vln (f 158) p) + 1) (by omega), u_n (k := 15 + 4 * (8 * p + vln (f 158) p)) (by omega), hn.1, nadd, show 15 + 4 * (8 * p + vln (f 158) p) + 1 = 16 + 4 * (8 * p + vln (f 158) p) by omega]
  rfl
theorem mo_writes {ro : RO} {f : hF} (hr : RR ro f) {s a b : Nat} (hs : s < 24) (ha : a < ro.P) (hb : b < ro.P) : fX8_writes f (nI s) (nI a) (nI b) = some (stA f 158 (gWrite (f 158) s (mnW ro a b) (wmW ro a b))) := by
  have hP := hr.ok.2.1
  unfold fX8_writes
  rw [mo_manOfTwo hr ha, b1s, L4, nmul, L15, nadd, L1, nadd, gdk (by omega) (by omega), lte, ncl (by omega), mo_womOfTwo (hr.st2 (by omega)) ha, b1s, L2, nadd, gdk (by omega) (by omega), lte, ncl (by omega), L0, gdk (by omega) (by omega), L3, nadd, gdk (by omega) (by omega), lte, ncl (by omega), ncl (by omega)]
  rw [s2_A f, s2_sA, s2_sA, sA_s, u_n (k := 15 + 4 * s + 2) (by omega), u_n (k := 15 + 4 * s + 1) (by omega), show 15 + 4 * s + 1 = 16 + 4 * s by omega, show 15 + 4 * s + 2 = 17 + 4 * s by omega, show 15 + 4 * s + 3 = 18 + 4 * s by omega]
  rfl
def gWed (ro : RO) (g : Nat → Int32) (p a b : Nat) : Nat → Int32 := gWrite (gBegin (gPay g (mnW ro a b) (wmW ro a b) p (nI (ro.pr p))) p) (8 * p + vln g p) (mnW ro a b) (wmW ro a b)
theorem vln_pay {g : Nat → Int32} {m w p q : Nat} {c : Int32} (hm : m < 8) (hw : w < 8) (hp : p < 3) : vln (gPay g m w p c) q = vln g q := by
  unfold vln
  rw [gPay_n (by omega) (by omega) (by omega)]
theorem BK_wed {ro : RO} {T : Nat} {g : Nat → Int32} {p a b : Nat} (hk : ROk ro) (hT : T < 1000000) (hp : p < ro.Q) (ha : a < ro.P) (hb : b < ro.P) (hc : cpB ro a b = true) (hl : vln g p < 8) (h : BK ro T g) : BK ro T (gWed ro g p a b) := by
  have hP := hk.2.1
  have hQ := hk.2.2.2.1
  have hm := mnW_lt ha hb
  have e := vln_pay (g := g) (m := mnW ro a b) (w := wmW ro a b) (p := p) (q := p) (c := nI (ro.pr p)) (by omega) (by omega) (by omega)
  exact BK_write (by omega) hm.1 hm.2 (cpB_mw hc).2.1 (cpB_mw hc).2.2 (BK_begin hT hQ hp (by rw [e]; exact hl) (BK_pay (by omega) (by omega) (by omega) h))
theorem mo_weds {ro : RO} {T : Nat} {f : hF} (hr : RR ro f) (h : BK ro T (f 158)) {p a b : Nat} (hp : p < ro.Q) (ha : a < ro.P) (hb : b < ro.P) (hc : cpB ro a b = true) (hl : vln (f 158) p < 8) : fX8_weds f (nI p) (nI a) (nI b) = some (stA f 158 (gWed ro (f 158) p a b)) := by
  have hP := hr.ok.2.1
  have hQ := hr.ok.2.2.2.1
  have hm := mnW_lt ha hb
  have hcw := cpB_mw hc
  have hne : mnW ro a b ≠ wmW ro a b := fun e => by rw [e, hcw.2.2] at hcw; exact absurd hcw.2.1 (by decide)
  have ev := vln_pay (g := f 158) (m := mnW ro a b) (w := wmW ro a b) (p := p) (q := p) (c := nI (ro.pr p)) (by omega) (by omega) (by omega)
  have hB : BK ro T (stA f 158 (gPay (f 158) (mnW ro a b) (wmW ro a b) p (nI (ro.pr p))) 158) := by rw [sA_s]; exact BK_pay (by omega) (by omega) (by omega) h
  have hb' := mo_begins (f := stA f 158 (gPay (f 158) (mnW ro a b) (wmW ro a b) p (nI (ro.pr p)))) hB.1 (show p < 3 by omega) (by rw [sA_s, ev]; exact hl)
  unfold fX8_weds
  rw [L2, nmul, L1, nadd, gdk (by omega) (by omega), ncl (by omega), (hr.mp p hp).2, mo_pays hr hp ha hb hne, b1s, hb', b2s, mo_writes ((hr.st (by omega)).st (by omega)) (by rw [sA_s, ev]; omega) ha hb, b1s, sA_s, sA_sA, sA_s, sA_sA, ev]
  rfl
/-! the component's -/
theorem co_begin {P T : Nat} {fm : Nat → Bool} {g : Nat → Int32} (h : VB P T fm g) {f : hF} {bk : Nat} (hc : CB f bk g) {p : Nat} (hp : p < 3) (hl : vln g p < 8) :
    ∃ f2, fX0_begin bk f (nI p) = some (nI (vln g p), f2) ∧ (∀ j, j ≠ bk + 3 → j ≠ bk + 4 → j ≠ bk + 5 → f2 j = f j) ∧ CB f2 bk (gBegin g p) := by
  have hn := VB_ln h hp
  have h3 : f (bk + 3) p = nI (vln g p) := (hc.2.2.2.1 p hp).trans hn.1
  have hslot : fX0_slotOf bk (st2 f (bk + 3) p (nI (vln g p + 1))) (nI p) (nI (vln g p)) = some (nI (8 * p + vln g p)) := by
    unfold fX0_slotOf
    rw [if_neg (nI_pos (by omega)), if_neg (ge3 (p := p) (by omega)), if_neg (nI_pos (by omega)), if_neg (fun z => by have := (nI_leI (a := 8) (by omega) (by omega)).mp z; omega), gdk hp (by omega), ncl (by omega), s2_s, u_s, if_neg (fun z => by have := (nI_leI (by omega) (by omega)).mp z; omega), L8, nmul, nadd, Nat.mul_comm]
  refine ⟨st2 (st2 (st2 f (bk + 3) p (nI (vln g p + 1))) (bk + 4) (8 * p + vln g p) 0) (bk + 5) (8 * p + vln g p) (f bk 0), ?_, fun j j1 j2 j3 => ?_, ?_⟩
  · unfold fX0_begin
    rw [co_room h hc hp, b1s, decide_eq_true hl, if_neg bt0, gdk hp (by omega), gdk hp (by omega), gdk hp (by omega), lte, ncl (by omega), h3, show nI (vln g p) + 1 = nI (vln g p + 1) from nadd _ 1, hslot, b1s, if_neg (show ¬ nI (8 * p + vln g p) = -1 by rw [neg1q (by omega)]; exact id), gdk (by omega) (by omega), lte, gdk (by omega) (by omega), lte, ncl (by omega), s2_n (j := bk) (by omega), s2_n (j := bk) (by omega)]
  · rw [s2_n j3, s2_n j2, s2_n j1]
  · have fr : ∀ j, j ≠ bk + 3 → j ≠ bk + 4 → j ≠ bk + 5 → (st2 (st2 (st2 f (bk + 3) p (nI (vln g p + 1))) (bk + 4) (8 * p + vln g p) 0) (bk + 5) (8 * p + vln g p) (f bk 0)) j = f j := fun j j1 j2 j3 => by rw [s2_n j3, s2_n j2, s2_n j1]
    refine ⟨?_, fun q hq => ?_, fun q hq => ?_, fun q hq => ?_, fun t ht hv => ?_⟩
    · rw [fr bk (by omega) (by omega) (by omega), gBegin_n (by omega) (by omega) (by omega)]; exact hc.1
    · rw [fr (bk + 1) (by omega) (by omega) (by omega), gBegin_n (by omega) (by omega) (by omega)]; exact hc.2.1 q hq
    · rw [fr (bk + 2) (by omega) (by omega) (by omega), gBegin_n (by omega) (by omega) (by omega)]; exact hc.2.2.1 q hq
    · rw [s2_n (by omega), s2_n (by omega), s2_s]
      by_cases e : q = p
      · rw [e, u_s]; unfold gBegin; rw [u_s]
      · rw [u_n e, gBegin_n (by omega) (by omega) (by omega)]; exact hc.2.2.2.1 q hq
    · rw [vth_b hp hl ht] at hv
      rw [s2_s, s2_n (j := bk + 5) (k := bk + 4) (by omega), s2_n (j := bk + 5) (k := bk + 3) (by omega), s2_n (j := bk + 4) (k := bk + 5) (by omega), s2_s, s2_n (j := bk + 4) (k := bk + 3) (by omega), fr (bk + 6) (by omega) (by omega) (by omega), fr (bk + 7) (by omega) (by omega) (by omega), fr (bk + 8) (by omega) (by omega) (by omega)]
      by_cases e : t = 8 * p + vln g p
      · rw [e, u_s, u_s]
        refine ⟨?_, Or.inl ⟨?_, rfl⟩⟩
        · unfold gBegin; rw [u_n (by omega), u_n (by omega), u_s]; exact hc.1
        · unfold gBegin; rw [u_n (by omega), u_s]
      · rw [if_neg e] at hv
        rw [u_n e, u_n e, gBegin_n (i := 15 + 4 * t) (by omega) (by omega) (by omega), gBegin_n (i := 16 + 4 * t) (by omega) (by omega) (by omega), gBegin_n (i := 17 + 4 * t) (by omega) (by omega) (by omega), gBegin_n (i := 18 + 4 * t) (by omega) (by omega) (by omega)]
        exact hc.2.2.2.2 t ht hv
theorem co_writeTwo {ro : RO} {T : Nat} {g : Nat → Int32} (h : VB ro.P T ro.fm g) {f : hF} {k : Nat} (hr : RR ro f) (hc : CB f (k+1) g) {p s a b : Nat} {c : Int32} (hp : p < ro.Q) (hs : s < 24) (hv : vth g s = true) (ha : a < ro.P) (hb : b < ro.P) (hcp : cpB ro a b = true) :
    ∃ f2, fX2_writeTwo k 3 f (nI p) (nI s) (nI a) (nI b) c = some f2 ∧ (∀ j, ¬ (k + 2 ≤ j ∧ j ≤ k + 9) → f2 j = f j) ∧ CB f2 (k+1) (gWrite (gPay g (mnW ro a b) (wmW ro a b) p c) s (mnW ro a b) (wmW ro a b)) := by
  have hP := hr.ok.2.1
  have hQ := hr.ok.2.2.2.1
  have hm := mnW_lt ha hb
  have hcw := cpB_mw hcp
  have hne : mnW ro a b ≠ wmW ro a b := fun e => by rw [e, hcw.2.2] at hcw; exact absurd hcw.2.1 (by decide)
  have e1 : fX2_writeTwo k 3 f (nI p) (nI s) (nI a) (nI b) c = fX2_writeTwo_74 k 3 (nI p) (nI s) (nI a) (nI b) c f (nI (mnW ro a b)) (nI (wmW ro a b)) := by
    unfold fX2_writeTwo
    rw [hr.cpar, per_t (by omega) hp, b1s, if_neg bt0, co_line h hc hs, hv, b1s, if_neg bt0, co_areTwo hr ha hb, decide_eq_true hcw.1, b1s, if_neg bt0, gdk (by omega) (by omega), ncl (by omega), (hr.ca a ha).1]
    unfold fX2_writeTwo_54 mnW wmW
    rw [gdk (by omega) (by omega), ncl (by omega), (hr.ca a ha).1]
    cases fa : ro.fm a with
    | false =>
      rw [if_pos bf0, if_pos bf0, if_neg (by decide), if_neg (by decide)]
    | true =>
      rw [if_neg bt0, if_neg bt0, if_pos rfl, if_pos rfl]
      first | done | rw [gdk (by omega) (by omega)]
  generalize hm1 : mnW ro a b = m at *
  generalize hw1 : wmW ro a b = w at *
  have c1 : f (k + 1 + 1) m = g (1 + m) := hc.2.1 m (by omega)
  have c2 : f (k + 1 + 1) w = g (1 + w) := hc.2.1 w (by omega)
  have c3 : f (k + 1 + 2) p = g (9 + p) := hc.2.2.1 p (by omega)
  have e2 : fX2_writeTwo k 3 f (nI p) (nI s) (nI a) (nI b) c = some (st2 (st2 (st2 (st2 (st2 (st2 (st2 f (k + 1 + 1) m (g (1 + m) - pyM g m c)) (k + 1 + 1) w (g (1 + w) - (c - pyM g m c))) (k + 1 + 2) p (g (9 + p) + c)) (k + 1 + 4) s 1) (k + 1 + 6) s (nI m)) (k + 1 + 7) s (nI w)) (k + 1 + 8) s (g 0)) := by
    rw [e1]
    unfold fX2_writeTwo_74
    rw [gdk (show m < 8 by omega) (by omega), gdk (show m < 8 by omega) (by omega), gdk (show m < 8 by omega) (by omega), lte, ncl (show m < 2147483648 by omega), c1, show (if c < g (1 + m) then c else g (1 + m)) = pyM g m c from rfl,
      gdk (show w < 8 by omega) (by omega), gdk (show w < 8 by omega) (by omega), lte, ncl (show w < 2147483648 by omega), s2_s, u_n (f := f (k + 1 + 1)) (fun e => hne e.symm), c2, gdk (show p < 3 by omega) (by omega), gdk (show p < 3 by omega) (by omega), lte, ncl (show p < 2147483648 by omega), s2_n (f := st2 f _ _ _) (j := k + 1 + 2) (by omega), s2_n (f := f) (j := k + 1 + 2) (by omega), c3,
      gdk hs (by omega), lte, ncl (show s < 2147483648 by omega), gdk hs (by omega), lte, gdk hs (by omega), lte, gdk hs (by omega), lte]
    rw [s2_n (j := k + 1) (k := k + 1 + 7) (by omega), s2_n (j := k + 1) (k := k + 1 + 6) (by omega), s2_n (j := k + 1) (k := k + 1 + 4) (by omega), s2_n (j := k + 1) (k := k + 1 + 2) (by omega), s2_n (j := k + 1) (k := k + 1 + 1) (by omega), s2_n (j := k + 1) (k := k + 1 + 1) (by omega), hc.1]
  have hfr : ∀ j, ¬ (k + 2 ≤ j ∧ j ≤ k + 9) → (st2 (st2 (st2 (st2 (st2 (st2 (st2 f (k + 1 + 1) m (g (1 + m) - pyM g m c)) (k + 1 + 1) w (g (1 + w) - (c - pyM g m c))) (k + 1 + 2) p (g (9 + p) + c)) (k + 1 + 4) s 1) (k + 1 + 6) s (nI m)) (k + 1 + 7) s (nI w)) (k + 1 + 8) s (g 0)) j = f j := fun j hj => by
    rw [s2_n (by omega), s2_n (by omega), s2_n (by omega), s2_n (by omega), s2_n (by omega), s2_n (by omega), s2_n (by omega)]
  refine ⟨_, e2, hfr, ?_⟩
  have gp : ∀ i, 12 ≤ i → gPay g m w p c i = g i := fun i hi => gPay_n (by omega) (by omega) (by omega)
  have g0 : gPay g m w p c 0 = g 0 := gPay_n (by omega) (by omega) (by omega)
  refine ⟨?_, fun q hq => ?_, fun q hq => ?_, fun q hq => ?_, fun t ht hv2 => ?_⟩
  · rw [hfr (k + 1) (by omega), gWrite_n (by omega) (by omega) (by omega), g0]; exact hc.1
  · rw [gWrite_n (by omega) (by omega) (by omega), s2_n (by omega), s2_n (by omega), s2_n (by omega), s2_n (by omega), s2_n (by omega), s2_s, s2_s]
    unfold gPay
    rw [u_n (k := 9 + p) (by omega)]
    by_cases x1 : q = w
    · rw [x1, u_s, u_s]
    · rw [u_n x1, u_n (k := 1 + w) (by omega)]
      by_cases x2 : q = m
      · rw [x2, u_s, u_s]
      · rw [u_n x2, u_n (k := 1 + m) (by omega)]; exact hc.2.1 q hq
  · rw [gWrite_n (by omega) (by omega) (by omega), s2_n (by omega), s2_n (by omega), s2_n (by omega), s2_n (by omega), s2_s, s2_n (j := k + 1 + 2) (by omega), s2_n (j := k + 1 + 2) (by omega)]
    unfold gPay
    by_cases x1 : q = p
    · rw [x1, u_s, u_s]
    · rw [u_n x1, u_n (k := 9 + p) (by omega), u_n (k := 1 + w) (by omega), u_n (k := 1 + m) (by omega)]; exact hc.2.2.1 q hq
  · rw [gWrite_n (by omega) (by omega) (by omega), gp _ (by omega), s2_n (by omega), s2_n (by omega), s2_n (by omega), s2_n (by omega), s2_n (by omega), s2_n (by omega), s2_n (by omega)]; exact hc.2.2.2.1 q hq
  · have et : vth (gWrite (gPay g m w p c) s m w) t = vth g t := by
      rw [vth_w ht]
      unfold vth
      rw [vln_pay (by omega) (by omega) (by omega)]
    rw [et] at hv2
    have old := hc.2.2.2.2 t ht hv2
    rw [gWrite_n (i := 15 + 4 * t) (by omega) (by omega) (by omega), gp (15 + 4 * t) (by omega)]
    refine ⟨?_, ?_⟩
    · rw [s2_n (by omega), s2_n (by omega), s2_n (by omega), s2_n (by omega), s2_n (by omega), s2_n (by omega), s2_n (by omega)]; exact old.1
    · by_cases e : t = s
      · subst e
        right; right
        have w1 : gWrite (gPay g m w p c) t m w (16 + 4 * t) = nI m := by unfold gWrite; rw [u_n (by omega), u_n (by omega), u_s]
        have w2 : gWrite (gPay g m w p c) t m w (17 + 4 * t) = nI w := by unfold gWrite; rw [u_n (by omega), u_s]
        have w3 : gWrite (gPay g m w p c) t m w (18 + 4 * t) = g 0 := by unfold gWrite; rw [u_s]; exact g0
        rw [w1, w2, w3]
        refine ⟨nI_pos' (by omega), ?_, ?_, ?_, ?_⟩
        · rw [s2_n (by omega), s2_n (by omega), s2_n (by omega), s2_s, u_s]
        · rw [s2_n (by omega), s2_n (by omega), s2_s, u_s]
        · rw [s2_n (by omega), s2_s, u_s]
        · rw [s2_s, u_s]
      · rw [gWrite_n (i := 16 + 4 * t) (by omega) (by omega) (by omega), gp (16 + 4 * t) (by omega), gWrite_n (i := 17 + 4 * t) (by omega) (by omega) (by omega), gp (17 + 4 * t) (by omega), gWrite_n (i := 18 + 4 * t) (by omega) (by omega) (by omega), gp (18 + 4 * t) (by omega)]
        have r4 : (st2 (st2 (st2 (st2 (st2 (st2 (st2 f (k + 1 + 1) m (g (1 + m) - pyM g m c)) (k + 1 + 1) w (g (1 + w) - (c - pyM g m c))) (k + 1 + 2) p (g (9 + p) + c)) (k + 1 + 4) s 1) (k + 1 + 6) s (nI m)) (k + 1 + 7) s (nI w)) (k + 1 + 8) s (g 0)) (k + 1 + 4) t = f (k + 1 + 4) t := by
          rw [s2_n (by omega), s2_n (by omega), s2_n (by omega), s2_s, u_n e, s2_n (by omega), s2_n (by omega), s2_n (by omega)]
        have r6 : (st2 (st2 (st2 (st2 (st2 (st2 (st2 f (k + 1 + 1) m (g (1 + m) - pyM g m c)) (k + 1 + 1) w (g (1 + w) - (c - pyM g m c))) (k + 1 + 2) p (g (9 + p) + c)) (k + 1 + 4) s 1) (k + 1 + 6) s (nI m)) (k + 1 + 7) s (nI w)) (k + 1 + 8) s (g 0)) (k + 1 + 6) t = f (k + 1 + 6) t := by
          rw [s2_n (by omega), s2_n (by omega), s2_s, u_n e, s2_n (by omega), s2_n (by omega), s2_n (by omega), s2_n (by omega)]
        have r7 : (st2 (st2 (st2 (st2 (st2 (st2 (st2 f (k + 1 + 1) m (g (1 + m) - pyM g m c)) (k + 1 + 1) w (g (1 + w) - (c - pyM g m c))) (k + 1 + 2) p (g (9 + p) + c)) (k + 1 + 4) s 1) (k + 1 + 6) s (nI m)) (k + 1 + 7) s (nI w)) (k + 1 + 8) s (g 0)) (k + 1 + 7) t = f (k + 1 + 7) t := by
          rw [s2_n (by omega), s2_s, u_n e, s2_n (by omega), s2_n (by omega), s2_n (by omega), s2_n (by omega), s2_n (by omega)]
        have r8 : (st2 (st2 (st2 (st2 (st2 (st2 (st2 f (k + 1 + 1) m (g (1 + m) - pyM g m c)) (k + 1 + 1) w (g (1 + w) - (c - pyM g m c))) (k + 1 + 2) p (g (9 + p) + c)) (k + 1 + 4) s 1) (k + 1 + 6) s (nI m)) (k + 1 + 7) s (nI w)) (k + 1 + 8) s (g 0)) (k + 1 + 8) t = f (k + 1 + 8) t := by
          rw [s2_s, u_n e, s2_n (by omega), s2_n (by omega), s2_n (by omega), s2_n (by omega), s2_n (by omega), s2_n (by omega)]
        rw [r4, r6, r7, r8]
        exact old.2
theorem co_wedding {ro : RO} {T : Nat} {g : Nat → Int32} (h : BK ro T g) (hT : T < 1000000) {f : hF} {k : Nat} (hk : 19 ≤ k) (hk2 : k ≤ 33) (hr : RR ro f) (hc : CB f (k+1) g) {p a b : Nat} (hp : p < ro.Q) (ha : a < ro.P) (hb : b < ro.P) (hcp : cpB ro a b = true) (hl : vln g p < 8) :
    ∃ f2, fX2_writeWedding k 3 f (nI p) (nI a) (nI b) = some (nI (vln g p), f2) ∧ (∀ j, ¬ (k + 2 ≤ j ∧ j ≤ k + 9) → f2 j = f j) ∧ CB f2 (k+1) (gWed ro g p a b) := by
  have hP := hr.ok.2.1
  have hQ := hr.ok.2.2.2.1
  have hm := mnW_lt ha hb
  obtain ⟨f1, a1, a2, a3⟩ := co_begin h.1 hc (show p < 3 by omega) hl
  have hr1 : RR ro f1 := RR_of (fun j hj => a2 j (by omega) (by omega) (by omega)) hr
  have hB := BK_begin hT hQ hp hl h
  have ev : vln (gBegin g p) p = vln g p + 1 := by rw [vln_b (by omega) hl (by omega), if_pos rfl]
  obtain ⟨f2, b1, b2, b3⟩ := co_writeTwo (c := nI (ro.pr p)) hB.1 hr1 a3 hp (show 8 * p + vln g p < 24 by omega) (by rw [vth_b (by omega) hl (by omega), if_pos rfl]) ha hb hcp
  refine ⟨f2, ?_, fun j hj => (b2 j hj).trans (a2 j (by omega) (by omega) (by omega)), ?_⟩
  · unfold fX2_writeWedding
    rw [a1, b2s, co_slot hB.1 a3 (show p < 3 by omega) (by omega), ev, if_pos (by omega), b1s, if_neg (show ¬ nI (8 * p + vln g p) = -1 by rw [neg1q (by omega)]; exact id), gdk (by omega) (by omega), ncl (by omega), (hr1.cp p hp).2]
    rw [b1, b1s]
  · unfold gWed
    rw [← gBegin_gPay (by omega) (by omega) (by omega)]
    exact b3
