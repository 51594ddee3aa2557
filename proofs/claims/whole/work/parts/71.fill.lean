/-! fill and strike by both -/
def ctB (ro : RO) (g : Nat → Int32) (s : Nat) : Int32 := if ro.tr (s / 8) = 2 then nI (ro.pr (s / 8)) + (g 0 - g (15 + 4 * s)) / 2 else nI (ro.pr (s / 8)) + (g 0 - g (15 + 4 * s))
theorem mo_cost {ro : RO} {f : hF} (hr : RR ro f) {s : Nat} (hs : s < 24) (hq : s / 8 < ro.Q) : fX8_costOf f (nI s) = some (ctB ro (f 158) s) := by
  have ht := (hr.ok.2.2.2.2.2.2 _ hq).1
  unfold fX8_costOf ctB
  rw [gd0 (by decide), mo_beg hs, b1s, L8, ndiv (by omega) (by omega) (by omega), show (2 : Int32) * nI (s / 8) = nI (2 * (s / 8)) from nmul 2 (s / 8), show nI (2 * (s / 8)) + 1 = nI (2 * (s / 8) + 1) from nadd _ 1, gdk (by omega) (by omega), gdk (by omega) (by omega), ncl (by omega), ncl (by omega), (hr.mp _ hq).1, (hr.mp _ hq).2, cl0]
  by_cases z : ro.tr (s / 8) = 2
  · rw [if_pos (show nI (ro.tr (s / 8)) = 2 by rw [z]; rfl), if_pos z]
  · rw [if_neg (show ¬ nI (ro.tr (s / 8)) = 2 from fun w => z ((nI_eq (b := 2) (by omega) (by omega)).mp w)), if_neg z]
theorem co_cost {ro : RO} {T : Nat} {g : Nat → Int32} (h : VB ro.P T ro.fm g) {f : hF} {k : Nat} (hr : RR ro f) (hc : CB f (k+1) g) {s p : Nat} (hp : p = s / 8) (hs : s < 24) (hv : vth g s = true) (hq : p < ro.Q) : fX2_costToFill k 3 f (nI p) (nI s) = some (ctB ro g s) := by
  have hQ := hr.ok.2.2.2.1
  have ht := (hr.ok.2.2.2.2.2.2 _ hq).1
  unfold fX2_costToFill ctB
  rw [hr.cpar, per_t (by omega) hq, b1s, if_neg bt0, co_line h hc hs, hv, b1s, if_neg bt0, gdk hs (by omega), gdk (by omega) (by omega), gdk (by omega) (by omega), ncl (by omega), ncl (by omega), (hr.cp p hq).1, (hr.cp p hq).2, hc.1, (hc.2.2.2.2 s hs hv).1, hp]
  rw [hp] at ht
  by_cases z : ro.tr (s / 8) = 2
  · rw [if_pos (show nI (ro.tr (s / 8)) = 2 by rw [z]; rfl), if_pos z]
  · rw [if_neg (show ¬ nI (ro.tr (s / 8)) = 2 from fun w => z ((nI_eq (b := 2) (by omega) (by omega)).mp w)), if_neg z]
theorem fill_step {T : Nat} {ro : RO} {f : hF} (h : R T ro f) (hT : T < 1000000) (x y u v : Int32) : Act2 (R T ro) f (fun f => fX7_fill f x y u v) (fun f => fX8_fill f x y u v) := by
  have hP := h.rr.ok.2.1
  have hQ := h.rr.ok.2.2.2.1
  rcases slot_or h x y with ⟨p, l, pq, ll, rfl, rfl, h24, hv, sl, isl⟩ | ⟨sl, isl⟩
  · generalize hs : 8 * p + l = s at *
    have hln := (VB_ln h.bk.1 (p := p) (by omega)).2
    have hps : p = s / 8 := by omega
    have e8 : (8 * nI p + nI l : Int32) = nI s := by rw [L8, nmul, nadd, hs]
    rcases two_or h u v with ⟨a, b, ha, hb, hab, rfl, rfl⟩ | ⟨t1, t2⟩
    · have hbk := CB_blank h.cb h24 hv
      have C : fX7_fill f (nI p) (nI l) (nI a) (nI b) = if vbl (f 149) s = true then (if cpB ro a b = true then (if pyB (f 149) a b (ctB ro (f 149) s) = true then b1 (fX5_put 52 8 20 f) fun f12 => b1 (fX2_writeTwo 19 3 f12 (nI p) (nI s) (nI a) (nI b) (ctB ro (f 149) s)) fun f13 => some (ctB ro (f 149) s, f13) else some (-2, f)) else some (-2, f)) else some (-2, f) := by
        unfold fX7_fill
        rw [sl, b1s, if_neg (n1 (b := s) (by omega)), co_areTwo h.rr ha hb, decide_eq_true hab, b1s, if_neg bt0, gdk h24 (by omega), ncl (by omega), co_canPair h.rr ha hb, b1s, co_cost (k := 19) h.bk.1 h.rr h.cb hps h24 hv pq, b1s, co_canPay (k := 19) h.rr h.cb ha hb, b1s, bi_if, bi_if]
        cases q : vbl (f 149) s with
        | true => rw [if_pos (hbk.mpr q), if_pos rfl]
        | false => rw [if_neg (fun w => by rw [hbk.mp w] at q; cases q), if_neg (by decide)]
      obtain ⟨n, gs, hn, hc, hm, hB⟩ := SH_out h.past
      have M : ∀ f9, (∀ j, ¬ (20 ≤ j ∧ j ≤ 28) → ¬ (30 ≤ j ∧ j ≤ 46) → ¬ (52 ≤ j ∧ j ≤ 125) → f9 j = f j) → fX8_isLine f9 (nI p) (nI l) = some 1 → fX8_fill f9 (nI p) (nI l) (nI a) (nI b) = if vbl (f 149) s = true then (if cpB ro a b = true then (if pyB (f 149) a b (ctB ro (f 149) s) = true then
          b1 (fX8_remembers (stA f9 158 (f 149))) fun f16 => b1 (fX8_costOf f16 (nI s)) fun r17 => b1 (fX8_pays f16 (nI p) (nI a) (nI b) r17) fun f18 => b1 (fX8_writes f18 (nI s) (nI a) (nI b)) fun f19 => b1 (fX8_copies 149 111 158 111 f19 (0 : Int32) (0 : Int32) (111 : Int32)) fun f20 => some (r17, f20)
          else some (-2, stA f9 158 (f 149))) else some (-2, stA f9 158 (f 149))) else some (-2, stA f9 158 (f 149)) := by
        intro f9 e il
        obtain ⟨as, hr9, hrA, -⟩ := act_rem h hn hm e
        have hV : VB ro.P T ro.fm (stA f9 158 (f 149) 158) := by rw [sA_s]; exact h.bk.1
        unfold fX8_fill
        rw [il, b1s, if_neg (by decide), hr9.mper, per_t (by omega) ha, b1s, if_neg bt0, hr9.mper, per_t (by omega) hb, b1s, if_neg bt0, if_neg (by rw [neqq (by omega) (by omega)]; exact hab), as, b1s, e8, mo_blank hV h24, b1s, mo_canBeTwo hrA ha hb, b1s, mo_cost hrA h24 (by omega), b1s, mo_canPay (by omega) (by omega), b1s, sA_s, bi_if, bi_if, bi_if]
      have no : ∀ (_ : (if vbl (f 149) s = true then (if cpB ro a b = true then (if pyB (f 149) a b (ctB ro (f 149) s) = true then 1 else 0) else 0) else 0) = 0), Act2 (R T ro) f (fun f => fX7_fill f (nI p) (nI l) (nI a) (nI b)) (fun f => fX8_fill f (nI p) (nI l) (nI a) (nI b)) := by
        intro q
        refine ⟨-2, f, stA f 158 (f 149), ?_, ?_, R_sc h.sc1 h⟩
        · show fX7_fill f _ _ _ _ = _
          rw [C]
          revert q
          cases vbl (f 149) s <;> cases cpB ro a b <;> cases pyB (f 149) a b (ctB ro (f 149) s) <;> intro q <;> first | rfl | exact absurd q (by decide)
        · show fX8_fill f _ _ _ _ = _
          rw [M f (fun _ _ _ _ => rfl) (isl f h rfl)]
          revert q
          cases vbl (f 149) s <;> cases cpB ro a b <;> cases pyB (f 149) a b (ctB ro (f 149) s) <;> intro q <;> first | rfl | exact absurd q (by decide)
      cases w1 : vbl (f 149) s with
      | false => exact no (by rw [w1]; rfl)
      | true =>
      cases w2 : cpB ro a b with
      | false => exact no (by rw [w1, w2]; rfl)
      | true =>
      cases w3 : pyB (f 149) a b (ctB ro (f 149) s) with
      | false => exact no (by rw [w1, w2, w3]; rfl)
      | true =>
        have hmw := mnW_lt ha hb
        have hcw := cpB_mw w2
        have hne : mnW ro a b ≠ wmW ro a b := fun e => by rw [e, hcw.2.2] at hcw; exact absurd hcw.2.1 (by decide)
        obtain ⟨f7, a1, a2, a3⟩ := co_put (k := 52) (w := 8) (by omega) (by omega) (by omega) (by omega) hn hc h.cb
        have hc7 : CB f7 20 (f 149) := CB_frame (fun t t1 t2 => a2 t (by omega)) h.cb
        have hr7 : RR ro f7 := RR_of (fun j hj => a2 j (by omega)) h.rr
        obtain ⟨f9, c1, c2, c3⟩ := co_writeTwo (k := 19) (c := ctB ro (f 149) s) h.bk.1 hr7 hc7 pq h24 hv ha hb w2
        have e9 : ∀ j, ¬ (20 ≤ j ∧ j ≤ 28) → ¬ (30 ≤ j ∧ j ≤ 46) → ¬ (52 ≤ j ∧ j ≤ 125) → f9 j = f j := fun j j1 j2 j3 => by rw [c2 j (by omega), a2 j (by omega)]
        obtain ⟨as, hr9, hrA, f13, k1, k2, k3, k4, k5, k6, k7⟩ := act_rem h hn hm e9
        have hgB := BK_write (s := s) h24 hmw.1 hmw.2 hcw.2.1 hcw.2.2 (BK_pay (m := mnW ro a b) (w := wmW ro a b) (p := p) (c := ctB ro (f 149) s) (by omega) (by omega) (by omega) h.bk)
        obtain ⟨l1, l2⟩ := act_end (f15 := stA (stA f13 158 (gWrite (gPay (f 149) (mnW ro a b) (wmW ro a b) p (ctB ro (f 149) s)) s (mnW ro a b) (wmW ro a b))) 149 (gWrite (gPay (f 149) (mnW ro a b) (wmW ro a b) p (ctB ro (f 149) s)) s (mnW ro a b) (wmW ro a b))) h hn hB e9 (SHc_fr (fun t t1 t2 => c2 t (by omega)) (psN_le hn) a3) c3 hgB k4 k5 k6 k7 (fun _ _ _ => rfl)
        have il9 : fX8_isLine f9 (nI p) (nI l) = some 1 := by
          have := isl f h rfl
          unfold fX8_isLine at this ⊢
          rw [hr9.mpar, e9 149 (by omega) (by omega) (by omega)]
          rw [h.rr.mpar] at this
          exact this
        refine ⟨ctB ro (f 149) s, f9, _, ?_, ?_, l2⟩
        · show fX7_fill f _ _ _ _ = _
          rw [C, w1, if_pos rfl, w2, if_pos rfl, w3, if_pos rfl, a1, b1s, c1, b1s]
        · show fX8_fill f9 _ _ _ _ = _
          rw [M f9 e9 il9, w1, if_pos rfl, w2, if_pos rfl, w3, if_pos rfl, k1, b1s, mo_cost k2 h24 (by omega), b1s, k3, mo_pays k2 pq ha hb hne, b1s, k3, mo_writes (k2.st (by omega)) h24 ha hb, b1s, sA_s, sA_sA, l1, b1s]
    · refine ⟨-1, f, f, ?_, ?_, h⟩
      · show fX7_fill f _ _ _ _ = _
        unfold fX7_fill
        rw [sl, b1s, if_neg (n1 (b := s) (by omega)), t1, b1s, if_pos rfl]
      · show fX8_fill f _ _ _ _ = _
        unfold fX8_fill
        rw [isl f h rfl, b1s, if_neg (by decide)]
        exact wed_bad h t2
  · refine ⟨-1, f, f, ?_, ?_, h⟩
    · show fX7_fill f _ _ _ _ = _
      unfold fX7_fill
      rw [sl, b1s, if_pos rfl]
    · show fX8_fill f _ _ _ _ = _
      unfold fX8_fill
      rw [isl f h rfl, b1s, if_pos rfl]
theorem CB_strike {g : Nat → Int32} {f : hF} {bk s : Nat} (hs : s < 24) (hc : CB f bk g) : CB (st2 f (bk + 4) s 2) bk (upd g (16 + 4 * s) (-2)) := by
  refine ⟨?_, fun q hq => ?_, fun q hq => ?_, fun q hq => ?_, fun t ht hv => ?_⟩
  · rw [s2_n (by omega), u_n (by omega)]; exact hc.1
  · rw [s2_n (by omega), u_n (by omega)]; exact hc.2.1 q hq
  · rw [s2_n (by omega), u_n (by omega)]; exact hc.2.2.1 q hq
  · rw [s2_n (by omega), u_n (by omega)]; exact hc.2.2.2.1 q hq
  · have hv2 : vth g t = true := by
      unfold vth vln at hv ⊢
      rw [u_n (by omega)] at hv
      exact hv
    have old := hc.2.2.2.2 t ht hv2
    rw [s2_n (j := bk + 5) (by omega), u_n (j := 15 + 4 * t) (by omega)]
    refine ⟨old.1, ?_⟩
    rw [s2_s, s2_n (j := bk + 6) (by omega), s2_n (j := bk + 7) (by omega), s2_n (j := bk + 8) (by omega), u_n (j := 17 + 4 * t) (by omega), u_n (j := 18 + 4 * t) (by omega)]
    by_cases e : t = s
    · rw [e, u_s, u_s]; exact Or.inr (Or.inl ⟨rfl, rfl⟩)
    · rw [u_n e, u_n (by omega)]; exact old.2
theorem strike_step {T : Nat} {ro : RO} {f : hF} (h : R T ro f) (hT : T < 1000000) (x y : Int32) : Act2 (R T ro) f (fun f => fX7_strike f x y) (fun f => fX8_strike f x y) := by
  have hP := h.rr.ok.2.1
  have hQ := h.rr.ok.2.2.2.1
  rcases slot_or h x y with ⟨p, l, pq, ll, rfl, rfl, h24, hv, sl, isl⟩ | ⟨sl, isl⟩
  · generalize hs : 8 * p + l = s at *
    have e8 : (8 * nI p + nI l : Int32) = nI s := by rw [L8, nmul, nadd, hs]
    have hst := CB_two h.cb h24 hv
    obtain ⟨n, gs, hn, hc, hm, hB⟩ := SH_out h.past
    cases q : vtw (f 149) s with
    | false =>
      refine ⟨-2, f, stA f 158 (f 149), ?_, ?_, R_sc h.sc1 h⟩
      · show fX7_strike f _ _ = _
        unfold fX7_strike
        rw [sl, b1s, if_neg (n1 (b := s) (by omega)), gdk h24 (by omega), ncl (by omega), if_neg (fun w => by rw [hst.mp w] at q; cases q)]
      · show fX8_strike f _ _ = _
        unfold fX8_strike
        rw [isl f h rfl, b1s, if_neg (by decide), h.as, b1s, e8, mo_two (by rw [sA_s]; exact h.bk.1) h24, b1s, sA_s, q, if_pos bf0]
    | true =>
      obtain ⟨f7, a1, a2, a3⟩ := co_put (k := 52) (w := 8) (by omega) (by omega) (by omega) (by omega) hn hc h.cb
      have hc7 : CB f7 20 (f 149) := CB_frame (fun t t1 t2 => a2 t (by omega)) h.cb
      have hc8 := CB_strike h24 hc7
      have hgB := BK_strike h24 h.bk
      obtain ⟨f9, c1, c2⟩ := co_countB (k := 19) (ro := 3) hgB.1 hP hT hc8
      have e9 : ∀ j, ¬ (20 ≤ j ∧ j ≤ 28) → ¬ (30 ≤ j ∧ j ≤ 46) → ¬ (52 ≤ j ∧ j ≤ 125) → f9 j = f j := fun j j1 j2 j3 => by rw [c2 j (by omega) (by omega), s2_n (by omega), a2 j (by omega)]
      obtain ⟨as, hr9, hrA, f13, k1, k2, k3, k4, k5, k6, k7⟩ := act_rem h hn hm e9
      have il9 : fX8_isLine f9 (nI p) (nI l) = some 1 := by
        have := isl f h rfl
        unfold fX8_isLine at this ⊢
        rw [hr9.mpar, e9 149 (by omega) (by omega) (by omega)]
        rw [h.rr.mpar] at this
        exact this
      have hfd := mo_find (f := stA (stA f13 158 (upd (f 149) (16 + 4 * s) (-2))) 149 (upd (f 149) (16 + 4 * s) (-2))) (by rw [sA_n (by decide), sA_s]; exact hgB.1) hP hT
      obtain ⟨f15, m1, m2, m3, -⟩ := hfd
      rw [sA_n (by decide), sA_s] at m3
      obtain ⟨l1, l2⟩ := act_end (f15 := f15) h hn hB e9 (SHc_fr (fun t t1 t2 => by rw [c2 t (by omega) (by omega), s2_n (by omega)]) (psN_le hn) a3) (CB_frame (fun t t1 t2 => c2 t (by omega) (by omega)) hc8) hgB k4 k5 k6 k7 (fun j j1 j2 => m2 j j1 j2)
      refine ⟨nI (cnt (hdB (upd (f 149) (16 + 4 * s) (-2))) 24), f9, f15, ?_, ?_, l2⟩
      · show fX7_strike f _ _ = _
        unfold fX7_strike
        rw [sl, b1s, if_neg (n1 (b := s) (by omega)), gdk h24 (by omega), ncl (by omega), if_pos (hst.mpr q), a1, b1s, gdk h24 (by omega), lte, c1, b2s]
      · show fX8_strike f9 _ _ = _
        unfold fX8_strike
        rw [il9, b1s, if_neg (by decide), as, b1s, e8, mo_two (by rw [sA_s]; exact h.bk.1) h24, b1s, sA_s, q, if_neg bt0, k1, b1s, show (4 : Int32) * nI s = nI (4 * s) from nmul 4 s, show (15 : Int32) + nI (4 * s) = nI (15 + 4 * s) from nadd 15 _, show nI (15 + 4 * s) + 1 = nI (15 + 4 * s + 1) from nadd _ 1, gdk (by omega) (by omega), lte, ncl (by omega), s2_A, k3, show 15 + 4 * s + 1 = 16 + 4 * s by omega, l1, b1s, m1, b1s, mo_many m3, b1s]
  · refine ⟨-1, f, f, ?_, ?_, h⟩
    · show fX7_strike f x y = _
      unfold fX7_strike
      rw [sl, b1s, if_pos rfl]
    · show fX8_strike f x y = _
      unfold fX8_strike
      rw [isl f h rfl, b1s, if_pos rfl]
