/-! leave and pass by both -/
def clB (ro : RO) (g : Nat → Int32) (p : Nat) : Bool := !decide (ro.tr p = 0) && !lwB ro g && (!decide (ro.tr p = 1) || decide (bln g p < 2))
def rbB (ro : RO) (g : Nat → Int32) (p : Nat) : Int32 := if clB ro g p = true then (if vln g p < 8 then 0 else -3) else -2
theorem bln_le (g : Nat → Int32) (p : Nat) : bln g p ≤ 8 := cnt_le _ _
theorem co_refuseB {ro : RO} {T : Nat} {g : Nat → Int32} (h : VB ro.P T ro.fm g) {f : hF} {k : Nat} (hr : RR ro f) (hc : CB f (k+1) g) {p : Nat} (hp : p < ro.Q) : fX2_refuseBlank k 3 f (nI p) = some (rbB ro g p) := by
  have hQ := hr.ok.2.2.2.1
  have ht := (hr.ok.2.2.2.2.2.2 p hp).1
  have hb := bln_le g p
  unfold fX2_refuseBlank fX2_refuseBlank_61 rbB clB
  rw [hr.cpar, per_t (by omega) hp, b1s, if_neg bt0, gdk (by omega) (by omega), ncl (by omega), (hr.cp p hp).1, co_law hr hc, b1s, co_blanksOf h hc (by omega), b1s, co_room h hc (by omega), b1s, gdk (by omega) (by omega)]
  by_cases t0 : ro.tr p = 0
  · rw [if_pos (show nI (ro.tr p) = 0 by rw [t0]; rfl), decide_eq_true t0]; rfl
  · rw [if_neg (show ¬ nI (ro.tr p) = 0 from fun z => t0 ((nI_eq (b := 0) (by omega) (by omega)).mp z)), decide_eq_false t0]
    cases lwB ro g with
    | true => rfl
    | false =>
      rw [if_pos bf0]
      have last : (if bI (decide (vln g p < 8)) = 0 then some (-3 : Int32) else some 0) = some (if vln g p < 8 then 0 else -3) := by
        by_cases z : vln g p < 8
        · rw [decide_eq_true z, if_neg bt0, if_pos z]
        · rw [decide_eq_false z, if_pos bf0, if_neg z]
      rw [last]
      by_cases t1 : ro.tr p = 1
      · rw [if_pos (show nI (ro.tr p) = 1 by rw [t1]; rfl), decide_eq_true t1]
        by_cases q : bln g p < 2
        · rw [if_pos (show nI (bln g p) < (2 : Int32) from (nI_ltI (b := 2) (by omega) (by omega)).mpr q), decide_eq_true q]; rfl
        · rw [if_neg (show ¬ nI (bln g p) < (2 : Int32) from fun z => q ((nI_ltI (b := 2) (by omega) (by omega)).mp z)), decide_eq_false q]; rfl
      · rw [if_neg (show ¬ nI (ro.tr p) = 1 from fun z => t1 ((nI_eq (b := 1) (by omega) (by omega)).mp z)), decide_eq_false t1]; rfl
theorem mo_canLeave {ro : RO} {T : Nat} {f : hF} (h : VB ro.P T ro.fm (f 158)) (hr : RR ro f) {p : Nat} (hp : p < ro.Q) : fX8_canLeave f (nI p) = some (bI (clB ro (f 158) p)) := by
  have hQ := hr.ok.2.2.2.1
  have ht := (hr.ok.2.2.2.2.2.2 p hp).1
  have hb := bln_le (f 158) p
  unfold fX8_canLeave clB
  rw [show (2 : Int32) * nI p = nI (2 * p) from nmul 2 p, gdk (by omega) (by omega), ncl (by omega), (hr.mp p hp).1, mo_law hr, b1s, mo_blanksOf h (by omega), b1s]
  by_cases t0 : ro.tr p = 0
  · rw [if_pos (show nI (ro.tr p) = 0 by rw [t0]; rfl), decide_eq_true t0]; rfl
  · rw [if_neg (show ¬ nI (ro.tr p) = 0 from fun z => t0 ((nI_eq (b := 0) (by omega) (by omega)).mp z)), decide_eq_false t0]
    cases lwB ro (f 158) with
    | true => rfl
    | false =>
      rw [if_pos bf0]
      by_cases t1 : ro.tr p = 1
      · rw [if_pos (show nI (ro.tr p) = 1 by rw [t1]; rfl), decide_eq_true t1]
        by_cases q : bln (f 158) p < 2
        · rw [if_neg (show ¬ (2 : Int32) ≤ nI (bln (f 158) p) from fun z => by have := (nI_leI (a := 2) (by omega) (by omega)).mp z; omega), decide_eq_true q]; rfl
        · rw [if_pos (show (2 : Int32) ≤ nI (bln (f 158) p) from (nI_leI (a := 2) (by omega) (by omega)).mpr (by omega)), decide_eq_false q]; rfl
      · rw [if_neg (show ¬ nI (ro.tr p) = 1 from fun z => t1 ((nI_eq (b := 1) (by omega) (by omega)).mp z)), decide_eq_false t1]; rfl
theorem RR_rem {ro : RO} {f f13 : hF} (d2 : ∀ j, j ≠ 146 → j ≠ 150 → f13 j = f j) (d3 : ∀ i, i ≠ 6 → f13 146 i = f 146 i) (hrA : RR ro f) : RR ro f13 := by
  refine ⟨hrA.ok, by rw [d2 3 (by omega) (by omega)]; exact hrA.c0, by rw [d2 3 (by omega) (by omega)]; exact hrA.c1, by rw [d2 3 (by omega) (by omega)]; exact hrA.c2, ?_, ?_, by rw [d3 0 (by omega)]; exact hrA.m0, by rw [d3 2 (by omega)]; exact hrA.m1, by rw [d3 4 (by omega)]; exact hrA.m2, by rw [d2 147 (by omega) (by omega)]; exact hrA.ma, by rw [d2 148 (by omega) (by omega)]; exact hrA.mp⟩
  · rw [d2 4 (by omega) (by omega), d2 5 (by omega) (by omega), d2 6 (by omega) (by omega)]; exact hrA.ca
  · rw [d2 8 (by omega) (by omega), d2 9 (by omega) (by omega)]; exact hrA.cp
/-- the reference as it is, remembered: f13; what is changed in 158 afterwards is laid back -/
theorem act_rem {T n : Nat} {ro : RO} {f f9 : hF} {gs : Nat → Nat → Int32} (h : R T ro f) (hn : n ≤ 8) (hm : SHm 150 6 f n gs) (e9 : ∀ j, ¬ (20 ≤ j ∧ j ≤ 28) → ¬ (30 ≤ j ∧ j ≤ 46) → ¬ (52 ≤ j ∧ j ≤ 125) → f9 j = f j) :
    fX8_asItIs f9 = some (stA f9 158 (f 149)) ∧ RR ro f9 ∧ RR ro (stA f9 158 (f 149)) ∧ ∃ f13, fX8_remembers (stA f9 158 (f 149)) = some f13 ∧ RR ro f13 ∧ f13 158 = f 149 ∧ f13 149 = f 149 ∧ (∀ j, j ≠ 146 → j ≠ 150 → j ≠ 158 → f13 j = f9 j) ∧ (∀ i, i ≠ 6 → f13 146 i = f9 146 i) ∧ SHm 150 6 f13 (psN n 8) (psG n 8 gs (f 149)) := by
  have hr9 : RR ro f9 := RR_of (fun j hj => e9 j (by omega) (by omega) (by omega)) h.rr
  have hrA : RR ro (stA f9 158 (f 149)) := hr9.st (by omega)
  have e149 : stA f9 158 (f 149) 149 = f 149 := by rw [sA_n (by decide), e9 149 (by omega) (by omega) (by omega)]
  have as := mo_as (f := f9) (fun i hi => by rw [e9 149 (by omega) (by omega) (by omega)]; exact h.bk.2.2 i hi) (fun i hi => by rw [e9 158 (by omega) (by omega) (by omega)]; exact h.z i hi)
  rw [e9 149 (by omega) (by omega) (by omega)] at as
  have hm9 : SHm 150 6 (stA f9 158 (f 149)) n gs := SHm_fr (by rw [sA_n (by decide), e9 146 (by omega) (by omega) (by omega)]) (by rw [sA_n (by decide), e9 150 (by omega) (by omega) (by omega)]) hm
  obtain ⟨f13, d1, d2, d3, d4⟩ := mo_rem hn hm9 (fun i hi => by rw [e149]; exact h.bk.2.2 i hi)
  rw [e149] at d4
  exact ⟨as, hr9, hrA, f13, d1, RR_rem d2 d3 hrA, by rw [d2 158 (by omega) (by omega), sA_s], by rw [d2 149 (by omega) (by omega), e149], fun j j1 j2 j3 => by rw [d2 j j1 j2, sA_n j3], fun i hi => by rw [d3 i hi, sA_n (by decide)], d4⟩
/-- laid back: all holds on -/
theorem act_end {T n : Nat} {ro : RO} {f f9 f13 f15 : hF} {gs : Nat → Nat → Int32} {g' : Nat → Int32} (h : R T ro f) (hn : n ≤ 8) (hB : ∀ j, j < n → BK ro T (gs j)) (e9 : ∀ j, ¬ (20 ≤ j ∧ j ≤ 28) → ¬ (30 ≤ j ∧ j ≤ 46) → ¬ (52 ≤ j ∧ j ≤ 125) → f9 j = f j)
    (hs : SHc 52 8 f9 (psN n 8) (psG n 8 gs (f 149))) (hc : CB f9 20 g') (hb : BK ro T g') (k4 : f13 149 = f 149) (k5 : ∀ j, j ≠ 146 → j ≠ 150 → j ≠ 158 → f13 j = f9 j) (k6 : ∀ i, i ≠ 6 → f13 146 i = f9 146 i) (k7 : SHm 150 6 f13 (psN n 8) (psG n 8 gs (f 149))) (e15 : ∀ j, j ≠ 159 → j ≠ 160 → f15 j = stA (stA f13 158 g') 149 g' j) :
    fX8_copies 149 111 158 111 (stA f13 158 g') (0 : Int32) (0 : Int32) (111 : Int32) = some (stA (stA f13 158 g') 149 g') ∧ R T ro f15 := by
  refine ⟨?_, ?_⟩
  · have := mo_back (f := stA f13 158 g') (fun i hi => by rw [sA_n (by decide), k4]; exact h.bk.2.2 i hi) (fun i hi => by rw [sA_s]; exact hb.2.2 i hi)
    rw [sA_s] at this
    exact this
  · refine R_act h (Nat.le_refl T) hn hB e9 hs hc hb (fun j j1 j2 j3 j4 => ?_) (fun i hi => ?_) ?_ ?_ (fun i hi => ?_)
    · rw [e15 j (by omega) (by omega), sA_n j2, sA_n (by omega), k5 j j1 j3 (by omega)]
    · rw [e15 146 (by omega) (by omega), sA_n (by decide), sA_n (by decide), k6 i hi]
    · exact SHm_fr (by rw [e15 146 (by omega) (by omega), sA_n (by decide), sA_n (by decide)]) (by rw [e15 150 (by omega) (by omega), sA_n (by decide), sA_n (by decide)]) k7
    · rw [e15 149 (by omega) (by omega), sA_s]
    · rw [e15 158 (by omega) (by omega), sA_n (by decide), sA_s]; exact hb.2.2 i hi
theorem leave_step {T : Nat} {ro : RO} {f : hF} (h : R T ro f) (hT : T < 1000000) (x : Int32) : Act2 (R T ro) f (fun f => fX7_leave f x) (fun f => fX8_leave f x) := by
  have hQ := h.rr.ok.2.2.2.1
  cases hp : decide (0 ≤ x ∧ x < nI ro.Q) with
  | false =>
    refine ⟨-1, f, f, ?_, ?_, h⟩
    · show fX7_leave f x = _
      unfold fX7_leave
      rw [h.rr.cpar, hp]; rfl
    · show fX8_leave f x = _
      unfold fX8_leave
      rw [h.rr.mpar, hp]; rfl
  | true =>
    obtain ⟨p, hpq, rfl⟩ := person_nI (by omega) hp
    obtain ⟨n, gs, hn, hc, hm, hB⟩ := SH_out h.past
    have hn8 := VB_ln h.bk.1 (p := p) (by omega)
    have C : fX7_leave f (nI p) = if rbB ro (f 149) p = 0 then b1 (fX5_put 52 8 20 f) fun f5 => b2 (fX0_begin 20 f5 (nI p)) fun r6 f7 => some (r6, f7) else some (rbB ro (f 149) p, f) := by
      unfold fX7_leave
      rw [h.rr.cpar, hp, b1s, if_neg bt0, co_refuseB (k := 19) h.bk.1 h.rr h.cb hpq, b1s]
    have M : ∀ f9, (∀ j, ¬ (20 ≤ j ∧ j ≤ 28) → ¬ (30 ≤ j ∧ j ≤ 46) → ¬ (52 ≤ j ∧ j ≤ 125) → f9 j = f j) → fX8_leave f9 (nI p) = if clB ro (f 149) p = true then (if vln (f 149) p = 8 then some (-3, stA f9 158 (f 149)) else
        b1 (fX8_remembers (stA f9 158 (f 149))) fun f8 => b2 (fX8_begins f8 (nI p)) fun r9 f10 => b1 (fX8_copies 149 111 158 111 f10 (0 : Int32) (0 : Int32) (111 : Int32)) fun f11 => some ((r9 - r9 / 8 * 8), f11)) else some (-2, stA f9 158 (f 149)) := by
      intro f9 e
      obtain ⟨as, hr9, hrA, -⟩ := act_rem h hn hm e
      unfold fX8_leave
      rw [hr9.mpar, hp, b1s, if_neg bt0, as, b1s, mo_canLeave (by rw [sA_s]; exact h.bk.1) hrA hpq, b1s, sA_s, bi_if, show (12 : Int32) + nI p = nI (12 + p) from nadd 12 p, gdk (by omega) (by omega), ncl (by omega), sA_n (by decide), e 149 (by omega) (by omega) (by omega), hn8.1]
      cases clB ro (f 149) p with
      | false => rfl
      | true =>
        rw [if_pos rfl, if_pos rfl]
        by_cases q : vln (f 149) p = 8
        · rw [if_pos q, if_pos (show nI (vln (f 149) p) = 8 by rw [q]; rfl)]
        · rw [if_neg q, if_neg (show ¬ nI (vln (f 149) p) = 8 from fun w => q ((nI_eq (b := 8) (by omega) (by omega)).mp w))]
    cases hw : clB ro (f 149) p with
    | false =>
      have er : rbB ro (f 149) p = -2 := by unfold rbB; rw [hw]; rfl
      refine ⟨-2, f, stA f 158 (f 149), ?_, ?_, R_sc h.sc1 h⟩
      · show fX7_leave f _ = _
        rw [C, er, if_neg (by decide)]
      · show fX8_leave f _ = _
        rw [M f (fun _ _ _ _ => rfl), hw, if_neg (by decide)]
    | true =>
      by_cases z : vln (f 149) p = 8
      · have er : rbB ro (f 149) p = -3 := by unfold rbB; rw [if_pos hw, if_neg (by omega)]
        refine ⟨-3, f, stA f 158 (f 149), ?_, ?_, R_sc h.sc1 h⟩
        · show fX7_leave f _ = _
          rw [C, er, if_neg (by decide)]
        · show fX8_leave f _ = _
          rw [M f (fun _ _ _ _ => rfl), hw, if_pos rfl, if_pos z]
      · have hl : vln (f 149) p < 8 := by omega
        have er : rbB ro (f 149) p = 0 := by unfold rbB; rw [if_pos hw, if_pos hl]
        obtain ⟨f7, a1, a2, a3⟩ := co_put (k := 52) (w := 8) (by omega) (by omega) (by omega) (by omega) hn hc h.cb
        have hc7 : CB f7 20 (f 149) := CB_frame (fun t t1 t2 => a2 t (by omega)) h.cb
        obtain ⟨f9, c1, c2, c3⟩ := co_begin h.bk.1 hc7 (show p < 3 by omega) hl
        have e9 : ∀ j, ¬ (20 ≤ j ∧ j ≤ 28) → ¬ (30 ≤ j ∧ j ≤ 46) → ¬ (52 ≤ j ∧ j ≤ 125) → f9 j = f j := fun j j1 j2 j3 => by rw [c2 j (by omega) (by omega) (by omega), a2 j (by omega)]
        obtain ⟨as, hr9, hrA, f13, k1, k2, k3, k4, k5, k6, k7⟩ := act_rem h hn hm e9
        have hgB := BK_begin hT hQ hpq hl h.bk
        have hbg := mo_begins (f := f13) (by rw [k3]; exact h.bk.1) (show p < 3 by omega) (by rw [k3]; exact hl)
        rw [k3] at hbg
        obtain ⟨l1, l2⟩ := act_end (f15 := stA (stA f13 158 (gBegin (f 149) p)) 149 (gBegin (f 149) p)) h hn hB e9 (SHc_fr (fun t t1 t2 => c2 t (by omega) (by omega) (by omega)) (psN_le hn) a3) c3 hgB k4 k5 k6 k7 (fun _ _ _ => rfl)
        refine ⟨nI (vln (f 149) p), f9, _, ?_, ?_, l2⟩
        · show fX7_leave f _ = _
          rw [C, er, if_pos rfl, a1, b1s, c1, b2s]
        · show fX8_leave f9 _ = _
          rw [M f9 e9, hw, if_pos rfl, if_neg z, k1, b1s, hbg, b2s, l1, b1s, L8, nrem (by omega) (by omega) (by omega), show (8 * p + vln (f 149) p) % 8 = vln (f 149) p by omega]
theorem pass_step {T : Nat} {ro : RO} {f : hF} (h : R T ro f) (hT : T < 1000000) (x : Int32) : Act2 (R (T + 30) ro) f (fun f => fX7_pass f x) (fun f => fX8_pass f x) := by
  rcases in_or x 1 30 (by omega) (by omega) with ⟨d, hd1, hd, rfl, hin⟩ | ⟨hin, hout⟩
  · obtain ⟨n, gs, hn, hc, hm, hB⟩ := SH_out h.past
    obtain ⟨f7, a1, a2, a3⟩ := co_put (k := 52) (w := 8) (by omega) (by omega) (by omega) (by omega) hn hc h.cb
    have hc7 : CB f7 20 (f 149) := CB_frame (fun t t1 t2 => a2 t (by omega)) h.cb
    have e9 : ∀ j, ¬ (20 ≤ j ∧ j ≤ 28) → ¬ (30 ≤ j ∧ j ≤ 46) → ¬ (52 ≤ j ∧ j ≤ 125) → st2 f7 20 0 (f 149 0 + nI d) j = f j := fun j j1 j2 j3 => by rw [s2_n (by omega), a2 j (by omega)]
    have hm9 : SHm 150 6 (st2 f7 20 0 (f 149 0 + nI d)) n gs := SHm_fr (by rw [e9 146 (by omega) (by omega) (by omega)]) (e9 150 (by omega) (by omega) (by omega)) hm
    have e149 := e9 149 (by omega) (by omega) (by omega)
    obtain ⟨f13, d1, d2, d3, d4⟩ := mo_rem hn hm9 (fun i hi => by rw [e149]; exact h.bk.2.2 i hi)
    rw [e149] at d4
    have e13 : f13 149 = f 149 := by rw [d2 149 (by omega) (by omega), e149]
    have hgB : BK ro (T + 30) (upd (f 149) 0 (f 149 0 + nI d)) := BK_mono (by omega) (BK_pass hT hd h.bk)
    refine ⟨f 149 0 + nI d, st2 f7 20 0 (f 149 0 + nI d), st2 f13 149 0 (f 149 0 + nI d), ?_, ?_, ?_⟩
    · show fX7_pass f _ = _
      unfold fX7_pass
      rw [if_neg (show ¬ nI d < (1 : Int32) from fun z => by have := (nI_ltI (b := 1) (by omega) (by omega)).mp z; omega), if_pos (show nI d ≤ (30 : Int32) from (nI_leI (b := 30) (by omega) (by omega)).mpr hd), a1, b1s, hc7.1, lte, s2_s, u_s]
    · show fX8_pass _ _ = _
      unfold fX8_pass
      rw [show fX8_in (nI d) (1 : Int32) (30 : Int32) = some 1 from hin, b1s, if_neg (by decide), d1, b1s, gd0 (by decide), gd0 (by decide), cl0, e13, lte, gd0 (by decide), s2_s, u_s]
    · refine R_act h (by omega) hn hB e9 (SHc_fr (fun t t1 t2 => s2_n (by omega)) (psN_le hn) a3) (g' := upd (f 149) 0 (f 149 0 + nI d)) ?_ hgB (fun j j1 j2 j3 j4 => ?_) (fun i hi => ?_) ?_ ?_ (fun i hi => ?_)
      · refine ⟨by rw [s2_s, u_s, u_s], fun q hq => ?_, fun q hq => ?_, fun q hq => ?_, fun t ht hv => ?_⟩
        · rw [s2_n (by decide), u_n (by omega)]; exact hc7.2.1 q hq
        · rw [s2_n (by decide), u_n (by omega)]; exact hc7.2.2.1 q hq
        · rw [s2_n (by decide), u_n (by omega)]; exact hc7.2.2.2.1 q hq
        · have hv2 : vth (f 149) t = true := by
            unfold vth vln at hv ⊢
            rw [u_n (by omega)] at hv
            exact hv
          rw [s2_n (by decide), s2_n (by decide), s2_n (by decide), s2_n (by decide), s2_n (by decide), u_n (by omega), u_n (by omega), u_n (by omega), u_n (by omega)]
          exact hc7.2.2.2.2 t ht hv2
      · rw [s2_n j2, d2 j j1 j3]
      · rw [s2_n (by decide), d3 i hi]
      · exact SHm_fr (by rw [s2_n (by decide)]) (s2_n (by decide)) d4
      · rw [s2_s, e13]
      · rw [s2_n (by decide), d2 158 (by omega) (by omega), e9 158 (by omega) (by omega) (by omega)]; exact h.z i hi
  · refine ⟨-1, f, f, ?_, ?_, R_mono (by omega) h⟩
    · show fX7_pass f x = _
      unfold fX7_pass
      rcases hout with q | q
      · rw [if_pos (show x < (1 : Int32) from q)]
      · by_cases z : x < 1
        · rw [if_pos z]
        · rw [if_neg z, if_neg (show ¬ x ≤ (30 : Int32) from Int32.not_le.mpr q)]
    · show fX8_pass f x = _
      unfold fX8_pass
      rw [show fX8_in x (1 : Int32) (30 : Int32) = some 0 from hin, b1s, if_pos rfl]
