/-! wed, leave, fill, strike, pass by both -/
theorem ps_BK {ro : RO} {T n w : Nat} {gs : Nat → Nat → Int32} {g : Nat → Int32} (hn : n ≤ w) (hg : BK ro T g) (hB : ∀ j, j < n → BK ro T (gs j)) : ∀ j, j < psN n w → BK ro T (psG n w gs g j) := by
  intro j hj
  unfold psN at hj
  unfold psG
  by_cases e : n = w
  · rw [if_pos e] at hj
    simp only [e, if_true]
    by_cases z : j = w - 1
    · simp only [z, if_true]; exact hg
    · simp only [z, if_false]; exact hB (j + 1) (by omega)
  · rw [if_neg e] at hj
    simp only [e, if_false]
    by_cases z : j = n
    · simp only [z, if_true]; exact hg
    · simp only [z, if_false]; exact hB j (by omega)
theorem psN_le {n w : Nat} (hn : n ≤ w) : psN n w ≤ w := by
  unfold psN
  by_cases e : n = w
  · rw [if_pos e]; exact Nat.le_refl _
  · rw [if_neg e]; omega
theorem mo_back {f : hF} (h1 : ∀ i, 111 ≤ i → f 149 i = 0) (h2 : ∀ i, 111 ≤ i → f 158 i = 0) : fX8_copies 149 111 158 111 f (0 : Int32) (0 : Int32) (111 : Int32) = some (stA f 149 (f 158)) := by
  have h := mo_copies (f := f) (a0 := 149) (n0 := 111) (a2 := 158) (n2 := 111) (u := 0) (v := 0) (c := 111) (by decide) (by decide) (by decide) (by decide) (by decide)
  rw [show fX8_copies 149 111 158 111 f (0 : Int32) (0 : Int32) (111 : Int32) = _ from h]
  have : cpf f 149 158 0 0 111 = f 158 := by
    funext t
    unfold cpf
    by_cases q : t < 111
    · rw [if_pos (by omega), show 0 + (t - 0) = t by omega]
    · rw [if_neg (by omega), h1 t (by omega), h2 t (by omega)]
  rw [this]
theorem R_act {T T' n : Nat} {ro : RO} {f f9 f15 : hF} {gs : Nat → Nat → Int32} {g' : Nat → Int32} (h : R T ro f) (hT : T ≤ T') (hn : n ≤ 8) (hB : ∀ j, j < n → BK ro T (gs j)) (e : ∀ j, ¬ (20 ≤ j ∧ j ≤ 28) → ¬ (30 ≤ j ∧ j ≤ 46) → ¬ (52 ≤ j ∧ j ≤ 125) → f9 j = f j)
    (hs : SHc 52 8 f9 (psN n 8) (psG n 8 gs (f 149))) (hc : CB f9 20 g') (hb : BK ro T' g') (e2 : ∀ j, j ≠ 146 → j ≠ 149 → j ≠ 150 → ¬ (154 ≤ j ∧ j ≤ 161) → f15 j = f9 j) (e3 : ∀ i, i ≠ 6 → f15 146 i = f9 146 i) (hm : SHm 150 6 f15 (psN n 8) (psG n 8 gs (f 149)))
    (h9 : f15 149 = g') (hz : ∀ i, 111 ≤ i → f15 158 i = 0) : R T' ro f15 := by
  refine R_mk h (fun j j1 j2 j3 j4 => ?_) (fun i hi i6 i8 => by rw [e3 i i6, e 146 (by omega) (by omega) (by omega)]) (by rw [h9]; exact hb) ?_ hz ?_ ?_
  · have := scr_t j4
    rw [e2 j (by omega) (by omega) (by omega) (by omega), e j j1 (by omega) (by omega)]
  · rw [h9]; exact CB_frame (fun t t1 t2 => e2 t (by omega) (by omega) (by omega) (by omega)) hc
  · exact SH_in (psN_le hn) (SHc_fr (fun t t1 t2 => e2 t (by omega) (by omega) (by omega) (by omega)) (psN_le hn) hs) hm (fun j hj => BK_mono hT (ps_BK hn h.bk hB j hj))
  · obtain ⟨m, gk, km, k1, k2, k3⟩ := SH_out h.kept
    refine SH_in km (SHc_fr (fun t t1 t2 => by rw [e2 t (by omega) (by omega) (by omega) (by omega), e t (by omega) (by omega) (by omega)]) km k1) (SHm_fr ?_ (by rw [e2 151 (by omega) (by omega) (by omega) (by omega), e 151 (by omega) (by omega) (by omega)]) k2) (fun j hj => BK_mono hT (k3 j hj))
    rw [e3 8 (by omega), e 146 (by omega) (by omega) (by omega)]
theorem two_or {T : Nat} {ro : RO} {f : hF} (h : R T ro f) (x y : Int32) :
    (∃ a b, a < ro.P ∧ b < ro.P ∧ a ≠ b ∧ x = nI a ∧ y = nI b) ∨ (fX3_areTwo 3 f x y = some 0 ∧ (decide (0 ≤ x ∧ x < nI ro.P) = false ∨ decide (0 ≤ y ∧ y < nI ro.P) = false ∨ x = y)) := by
  have hP := h.rr.ok.2.1
  unfold fX3_areTwo
  rw [h.rr.c0]
  by_cases e : x = y
  · rw [if_pos e]; exact Or.inr ⟨rfl, Or.inr (Or.inr e)⟩
  rw [if_neg e]
  by_cases x0 : x < 0
  · rw [if_pos x0]; exact Or.inr ⟨rfl, Or.inl (decide_eq_false (fun z => Int32.not_lt.mpr z.1 x0))⟩
  rw [if_neg x0]
  by_cases xp : nI ro.P ≤ x
  · rw [if_pos xp]; exact Or.inr ⟨rfl, Or.inl (decide_eq_false (fun z => Int32.not_lt.mpr xp z.2))⟩
  rw [if_neg xp]
  by_cases y0 : y < 0
  · rw [if_pos y0]; exact Or.inr ⟨rfl, Or.inr (Or.inl (decide_eq_false (fun z => Int32.not_lt.mpr z.1 y0)))⟩
  rw [if_neg y0]
  by_cases yp : nI ro.P ≤ y
  · rw [if_pos yp]; exact Or.inr ⟨rfl, Or.inr (Or.inl (decide_eq_false (fun z => Int32.not_lt.mpr yp z.2)))⟩
  left
  obtain ⟨a, ha, rfl⟩ := person_nI (x := x) (P := ro.P) (by omega) (decide_eq_true ⟨Int32.not_lt.mp x0, Int32.not_le.mp xp⟩)
  obtain ⟨b, hb, rfl⟩ := person_nI (x := y) (P := ro.P) (by omega) (decide_eq_true ⟨Int32.not_lt.mp y0, Int32.not_le.mp yp⟩)
  exact ⟨a, b, ha, hb, fun q => e (by rw [q]), rfl, rfl⟩
theorem wed_bad {α : Type} {T : Nat} {ro : RO} {f : hF} (h : R T ro f) {x y : Int32} {k : Option α} {v : α} (hn : decide (0 ≤ x ∧ x < nI ro.P) = false ∨ decide (0 ≤ y ∧ y < nI ro.P) = false ∨ x = y) :
    (b1 (fX8_isPerson f x) fun r3 => if r3 = 0 then some v else b1 (fX8_isPerson f y) fun r5 => if r5 = 0 then some v else if x = y then some v else k) = some v := by
  rw [h.rr.mper, h.rr.mper, b1s, b1s]
  rcases hn with q | q | q
  · rw [q, if_pos bf0]
  · rw [q, if_pos bf0]
    cases decide (0 ≤ x ∧ x < nI ro.P) <;> rfl
  · rw [if_pos q]
    cases decide (0 ≤ x ∧ x < nI ro.P)
    · rfl
    · cases decide (0 ≤ y ∧ y < nI ro.P) <;> rfl
theorem wed_step {T : Nat} {ro : RO} {f : hF} (h : R T ro f) (hT : T < 1000000) (x y z : Int32) : Act2 (R T ro) f (fun f => fX7_wed f x y z) (fun f => fX8_wed f x y z) := by
  have hP := h.rr.ok.2.1
  have hQ := h.rr.ok.2.2.2.1
  cases hp : decide (0 ≤ x ∧ x < nI ro.Q) with
  | false =>
    refine ⟨-1, f, f, ?_, ?_, h⟩
    · show fX7_wed f x y z = _
      unfold fX7_wed
      rw [h.rr.cpar, hp]; rfl
    · show fX8_wed f x y z = _
      unfold fX8_wed
      rw [h.rr.mpar, hp]; rfl
  | true =>
    obtain ⟨p, hpq, rfl⟩ := person_nI (by omega) hp
    rcases two_or h y z with ⟨a, b, ha, hb, hab, rfl, rfl⟩ | ⟨t1, t2⟩
    · have C : fX7_wed f (nI p) (nI a) (nI b) = if rfB ro (f 149) p a b = 0 then b1 (fX5_put 52 8 20 f) fun f7 => b2 (fX2_writeWedding 19 3 f7 (nI p) (nI a) (nI b)) fun r8 f9 => some (r8, f9) else some (rfB ro (f 149) p a b, f) := by
        unfold fX7_wed
        rw [h.rr.cpar, hp, b1s, if_neg bt0, co_areTwo h.rr ha hb, decide_eq_true hab, b1s, if_neg bt0, co_refuse (k := 19) h.bk.1 h.rr h.cb hpq ha hb, b1s]
      have M : ∀ f9, (∀ j, ¬ (20 ≤ j ∧ j ≤ 28) → ¬ (30 ≤ j ∧ j ≤ 46) → ¬ (52 ≤ j ∧ j ≤ 125) → f9 j = f j) → RR ro (stA f9 158 (f 149)) ∧ fX8_wed f9 (nI p) (nI a) (nI b) = if wdB ro (f 149) p a b = true then (if vln (f 149) p = 8 then some (-3, stA f9 158 (f 149)) else
          b1 (fX8_remembers (stA f9 158 (f 149))) fun f13 => b1 (fX8_weds f13 (nI p) (nI a) (nI b)) fun f14 => b1 (fX8_copies 149 111 158 111 f14 (0 : Int32) (0 : Int32) (111 : Int32)) fun f15 => gd (nI (12 + p)) 111 <| some (((f15 149 (12 + p)) - 1), f15)) else some (-2, stA f9 158 (f 149)) := by
        intro f9 e
        have hr9 : RR ro f9 := RR_of (fun j hj => e j (by omega) (by omega) (by omega)) h.rr
        have hrA : RR ro (stA f9 158 (f 149)) := hr9.st (by omega)
        have e9 : f9 149 = f 149 := e 149 (by omega) (by omega) (by omega)
        have as := mo_as (f := f9) (fun i hi => by rw [e9]; exact h.bk.2.2 i hi) (fun i hi => by rw [e 158 (by omega) (by omega) (by omega)]; exact h.z i hi)
        rw [e9] at as
        have hn := VB_ln h.bk.1 (p := p) (by omega)
        refine ⟨hrA, ?_⟩
        unfold fX8_wed
        rw [hr9.mpar, hp, b1s, if_neg bt0, hr9.mper, per_t (by omega) ha, b1s, if_neg bt0, hr9.mper, per_t (by omega) hb, b1s, if_neg bt0, if_neg (by rw [neqq (by omega) (by omega)]; exact hab), as, b1s, mo_canWed hrA hpq ha hb, b1s, sA_s, bi_if, L12, nadd, gdk (by omega) (by omega), ncl (by omega), sA_n (by decide), e9, hn.1]
        cases wdB ro (f 149) p a b with
        | false => rfl
        | true =>
          rw [if_pos rfl, if_pos rfl]
          by_cases q : vln (f 149) p = 8
          · rw [if_pos q, if_pos (show nI (vln (f 149) p) = 8 by rw [q]; rfl)]
          · rw [if_neg q, if_neg (show ¬ nI (vln (f 149) p) = 8 from fun w => q ((nI_eq (b := 8) (by omega) (by omega)).mp w))]
      cases hw : wdB ro (f 149) p a b with
      | false =>
        have er : rfB ro (f 149) p a b = -2 := by unfold rfB; rw [hw]; rfl
        refine ⟨-2, f, stA f 158 (f 149), ?_, ?_, R_sc h.sc1 h⟩
        · show fX7_wed f _ _ _ = _
          rw [C, er, if_neg (by decide)]
        · show fX8_wed f _ _ _ = _
          rw [(M f (fun _ _ _ _ => rfl)).2, hw, if_neg (by decide)]
      | true =>
        by_cases z : vln (f 149) p = 8
        · have er : rfB ro (f 149) p a b = -3 := by unfold rfB; rw [if_pos hw, if_neg (by omega)]
          refine ⟨-3, f, stA f 158 (f 149), ?_, ?_, R_sc h.sc1 h⟩
          · show fX7_wed f _ _ _ = _
            rw [C, er, if_neg (by decide)]
          · show fX8_wed f _ _ _ = _
            rw [(M f (fun _ _ _ _ => rfl)).2, hw, if_pos rfl, if_pos z]
        · have hl : vln (f 149) p < 8 := by have := (VB_ln h.bk.1 (p := p) (by omega)).2; omega
          have er : rfB ro (f 149) p a b = 0 := by unfold rfB; rw [if_pos hw, if_pos hl]
          have hcp : cpB ro a b = true := by
            unfold wdB at hw
            simp only [Bool.and_eq_true] at hw
            exact hw.1.1
          obtain ⟨n, gs, hn, hc, hm, hB⟩ := SH_out h.past
          obtain ⟨f7, a1, a2, a3⟩ := co_put (k := 52) (w := 8) (by omega) (by omega) (by omega) (by omega) hn hc h.cb
          have hc7 : CB f7 20 (f 149) := CB_frame (fun t t1 t2 => a2 t (by omega)) h.cb
          have hr7 : RR ro f7 := RR_of (fun j hj => a2 j (by omega)) h.rr
          obtain ⟨f9, c1, c2, c3⟩ := co_wedding (k := 19) h.bk hT (by omega) (by omega) hr7 hc7 hpq ha hb hcp hl
          have e9 : ∀ j, ¬ (20 ≤ j ∧ j ≤ 28) → ¬ (30 ≤ j ∧ j ≤ 46) → ¬ (52 ≤ j ∧ j ≤ 125) → f9 j = f j := fun j j1 j2 j3 => by rw [c2 j (by omega), a2 j (by omega)]
          obtain ⟨hrA, hM⟩ := M f9 e9
          have hm9 : SHm 150 6 (stA f9 158 (f 149)) n gs := SHm_fr (by rw [sA_n (by decide), e9 146 (by omega) (by omega) (by omega)]) (by rw [sA_n (by decide), e9 150 (by omega) (by omega) (by omega)]) hm
          have e149 : stA f9 158 (f 149) 149 = f 149 := by rw [sA_n (by decide), e9 149 (by omega) (by omega) (by omega)]
          obtain ⟨f13, d1, d2, d3, d4⟩ := mo_rem hn hm9 (fun i hi => by rw [e149]; exact h.bk.2.2 i hi)
          rw [e149] at d4
          have hr13 : RR ro f13 := by
            refine ⟨hrA.ok, by rw [d2 3 (by omega) (by omega)]; exact hrA.c0, by rw [d2 3 (by omega) (by omega)]; exact hrA.c1, by rw [d2 3 (by omega) (by omega)]; exact hrA.c2, ?_, ?_, by rw [d3 0 (by omega)]; exact hrA.m0, by rw [d3 2 (by omega)]; exact hrA.m1, by rw [d3 4 (by omega)]; exact hrA.m2, by rw [d2 147 (by omega) (by omega)]; exact hrA.ma, by rw [d2 148 (by omega) (by omega)]; exact hrA.mp⟩
            · rw [d2 4 (by omega) (by omega), d2 5 (by omega) (by omega), d2 6 (by omega) (by omega)]; exact hrA.ca
            · rw [d2 8 (by omega) (by omega), d2 9 (by omega) (by omega)]; exact hrA.cp
          have e158 : f13 158 = f 149 := by rw [d2 158 (by omega) (by omega), sA_s]
          have e149' : f13 149 = f 149 := by rw [d2 149 (by omega) (by omega), e149]
          have hB13 : BK ro T (f13 158) := by rw [e158]; exact h.bk
          have hwd := mo_weds hr13 hB13 hpq ha hb hcp (by rw [e158]; exact hl)
          rw [e158] at hwd
          have hgB := BK_wed h.rr.ok hT hpq ha hb hcp hl h.bk
          have hbk := mo_back (f := stA f13 158 (gWed ro (f 149) p a b)) (fun i hi => by rw [sA_n (by decide), e149']; exact h.bk.2.2 i hi) (fun i hi => by rw [sA_s]; exact hgB.2.2 i hi)
          rw [sA_s] at hbk
          have ev : gWed ro (f 149) p a b (12 + p) = nI (vln (f 149) p + 1) := by
            unfold gWed
            rw [gWrite_n (by omega) (by omega) (by omega)]
            have hm2 := mnW_lt ha hb
            unfold gBegin
            rw [u_s, vln_pay (by omega) (by omega) (by omega)]
          refine ⟨nI (vln (f 149) p), f9, stA (stA f13 158 (gWed ro (f 149) p a b)) 149 (gWed ro (f 149) p a b), ?_, ?_, ?_⟩
          · show fX7_wed f _ _ _ = _
            rw [C, er, if_pos rfl, a1, b1s, c1, b2s]
          · show fX8_wed f9 _ _ _ = _
            rw [hM, hw, if_pos rfl, if_neg z, d1, b1s, hwd, b1s, hbk, b1s, gdk (by omega) (by omega), sA_s, ev, show nI (vln (f 149) p + 1) - 1 = nI (vln (f 149) p) from nsub (b := 1) (by omega)]
          · refine R_act h (Nat.le_refl T) hn hB e9 (SHc_fr (fun t t1 t2 => c2 t (by omega)) (psN_le hn) a3) c3 hgB (fun j j1 j2 j3 j4 => ?_) (fun i hi => ?_) ?_ (sA_s _ _ _) (fun i hi => ?_)
            · rw [sA_n j2, sA_n (by omega), d2 j j1 j3, sA_n (by omega)]
            · rw [sA_n (by decide), sA_n (by decide), d3 i hi, sA_n (by decide)]
            · exact SHm_fr (by rw [sA_n (by decide), sA_n (by decide)]) (by rw [sA_n (by decide), sA_n (by decide)]) d4
            · rw [sA_n (by decide), sA_s]; exact hgB.2.2 i hi
    · refine ⟨-1, f, f, ?_, ?_, h⟩
      · show fX7_wed f _ y z = _
        unfold fX7_wed
        rw [h.rr.cpar, hp, b1s, if_neg bt0, t1, b1s, if_pos rfl]
      · show fX8_wed f _ y z = _
        unfold fX8_wed
        rw [h.rr.mpar, hp, b1s, if_neg bt0]
        exact wed_bad h t2
