/-! touts by the reference -/
theorem mo_isMated {ro : RO} {T : Nat} {f : hF} (h : VB ro.P T ro.fm (f 158)) (hP : ro.P ≤ 8) (hT : T < 1000000) (hH : HS (vtw (f 158)) (vbg (f 158)) (vmn (f 158)) (vwn (f 158)) (hdB (f 158))) (h9 : ∀ t, t < 24 → f 159 t = bI (hdB (f 158) t)) {a : Nat} (ha : a < 8) : fX8_isMated f (nI a) = some (bI (mtdB (f 158) a)) := by
  have hd := VB_day h hT
  obtain ⟨r0, q1, q2⟩ := mo_mateBy h hP hT hH h9 ha (show (f 158 0).toNatClampNeg < 1000000 by omega)
  have hm := mtT_n4 h hP hT hH q2
  unfold fX8_isMated
  rw [gd0 (by decide), cl0, hd.1, mo_mateB h hP hT hH h9 ha (by omega), b1s]
  change (if mtT (f 158) a < 0 then some 0 else some 1) = _
  rcases hm with ⟨m1, m2⟩ | ⟨⟨b, m1, m2⟩, m3⟩
  · rw [m1, m2]; rfl
  · rw [m2, m3, if_neg (nI_pos (by omega))]; rfl
/-- the reference's heap at work: book G in 158, what holds in 159 -/
def MS (f0 f : hF) (G : Nat → Int32) : Prop := f 158 = G ∧ (∀ t, t < 24 → f 159 t = bI (hdB G t)) ∧ HS (vtw G) (vbg G) (vmn G) (vwn G) (hdB G) ∧ (∀ j, j ≠ 146 → j ≠ 158 → j ≠ 159 → j ≠ 160 → f j = f0 j) ∧ ∀ i, i ≠ 26 → f 146 i = f0 146 i
theorem MS_rr {ro : RO} {f0 f : hF} {G : Nat → Int32} (h : MS f0 f G) (hr : RR ro f0) : RR ro f := by
  have e := h.2.2.2.1
  have e2 := h.2.2.2.2
  refine ⟨hr.ok, by rw [e 3 (by omega) (by omega) (by omega) (by omega)]; exact hr.c0, by rw [e 3 (by omega) (by omega) (by omega) (by omega)]; exact hr.c1, by rw [e 3 (by omega) (by omega) (by omega) (by omega)]; exact hr.c2, ?_, ?_, by rw [e2 0 (by omega)]; exact hr.m0, by rw [e2 2 (by omega)]; exact hr.m1, by rw [e2 4 (by omega)]; exact hr.m2, by rw [e 147 (by omega) (by omega) (by omega) (by omega)]; exact hr.ma, by rw [e 148 (by omega) (by omega) (by omega) (by omega)]; exact hr.mp⟩
  · rw [e 4 (by omega) (by omega) (by omega) (by omega), e 5 (by omega) (by omega) (by omega) (by omega), e 6 (by omega) (by omega) (by omega) (by omega)]; exact hr.ca
  · rw [e 8 (by omega) (by omega) (by omega) (by omega), e 9 (by omega) (by omega) (by omega) (by omega)]; exact hr.cp
theorem mo_mated {ro : RO} {T : Nat} {f0 f : hF} {G : Nat → Int32} (hr : RR ro f0) (hB : BK ro T G) (hT : T < 1000000) (h : MS f0 f G) : fX8_mated f = some (nI (cnt (fun i => ro.fm i && mtdB G i) ro.P)) := by
  have hP := hr.ok.2.1
  have hrf := MS_rr h hr
  have key : ∀ (r i n : Nat), i + r = ro.P → r < n → fX8_mated_4 f n (nI (cnt (fun i => ro.fm i && mtdB G i) i)) (nI i) = some (nI (cnt (fun i => ro.fm i && mtdB G i) ro.P)) := by
    intro r
    induction r with
    | zero =>
      intro i n hr3 hn
      obtain ⟨n, rfl⟩ : ∃ k, n = k + 1 := ⟨n - 1, by omega⟩
      obtain rfl : i = ro.P := by omega
      rw [fX8_mated_4, hrf.m0, if_pos (Int32.le_refl _)]
    | succ r ih =>
      intro i n hr3 hn
      obtain ⟨n, rfl⟩ : ∃ k, n = k + 1 := ⟨n - 1, by omega⟩
      have hi : i < ro.P := by omega
      have e := ih (i + 1) n (by omega) (by omega)
      rw [cnt_s] at e
      have hm := mo_isMated (f := f) (a := i) (by rw [h.1]; exact hB.1) hP hT (by rw [h.1]; exact h.2.2.1) (by rw [h.1]; exact h.2.1) (by omega)
      rw [h.1] at hm
      rw [fX8_mated_4, hrf.m0, if_neg (fun z => by have := (nI_leI (by omega) (by omega)).mp z; omega), mo_wom hrf hi, b1s, hm, b1s, bi_if, bi_if]
      unfold fX8_mated_33 fX8_mated_34
      rw [show nI i + 1 = nI (i + 1) from nadd i 1, show nI (cnt (fun i => ro.fm i && mtdB G i) i) + 0 = nI (cnt (fun i => ro.fm i && mtdB G i) i + 0) from nadd _ 0, show nI (cnt (fun i => ro.fm i && mtdB G i) i) + 1 = nI (cnt (fun i => ro.fm i && mtdB G i) i + 1) from nadd _ 1]
      cases a : ro.fm i with
      | false =>
        rw [a, Bool.false_and] at e
        exact e
      | true =>
        rw [a, Bool.true_and] at e
        cases b : mtdB G i with
        | false => rw [b] at e; exact e
        | true => rw [b] at e; exact e
  exact key ro.P 0 FU (by omega) (by unfold FU; omega)
/-- as far as person p the touts have gone on both sides -/
def TR (ro : RO) (T : Nat) (g : Nat → Int32) (p : Nat) (s : Nat × Nat) (G : Nat → Int32) : Prop :=
  BK ro T G ∧ G 0 = g 0 ∧ vln G 0 = vln g 0 + s.2 ∧ (∀ i, i < ro.P → s.1.testBit i = (!ro.fm i && !mtdB G i)) ∧ (∀ i, i < ro.P → mtdB G i = false → G (1 + i) = g (1 + i)) ∧ (∀ w, w < ro.P → ro.fm w = true → p ≤ w → mtdB G w = mtdB g w) ∧
  cnt (fun i => ro.fm i && mtdB G i) ro.P = cnt (fun i => ro.fm i && mtdB g i) ro.P + s.2
theorem low_same {ro : RO} {T : Nat} {g G : Nat → Int32} {p : Nat} {s : Nat × Nat} (hk : ROk ro) (h : TR ro T g p s G) (hp : p < ro.P) (fp : ro.fm p = true) (up : mtdB g p = false) :
    (if 8 ≤ vln g 0 + s.2 then none else low1 ro g s.1 p) = lowF (fun m => !ro.fm m && !mtdB G m && wdB ro G 0 m p && decide (vln G 0 < 8)) ro.P := by
  obtain ⟨t1, t2, t3, t4, t5, t6, t7⟩ := h
  have upG : mtdB G p = false := by rw [t6 p hp fp (Nat.le_refl _)]; exact up
  have none_of : ∀ (c : Nat → Bool) n, (∀ i, i < n → c i = false) → lowF c n = none := by
    intro c n
    induction n with
    | zero => intro _; rfl
    | succ n ih =>
      intro hc
      rw [lowF_none (ih (fun i hi => hc i (by omega))), if_neg (by rw [hc n (by omega)]; decide)]
  by_cases a : 8 ≤ vln g 0 + s.2
  · rw [if_pos a, none_of _ _ (fun i _ => by rw [decide_eq_false (show ¬ vln G 0 < 8 by omega), Bool.and_false])]
  · rw [if_neg a]
    unfold low1
    refine lowF_congr (fun m hm => ?_)
    rw [decide_eq_true (show vln G 0 < 8 by omega), Bool.and_true, t4 m hm]
    cases u : mtdB G m with
    | true => simp
    | false =>
      have e : wdB ro G 0 m p = wdB ro g 0 m p := by
        unfold wdB lwB pyB
        rw [t2, t5 m hm u, t5 p hp upG]
      rw [e]
      by_cases q : wdB ro g 0 m p = true
      · rw [q, decide_eq_true (rf_0.mpr ⟨q, by omega⟩)]
      · rw [decide_eq_false (fun z => q (rf_0.mp z).1)]
        cases w : wdB ro g 0 m p with
        | true => exact absurd w q
        | false => rfl
theorem TR_wed {ro : RO} {T : Nat} {g G : Nat → Int32} {p m : Nat} {s : Nat × Nat} (hk : ROk ro) (hT : T < 1000000) (h : TR ro T g p s G) (hH : HS (vtw G) (vbg G) (vmn G) (vwn G) (hdB G)) (hp : p < ro.P) (fp : ro.fm p = true) (up : mtdB g p = false) (hm : m < ro.P) (fm : ro.fm m = false) (um : mtdB G m = false) (hw : wdB ro G 0 m p = true) (hl : vln G 0 < 8) :
    TR ro T g (p + 1) (s.1 &&& (255 - 2 ^ m), s.2 + 1) (gWed ro G 0 m p) := by
  obtain ⟨t1, t2, t3, t4, t5, t6, t7⟩ := h
  have hP := hk.2.1
  have upG : mtdB G p = false := by rw [t6 p hp fp (Nat.le_refl _)]; exact up
  obtain ⟨v1, v2, v3, -, -, -⟩ := wed_vals (w := p) (g := G) (m := m) (show m < 8 by omega) (show p < 8 by omega) fm hl
  have hmt := wed_mated t1.1 hT hH (show m < 8 by omega) (show p < 8 by omega) fm hl um upG
  have hne : m ≠ p := fun z => by rw [z, fp] at fm; cases fm
  refine ⟨BK_wed hk hT (show 0 < ro.Q by have := hk.2.2.1; omega) hm hp (wd_cp hw) hl t1, v1.trans t2, by rw [v2, t3]; rfl, fun i hi => ?_, fun i hi hu => ?_, fun w hw fw hpw => ?_, ?_⟩
  · show (s.1 &&& (255 - 2 ^ m)).testBit i = _
    rw [clr_bit (by omega) (by omega), t4 i hi, hmt i]
    by_cases y : i = m
    · rw [y, decide_eq_true rfl]; simp
    · rw [decide_eq_false y]
      by_cases z : i = p
      · rw [z, fp]; simp
      · rw [decide_eq_false z]; simp
  · rw [hmt i] at hu
    have n1 : i ≠ m := fun z => by rw [z, decide_eq_true rfl] at hu; simp at hu
    have n2 : i ≠ p := fun z => by rw [z, decide_eq_true (show p = p from rfl)] at hu; simp at hu
    have n3 : mtdB G i = false := by
      cases q : mtdB G i with
      | false => rfl
      | true => rw [q] at hu; simp at hu
    rw [v3 i (by omega) n1 n2]; exact t5 i hi n3
  · rw [hmt w, decide_eq_false (show ¬ w = m from fun z => by rw [z, fm] at fw; cases fw), decide_eq_false (show ¬ w = p by omega), Bool.or_false, Bool.or_false]
    exact t6 w hw fw (by omega)
  · have := cnt_put (h := fun i => ro.fm i && mtdB G i) (h' := fun i => ro.fm i && mtdB (gWed ro G 0 m p) i) (p := p) (n := ro.P) hp (fun i hi => by
      show (ro.fm i && mtdB (gWed ro G 0 m p) i) = ((ro.fm i && mtdB G i) || decide (i = p))
      rw [hmt i]
      by_cases z : i = p
      · rw [z, fp, decide_eq_true (show p = p from rfl)]; simp
      · rw [decide_eq_false z]
        by_cases y : i = m
        · rw [y, fm]; simp
        · rw [decide_eq_false y]; simp) (by show (ro.fm p && mtdB G p) = false; rw [upG, Bool.and_false])
    rw [this, t7]
    show _ = _ + (s.2 + 1)
    omega
theorem mo_brought {ro : RO} {T : Nat} {f0 f : hF} {G : Nat → Int32} {p : Nat} (hr : RR ro f0) (hB : BK ro T G) (hT : T < 1000000) (h : MS f0 f G) (hp : p < ro.P) :
    match lowF (fun m => !ro.fm m && !mtdB G m && wdB ro G 0 m p && decide (vln G 0 < 8)) ro.P with
    | none => fX8_isBrought f (nI p) = some f
    | some m => ∃ f2, fX8_isBrought f (nI p) = some f2 ∧ MS f0 f2 (gWed ro G 0 m p) ∧ f2 146 26 = f 146 26 := by
  have hP := hr.ok.2.1
  have hQ1 := hr.ok.2.2.1
  have hrf := MS_rr h hr
  have hl := VB_ln hB.1 (p := 0) (by omega)
  have key : ∀ (r i n : Nat), i + r = ro.P → r < n → lowF (fun m => !ro.fm m && !mtdB G m && wdB ro G 0 m p && decide (vln G 0 < 8)) i = none →
      match lowF (fun m => !ro.fm m && !mtdB G m && wdB ro G 0 m p && decide (vln G 0 < 8)) ro.P with
      | none => fX8_isBrought_2 (nI p) n f (nI i) = some f
      | some m => ∃ f2, fX8_isBrought_2 (nI p) n f (nI i) = some f2 ∧ MS f0 f2 (gWed ro G 0 m p) ∧ f2 146 26 = f 146 26 := by
    intro r
    induction r with
    | zero =>
      intro i n hr3 hn e
      obtain ⟨n, rfl⟩ : ∃ k, n = k + 1 := ⟨n - 1, by omega⟩
      obtain rfl : i = ro.P := by omega
      rw [e]
      show fX8_isBrought_2 (nI p) (n + 1) f (nI ro.P) = some f
      rw [fX8_isBrought_2, hrf.m0, if_pos (Int32.le_refl _)]
    | succ r ih =>
      intro i n hr3 hn e
      obtain ⟨n, rfl⟩ : ∃ k, n = k + 1 := ⟨n - 1, by omega⟩
      have hi : i < ro.P := by omega
      have ln := lowF_none e
      have hm := mo_isMated (f := f) (a := i) (by rw [h.1]; exact hB.1) hP hT (by rw [h.1]; exact h.2.2.1) (by rw [h.1]; exact h.2.1) (by omega)
      rw [h.1] at hm
      have e52 : fX8_isBrought_52 (nI p) (fX8_isBrought_2 (nI p) n) f (nI i) = fX8_isBrought_2 (nI p) n f (nI (i + 1)) := by
        unfold fX8_isBrought_52 fX8_isBrought_53
        rw [if_pos rfl, show nI i + 1 = nI (i + 1) from nadd i 1]
      have hcw := mo_canWed hrf (show 0 < ro.Q by omega) hi hp
      rw [h.1] at hcw
      have eq2 : fX8_isBrought_2 (nI p) (n + 1) f (nI i) = if ro.fm i = true then fX8_isBrought_2 (nI p) n f (nI (i + 1)) else if mtdB G i = true then fX8_isBrought_2 (nI p) n f (nI (i + 1)) else if wdB ro G 0 i p = true then (if 8 ≤ nI (vln G 0) then fX8_isBrought_2 (nI p) n f (nI (i + 1)) else fX8_isBrought_53 (nI p) (fX8_isBrought_2 (nI p) n) f (nI i) 1) else fX8_isBrought_2 (nI p) n f (nI (i + 1)) := by
        rw [fX8_isBrought_2, hrf.m0, if_neg (fun z => by have := (nI_leI (by omega) (by omega)).mp z; omega), e52, mo_wom hrf hi, b1s, hm, b1s, show fX8_canWed f (0 : Int32) (nI i) (nI p) = _ from hcw, b1s, bi_if, bi_if, bi_if, show gd (12 : Int32) 111 = gd (nI 12) 111 from rfl, show (12 : Int32).toNatClampNeg = 12 from rfl, h.1, show G 12 = nI (vln G 0) from hl.1]
        rw [show ∀ k : Option hF, gd (nI 12) 111 k = k from fun k => gdk (by omega) (by omega)]
      rw [eq2]
      have next := ih (i + 1) n (by omega) (by omega)
      have skip : (!ro.fm i && !mtdB G i && wdB ro G 0 i p && decide (vln G 0 < 8)) = false → _ := fun q => next (by rw [ln]; exact if_neg (by show ¬ (!ro.fm i && !mtdB G i && wdB ro G 0 i p && decide (vln G 0 < 8)) = true; rw [q]; decide))
      cases a : ro.fm i with
      | true => rw [if_pos rfl]; exact skip (by rw [a]; rfl)
      | false =>
        rw [if_neg (show ¬ false = true by decide)]
        cases b : mtdB G i with
        | true => rw [if_pos rfl]; exact skip (by rw [a, b]; rfl)
        | false =>
          rw [if_neg (show ¬ false = true by decide)]
          cases c : wdB ro G 0 i p with
          | false => rw [if_neg (show ¬ false = true by decide)]; exact skip (by rw [a, b, c]; rfl)
          | true =>
            rw [if_pos rfl]
            by_cases d : vln G 0 < 8
            · have found : lowF (fun m => !ro.fm m && !mtdB G m && wdB ro G 0 m p && decide (vln G 0 < 8)) ro.P = some i := lowF_some (i := i + 1) (by omega) (by rw [ln]; exact if_pos (by show (!ro.fm i && !mtdB G i && wdB ro G 0 i p && decide (vln G 0 < 8)) = true; rw [a, b, c, decide_eq_true d]; rfl))
              rw [if_neg (ge8 d), found]
              have hwd := mo_weds hrf (by rw [h.1]; exact hB) (show 0 < ro.Q by omega) hi hp (wd_cp c) (by rw [h.1]; exact d)
              rw [h.1] at hwd
              have hgB := BK_wed hr.ok hT (show 0 < ro.Q by omega) hi hp (wd_cp c) d hB
              obtain ⟨f3, k1, k2, k3, k4⟩ := mo_find (f := stA f 158 (gWed ro G 0 i p)) (by rw [sA_s]; exact hgB.1) hP hT
              rw [sA_s] at k3 k4
              refine ⟨f3, ?_, ⟨by rw [k2 158 (by decide) (by decide), sA_s], k3, k4, fun j j1 j2 j3 j4 => by rw [k2 j j3 j4, sA_n j2]; exact h.2.2.2.1 j j1 j2 j3 j4, fun t ht => by rw [k2 146 (by decide) (by decide), sA_n (by decide)]; exact h.2.2.2.2 t ht⟩, by rw [k2 146 (by decide) (by decide), sA_n (by decide)]⟩
              unfold fX8_isBrought_53
              rw [if_neg (by decide), show fX8_weds f (0 : Int32) (nI i) (nI p) = _ from hwd, b1s, k1, b1s]
            · rw [if_pos (show (8 : Int32) ≤ nI (vln G 0) from (nI_leI (a := 8) (by omega) (by omega)).mpr (by omega))]
              exact skip (by rw [decide_eq_false d, Bool.and_false])
  unfold fX8_isBrought
  exact key ro.P 0 FU (by omega) (by unfold FU; omega) rfl
theorem has_bit {n p : Nat} (hn : n < 256) (hp : p < 8) : fX8_has (nI n) (nI p) = some (bI (n.testBit p)) := by
  have hb := (sh_bit n hn p hp).2
  unfold fX8_has
  cases q : n.testBit p with
  | true => rw [if_pos (hb.mpr q)]; rfl
  | false => rw [if_neg (fun z => by rw [hb.mp z] at q; cases q)]; rfl
theorem mo_by {ro : RO} {T : Nat} {f0 : hF} {g : Nat → Int32} {r a0 y x : Nat} (hr : RR ro f0) (hT : T < 1000000) (hr6 : r < 256) (ha6 : a0 < 256) (hy : y < 256) (hx : x ≤ 10) (hsub : sub8 y r = true) (hrb : ∀ i, i < ro.P → r.testBit i = true → ro.fm i = true ∧ mtdB g i = false) :
    ∀ (s p n : Nat) (f : hF) (G : Nat → Int32), p + s = ro.P → s < n → MS f0 f G → TR ro T g p (pst ro g a0 y p) G → f 146 26 = nI (prd r x y p) →
      ∃ f2 G2, fX8_matedBy_16 (nI r) (nI y) (nI x) n f (nI p) = some (nI (cnt (fun i => ro.fm i && mtdB G2 i) ro.P), f2) ∧ MS f0 f2 G2 ∧ TR ro T g ro.P (pst ro g a0 y ro.P) G2 ∧ f2 146 26 = nI (prd r x y ro.P) := by
  have hP := hr.ok.2.1
  intro s
  induction s with
  | zero =>
    intro p n f G hps hn hM hR hw
    obtain ⟨n, rfl⟩ : ∃ k, n = k + 1 := ⟨n - 1, by omega⟩
    obtain rfl : p = ro.P := by omega
    refine ⟨f, G, ?_, hM, hR, hw⟩
    rw [fX8_matedBy_16, (MS_rr hM hr).m0, if_pos (Int32.le_refl _), mo_mated hr hR.1 hT hM, b1s]
  | succ s ih =>
    intro p n f G hps hn hM hR hw
    obtain ⟨n, rfl⟩ : ∃ k, n = k + 1 := ⟨n - 1, by omega⟩
    have hp : p < ro.P := by omega
    have hrf := MS_rr hM hr
    have hsb : y.testBit p = true → r.testBit p = true := fun q => by
      have := (allB_t.mp hsub) p (by omega)
      rw [q] at this
      exact this
    have pw := prd_s r x y p
    have ps := pst_s ro g a0 y p
    have adv : TR ro T g p (pst ro g a0 y p) G → TR ro T g (p + 1) (pst ro g a0 y p) G := fun ⟨t1, t2, t3, t4, t5, t6, t7⟩ => ⟨t1, t2, t3, t4, t5, fun w hw fw hpw => t6 w hw fw (by omega), t7⟩
    have e56 : ∀ v : Nat, fX8_matedBy_56 (nI r) (nI y) (nI x) (fX8_matedBy_16 (nI r) (nI y) (nI x) n) f (nI p) (f 146 26) (nI v) = if y.testBit p = true then b1 (fX8_isBrought (st2 f 146 26 (nI (prd r x y p * v))) (nI p)) fun f4 => fX8_matedBy_16 (nI r) (nI y) (nI x) n f4 (nI (p + 1)) else fX8_matedBy_16 (nI r) (nI y) (nI x) n (st2 f 146 26 (nI (prd r x y p * v))) (nI (p + 1)) := fun v => by
      unfold fX8_matedBy_56
      rw [hw, nmul, lte, has_bit hy (by omega), b1s, bi_if, show nI p + 1 = nI (p + 1) from nadd p 1]
    have hM1 : ∀ v : Nat, MS f0 (st2 f 146 26 (nI (prd r x y p * v))) G := fun v => ⟨by rw [s2_n (by decide)]; exact hM.1, by rw [s2_n (by decide)]; exact hM.2.1, hM.2.2.1, fun j j1 j2 j3 j4 => by rw [s2_n j1]; exact hM.2.2.2.1 j j1 j2 j3 j4, fun i hi => by rw [s2_s, u_n hi]; exact hM.2.2.2.2 i hi⟩
    rw [fX8_matedBy_16, hrf.m0, if_neg (fun z => by have := (nI_leI (by omega) (by omega)).mp z; omega), has_bit hr6 (by omega), b1s, has_bit hy (by omega), b1s, bi_if, bi_if, show nI p + 1 = nI (p + 1) from nadd p 1, L10, nsub hx, e56, e56]
    cases a : r.testBit p with
    | false =>
      have b : y.testBit p = false := by
        cases q : y.testBit p with
        | false => rfl
        | true => rw [hsb q] at a; cases a
      rw [if_neg (show ¬ false = true by decide)]
      rw [b, if_neg (by decide)] at ps
      rw [a, if_neg (by decide)] at pw
      exact ih (p + 1) n f G (by omega) (by omega) hM (by rw [ps]; exact adv hR) (by rw [pw]; exact hw)
    | true =>
      obtain ⟨fp, up⟩ := hrb p hp a
      rw [if_pos rfl]
      rw [a, if_pos rfl] at pw
      cases b : y.testBit p with
      | false =>
        rw [b, if_neg (by decide)] at ps pw
        rw [if_neg (show ¬ false = true by decide), if_neg (show ¬ false = true by decide)]
        exact ih (p + 1) n _ G (by omega) (by omega) (hM1 _) (by rw [ps]; exact adv hR) (by rw [s2_s, u_s, pw])
      | true =>
        rw [b, if_pos rfl] at ps pw
        rw [if_pos rfl, if_pos rfl]
        have hlow := low_same hr.ok hR hp fp up
        have hbr := mo_brought (f := st2 f 146 26 (nI (prd r x y p * x))) hr hR.1 hT (hM1 x) hp
        cases q : lowF (fun m => !ro.fm m && !mtdB G m && wdB ro G 0 m p && decide (vln G 0 < 8)) ro.P with
        | none =>
          rw [q] at hbr hlow
          have hbr' : fX8_isBrought (st2 f 146 26 (nI (prd r x y p * x))) (nI p) = some (st2 f 146 26 (nI (prd r x y p * x))) := hbr
          rw [hbr', b1s]
          refine ih (p + 1) n _ G (by omega) (by omega) (hM1 _) ?_ (by rw [s2_s, u_s, pw])
          have : pst ro g a0 y (p + 1) = pst ro g a0 y p := by
            rw [ps]
            by_cases w : 8 ≤ vln g 0 + (pst ro g a0 y p).2
            · rw [if_pos w]
            · rw [if_neg w] at hlow ⊢
              rw [hlow]
          rw [this]
          exact adv hR
        | some m =>
          rw [q] at hbr hlow
          obtain ⟨f2, k1, k2, k3⟩ := hbr
          have hc := (lowF_in q)
          have hcc : (!ro.fm m && !mtdB G m && wdB ro G 0 m p && decide (vln G 0 < 8)) = true := hc.2
          simp only [Bool.and_eq_true, Bool.not_eq_true', decide_eq_true_eq] at hcc
          rw [k1, b1s]
          refine ih (p + 1) n f2 (gWed ro G 0 m p) (by omega) (by omega) k2 ?_ (by rw [k3, s2_s, u_s, pw])
          have : pst ro g a0 y (p + 1) = ((pst ro g a0 y p).1 &&& (255 - 2 ^ m), (pst ro g a0 y p).2 + 1) := by
            rw [ps]
            by_cases w : 8 ≤ vln g 0 + (pst ro g a0 y p).2
            · rw [if_pos w] at hlow; cases hlow
            · rw [if_neg w] at hlow ⊢
              rw [hlow]
          rw [this]
          exact TR_wed hr.ok hT hR hM.2.2.1 hp fp up hc.1 hcc.1.1.1 hcc.1.1.2 hcc.1.2 hcc.2
