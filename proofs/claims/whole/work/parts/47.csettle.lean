/-! which lines hold, by the component -/
theorem HSon_skip {tw : Nat → Bool} {bg mn wn : Nat → Nat} {L h : Nat → Bool} {k : Nat} (hh : HSon tw bg mn wn L h) (hk : k < 24) (htw : tw k = false)
    (hmin : ∀ t, t < 24 → tw t = true → prec bg t k → L t = true) : HSon tw bg mn wn (up1 L k true) h := by
  have hkh : h k = false := by
    cases hc : h k with
    | false => rfl
    | true => rw [(hh.2.1 k hk hc).2] at htw; cases htw
  refine ⟨fun s t hs ht hLs htt hp => ?_, fun s hs h1 => ?_, fun s hs hLs => ?_⟩
  · have e : t ≠ k := fun e => by rw [e, htw] at htt; cases htt
    rw [up1_n e]
    by_cases e2 : s = k
    · subst e2; exact hmin t ht htt hp
    · rw [up1_n e2] at hLs
      exact hh.1 s t hs ht hLs htt hp
  · have e : s ≠ k := fun e => by rw [e, hkh] at h1; cases h1
    rw [up1_n e]
    exact hh.2.1 s hs h1
  · by_cases e : s = k
    · subst e
      rw [hkh, htw]
      exact ⟨fun z => (by cases z), fun z => (by cases z.1)⟩
    · rw [up1_n e] at hLs
      exact hh.2.2 s hs hLs
theorem HSon_L {tw : Nat → Bool} {bg mn wn : Nat → Nat} {L L' h : Nat → Bool} (e : ∀ s, s < 24 → L s = L' s) (hh : HSon tw bg mn wn L h) : HSon tw bg mn wn L' h :=
  ⟨fun s t hs ht hLs htt hp => (e t ht) ▸ hh.1 s t hs ht ((e s hs).trans hLs) htt hp, fun s hs h1 => ⟨(e s hs) ▸ (hh.2.1 s hs h1).1, (hh.2.1 s hs h1).2⟩, fun s hs hLs => hh.2.2 s hs ((e s hs).trans hLs)⟩
theorem CB_frame {f f' : hF} {bk : Nat} {g : Nat → Int32} (e : ∀ j, bk ≤ j → j ≤ bk + 8 → f' j = f j) (hc : CB f bk g) : CB f' bk g := by
  unfold CB at *
  rw [e bk (by omega) (by omega), e (bk+1) (by omega) (by omega), e (bk+2) (by omega) (by omega), e (bk+3) (by omega) (by omega), e (bk+4) (by omega) (by omega), e (bk+5) (by omega) (by omega), e (bk+6) (by omega) (by omega), e (bk+7) (by omega) (by omega), e (bk+8) (by omega) (by omega)]
  exact hc
/-- of two, and not the one left out -/
def two' (g : Nat → Int32) (x : Int32) (s : Nat) : Bool := vtw g s && !(decide (nI s = x))
/-- held by person: HM -/
def HM (g : Nat → Int32) (hd : Nat → Bool) (u : Nat → Int32) : Prop :=
  ∀ a, a < 8 → (u a = -1 ∧ ∀ t, t < 24 → hd t = true → vmn g t ≠ a ∧ vwn g t ≠ a) ∨ ∃ t, t < 24 ∧ hd t = true ∧ (vmn g t = a ∨ vwn g t = a) ∧ u a = nI t
theorem row_ok {a : Nat} (h : a < 8) : fX1_isRow (nI a) = some 1 := by
  unfold fX1_isRow
  rw [if_neg (nI_pos (by omega)), if_neg (show ¬ (8 : Int32) ≤ nI a by rw [L8, nleq (by omega) (by omega)]; omega)]
theorem m1_n {a : Nat} (h : a < 100000) : nI a ≠ -1 := by
  intro z
  rw [neg1q (by omega)] at z
  exact z
theorem hold_free {P T : Nat} {fm : Nat → Bool} {g : Nat → Int32} (h : VB P T fm g) (hP : P ≤ 8) (hT : T < 1000000) {x : Int32} {L hd : Nat → Bool} {u : Nat → Int32} (hS : HSon (two' g x) (vbg g) (vmn g) (vwn g) L hd) (hM : HM g hd u) {k : Nat} (hk : k < 24) (htw : vtw g k = true) :
    (u (vmn g k) = -1 ∧ u (vwn g k) = -1) ↔ ∀ t, t < 24 → hd t = true → ¬ shr (vmn g) (vwn g) t k := by
  obtain ⟨-, a2, a2', -, a4, a4', -⟩ := VB_two h hP hT hk htw
  have htwo : ∀ t, t < 24 → hd t = true → vtw g t = true := fun t ht q => by
    have := (hS.2.1 t ht q).2
    unfold two' at this
    rw [Bool.and_eq_true] at this
    exact this.1
  constructor
  · rintro ⟨h1, h2⟩ t ht hht hs
    rcases hs with hs | hs
    · rcases hM (vmn g k) (by omega) with ⟨-, b⟩ | ⟨s, hs1, hs2, hs3, hs4⟩
      · exact (b t ht hht).1 hs
      · rw [h1] at hs4; exact m1_n (by omega) hs4.symm
    · rcases hM (vwn g k) (by omega) with ⟨-, b⟩ | ⟨s, hs1, hs2, hs3, hs4⟩
      · exact (b t ht hht).2 hs
      · rw [h2] at hs4; exact m1_n (by omega) hs4.symm
  · intro h1
    constructor
    · rcases hM (vmn g k) (by omega) with ⟨b, -⟩ | ⟨s, hs1, hs2, hs3, hs4⟩
      · exact b
      · have hw := VB_two h hP hT hs1 (htwo s hs1 hs2)
        rcases hs3 with hs3 | hs3
        · exact absurd (Or.inl hs3) (h1 s hs1 hs2)
        · have q := hw.2.2.2.2.2.1
          rw [hs3, a2'] at q; cases q
    · rcases hM (vwn g k) (by omega) with ⟨b, -⟩ | ⟨s, hs1, hs2, hs3, hs4⟩
      · exact b
      · have hw := VB_two h hP hT hs1 (htwo s hs1 hs2)
        rcases hs3 with hs3 | hs3
        · have q := hw.2.2.1
          rw [hs3, a4'] at q; cases q
        · exact absurd (Or.inr hs3) (h1 s hs1 hs2)
theorem HM_add {P T : Nat} {fm : Nat → Bool} {g : Nat → Int32} (h : VB P T fm g) (hP : P ≤ 8) (hT : T < 1000000) {hd : Nat → Bool} {u : Nat → Int32} (hM : HM g hd u) {k : Nat} (hk : k < 24) (htw : vtw g k = true) (hn : hd k = false) :
    (u (vmn g k) = -1 ∧ u (vwn g k) = -1 → HM g (up1 hd k true) (upd (upd u (vmn g k) (nI k)) (vwn g k) (nI k))) ∧ HM g (up1 hd k false) u := by
  constructor
  · rintro ⟨u1, u2⟩ a ha
    by_cases e1 : a = vwn g k
    · refine Or.inr ⟨k, hk, up1_s _ _ _, Or.inr e1.symm, ?_⟩
      rw [e1, u_s]
    · rw [u_n e1]
      by_cases e2 : a = vmn g k
      · refine Or.inr ⟨k, hk, up1_s _ _ _, Or.inl e2.symm, ?_⟩
        rw [e2, u_s]
      · rw [u_n e2]
        rcases hM a ha with ⟨b, c⟩ | ⟨s, hs1, hs2, hs3, hs4⟩
        · refine Or.inl ⟨b, fun t ht hht => ?_⟩
          by_cases e : t = k
          · rw [e]; exact ⟨fun z => e2 z.symm, fun z => e1 z.symm⟩
          · rw [up1_n e] at hht; exact c t ht hht
        · have e : s ≠ k := fun e => by rw [e, hn] at hs2; cases hs2
          exact Or.inr ⟨s, hs1, by rw [up1_n e]; exact hs2, hs3, hs4⟩
  · intro a ha
    rcases hM a ha with ⟨b, c⟩ | ⟨s, hs1, hs2, hs3, hs4⟩
    · refine Or.inl ⟨b, fun t ht hht => ?_⟩
      by_cases e : t = k
      · rw [e, up1_s] at hht; cases hht
      · rw [up1_n e] at hht; exact c t ht hht
    · have e : s ≠ k := fun e => by rw [e, hn] at hs2; cases hs2
      exact Or.inr ⟨s, hs1, by rw [up1_n e]; exact hs2, hs3, hs4⟩
/-- holdIfFree of the row m, w -/
theorem co_hold {f : hF} {k bk : Nat} {x : Int32} {m w : Nat} (hm : m < 8) (hw : w < 8) : fX1_holdIfFree k bk f x (nI m) (nI w) = some (if f (k+1) m = -1 ∧ f (k+1) w = -1 then stA f (k+1) (upd (upd (f (k+1)) m x) w x) else f) := by
  unfold fX1_holdIfFree
  rw [row_ok hm, b1s, if_neg (show ¬ (1 : Int32) = 0 by decide), row_ok hw, b1s, if_neg (show ¬ (1 : Int32) = 0 by decide), gdk hm (by omega), gdk hw (by omega), gdk hm (by omega), lte, gdk hw (by omega), lte, ncl (by omega), ncl (by omega)]
  by_cases e1 : f (k+1) m = -1
  · rw [if_pos e1]
    by_cases e2 : f (k+1) w = -1
    · rw [if_pos e2, if_pos ⟨e1, e2⟩, s2_A, s2_A, sA_s, sA_sA]
    · rw [if_neg e2, if_neg (fun z => e2 z.2)]
  · rw [if_neg e1, if_neg (fun z => e1 z.1)]
/-- in the middle of the component's going through -/
def SI (g : Nat → Int32) (x : Int32) (f : hF) (k : Nat) (nx : Nat → Nat) (hd : Nat → Bool) : Prop :=
  (∀ p, p < 3 → f (k+2) p = nI (nx p) ∧ nx p ≤ vln g p) ∧ HSon (two' g x) (vbg g) (vmn g) (vwn g) (fun s => decide (s % 8 < nx (s / 8))) hd ∧ HM g hd (f (k+1))
theorem SI_step {P T : Nat} {fm : Nat → Bool} {g : Nat → Int32} (h : VB P T fm g) (hP : P ≤ 8) (hT : T < 1000000) {x : Int32} {f : hF} {k bk : Nat} (hc : CB f bk g) {nx : Nat → Nat} {hd : Nat → Bool} (hI : SI g x f k nx hd) (hbk : bk + 8 < k)
    {p : Nat} (hp : p < 3) (h1 : nx p < vln g p) (h2 : ∀ q, q < 3 → nx q < vln g q → q ≠ p → prec (vbg g) (8 * p + nx p) (8 * q + nx q)) {n : Nat} {i : Int32} {Q : Option hF → Prop}
    (hQ : ∀ f2 nx2 hd2, (∀ j, j ≠ k+1 → j ≠ k+2 → f2 j = f j) → SI g x f2 k nx2 hd2 → nx2 0 + nx2 1 + nx2 2 = nx 0 + nx 1 + nx 2 + 1 → Q (fX1_settle_43 k bk x n f2 (i + 1))) :
    Q (if nI (8 * p + nx p) = x then fX1_settle_43 k bk x n (st2 f (k+2) p (nI (nx p + 1))) (i + 1) else
      b1 (fX0_isOfTwo bk (st2 f (k+2) p (nI (nx p + 1))) (nI (8 * p + nx p))) fun r5 =>
      (if r5 = 0 then
        fX1_settle_43 k bk x n (st2 f (k+2) p (nI (nx p + 1))) (i + 1)
      else
        gd (nI (8 * p + nx p)) 24 <|
        gd (nI (8 * p + nx p)) 24 <|
        b1 (fX1_holdIfFree k bk (st2 f (k+2) p (nI (nx p + 1))) (nI (8 * p + nx p)) ((st2 f (k+2) p (nI (nx p + 1))) (bk+6) (nI (8 * p + nx p)).toNatClampNeg) ((st2 f (k+2) p (nI (nx p + 1))) (bk+7) (nI (8 * p + nx p)).toNatClampNeg)) fun f9 =>
        fX1_settle_43 k bk x n f9 (i + 1))) := by
  obtain ⟨v1, v2⟩ := vth_nx h hp h1
  have hcF : CB (st2 f (k+2) p (nI (nx p + 1))) bk g := CB_frame (fun j _ _ => s2_n (by omega)) hc
  have hL : ∀ s, s < 24 → up1 (fun s => decide (s % 8 < nx (s / 8))) (8 * p + nx p) true s = decide (s % 8 < (fun q => if q = p then nx p + 1 else nx q) (s / 8)) := by
    intro s hs
    have h8 := (VB_ln h hp).2
    by_cases e : s = 8 * p + nx p
    · rw [e, up1_s]
      symm
      apply decide_eq_true
      show (8 * p + nx p) % 8 < if (8 * p + nx p) / 8 = p then nx p + 1 else nx ((8 * p + nx p) / 8)
      rw [if_pos (by omega)]; omega
    · rw [up1_n e]
      show decide (s % 8 < nx (s / 8)) = decide (s % 8 < if s / 8 = p then nx p + 1 else nx (s / 8))
      by_cases e2 : s / 8 = p
      · rw [if_pos e2, e2]
        exact decide_eq_decide.mpr (by omega)
      · rw [if_neg e2]
  have hmin : ∀ t, t < 24 → two' g x t = true → prec (vbg g) t (8 * p + nx p) → (fun s => decide (s % 8 < nx (s / 8))) t = true := by
    intro t ht htw hpr
    have htt : vth g t = true := by
      unfold two' at htw
      rw [Bool.and_eq_true] at htw
      exact (vtw_th htw.1).1
    have htl : t % 8 < vln g (t / 8) := of_decide_eq_true htt
    refine decide_eq_true (Classical.byContradiction fun z => ?_)
    have hle : nx (t / 8) < vln g (t / 8) := by omega
    obtain ⟨w1, w2⟩ := vth_nx h (show t / 8 < 3 by omega) hle
    have h8 := (VB_ln h (show t / 8 < 3 by omega)).2
    have hmono := h.2.2.2 (8 * (t / 8) + nx (t / 8)) t w1 ht (by omega) (by omega) htt
    by_cases e : t / 8 = p
    · rw [e] at hmono z
      unfold prec at hpr
      omega
    · have := h2 (t / 8) (by omega) hle e
      unfold prec at hpr this
      omega
  have hnx : ∀ q, q < 3 → (st2 f (k+2) p (nI (nx p + 1))) (k+2) q = nI ((fun q => if q = p then nx p + 1 else nx q) q) ∧ (fun q => if q = p then nx p + 1 else nx q) q ≤ vln g q := by
    intro q hq
    rw [s2_s]
    by_cases e : q = p
    · subst e
      rw [u_s]
      show nI (nx q + 1) = nI (if q = q then nx q + 1 else nx q) ∧ (if q = q then nx q + 1 else nx q) ≤ vln g q
      rw [if_pos rfl]; exact ⟨rfl, h1⟩
    · rw [u_n e]
      show f (k+2) q = nI (if q = p then nx p + 1 else nx q) ∧ (if q = p then nx p + 1 else nx q) ≤ vln g q
      rw [if_neg e]; exact hI.1 q hq
  have hsum : (fun q => if q = p then nx p + 1 else nx q) 0 + (fun q => if q = p then nx p + 1 else nx q) 1 + (fun q => if q = p then nx p + 1 else nx q) 2 = nx 0 + nx 1 + nx 2 + 1 := by
    rcases (show p = 0 ∨ p = 1 ∨ p = 2 by omega) with rfl | rfl | rfl <;> simp <;> omega
  have hk1 : (st2 f (k+2) p (nI (nx p + 1))) (k+1) = f (k+1) := s2_n (by omega)
  have hfr : ∀ j, j ≠ k+1 → j ≠ k+2 → (st2 f (k+2) p (nI (nx p + 1))) j = f j := fun j _ j2 => s2_n j2
  have hn0 : hd (8 * p + nx p) = false := by
    cases q : hd (8 * p + nx p) with
    | false => rfl
    | true =>
      have := of_decide_eq_true (hI.2.1.2.1 _ v1 q).1
      have h8 := (VB_ln h hp).2
      rw [show (8 * p + nx p) % 8 = nx p by omega, show (8 * p + nx p) / 8 = p by omega] at this
      omega
  have hn0L : (fun s => decide (s % 8 < nx (s / 8))) (8 * p + nx p) = false := by
    have h8 := (VB_ln h hp).2
    show decide ((8 * p + nx p) % 8 < nx ((8 * p + nx p) / 8)) = false
    rw [show (8 * p + nx p) % 8 = nx p by omega, show (8 * p + nx p) / 8 = p by omega]
    exact decide_eq_false (by omega)
  have hskip : two' g x (8 * p + nx p) = false → SI g x (st2 f (k+2) p (nI (nx p + 1))) k (fun q => if q = p then nx p + 1 else nx q) hd := fun q =>
    ⟨hnx, HSon_L hL (HSon_skip hI.2.1 v1 q hmin), by rw [hk1]; exact hI.2.2⟩
  by_cases ex : nI (8 * p + nx p) = x
  · rw [if_pos ex]
    exact hQ _ _ _ hfr (hskip (by unfold two'; rw [decide_eq_true ex]; simp)) hsum
  · rw [if_neg ex, co_two h hcF v1, b1s]
    cases htw : vtw g (8 * p + nx p) with
    | false =>
      rw [if_pos (show bI false = 0 from rfl)]
      exact hQ _ _ _ hfr (hskip (by unfold two'; rw [htw]; rfl)) hsum
    | true =>
      have ht' : two' g x (8 * p + nx p) = true := by unfold two'; rw [htw, decide_eq_false ex]; rfl
      obtain ⟨c1, -⟩ := hcF.2.2.2.2 _ v1 v2
      obtain ⟨a1, a2, -, a3, a4, -, -⟩ := VB_two h hP hT v1 htw
      have hmw : (st2 f (k+2) p (nI (nx p + 1))) (bk+6) (8 * p + nx p) = nI (vmn g (8 * p + nx p)) ∧ (st2 f (k+2) p (nI (nx p + 1))) (bk+7) (8 * p + nx p) = nI (vwn g (8 * p + nx p)) := by
        rcases (hcF.2.2.2.2 _ v1 v2).2 with ⟨b, -⟩ | ⟨b, -⟩ | ⟨-, -, b, c, -⟩
        · have := (vtw_th htw).2; rw [b] at this; exact absurd this m1_neg
        · have := (vtw_th htw).2; rw [b] at this; exact absurd this m2_neg
        · exact ⟨b.trans a1, c.trans a3⟩
      rw [if_neg (show ¬ bI true = 0 by decide), gdk v1 (by omega), gdk v1 (by omega), ncl (by omega), hmw.1, hmw.2, co_hold (show vmn g (8 * p + nx p) < 8 by omega) (show vwn g (8 * p + nx p) < 8 by omega), b1s, hk1]
      have hfree := hold_free h hP hT hI.2.1 hI.2.2 v1 htw
      have hadd := HM_add h hP hT hI.2.2 v1 htw hn0
      by_cases q : f (k+1) (vmn g (8 * p + nx p)) = -1 ∧ f (k+1) (vwn g (8 * p + nx p)) = -1
      · rw [if_pos q]
        refine hQ _ (fun q => if q = p then nx p + 1 else nx q) (up1 hd (8 * p + nx p) true) (fun j j1 j2 => (sA_n j1).trans (hfr j j1 j2)) ⟨fun t ht => ?_, ?_, ?_⟩ hsum
        · rw [sA_n (show k + 2 ≠ k + 1 by omega)]; exact hnx t ht
        · exact HSon_L hL (HSon_next hI.2.1 v1 hn0L ht' hmin ⟨fun _ => hfree.mp q, fun _ => rfl⟩)
        · rw [sA_s]; exact hadd.1 q
      · rw [if_neg q]
        refine hQ _ (fun q => if q = p then nx p + 1 else nx q) (up1 hd (8 * p + nx p) false) hfr ⟨hnx, ?_, ?_⟩ hsum
        · exact HSon_L hL (HSon_next hI.2.1 v1 hn0L ht' hmin ⟨fun z => (by cases z), fun z => absurd (hfree.mpr z) q⟩)
        · rw [hk1]; exact hadd.2
