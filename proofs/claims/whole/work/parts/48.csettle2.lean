/-! the component's settle, whole -/
theorem two'_th {g : Nat → Int32} {x : Int32} {s : Nat} (h : two' g x s = true) : vth g s = true := by
  unfold two' at h
  rw [Bool.and_eq_true] at h
  exact (vtw_th h.1).1
theorem co_two_m1 (f : hF) (bk : Nat) : fX0_isOfTwo bk f (-1) = some 0 := rfl
theorem se_loop {P T : Nat} {fm : Nat → Bool} {g : Nat → Int32} (h : VB P T fm g) (hP : P ≤ 8) (hT : T < 1000000) {x : Int32} {k bk : Nat} (hbk : bk + 8 < k) :
    ∀ (r i : Nat) (f : hF) (nx : Nat → Nat) (hd : Nat → Bool) (n : Nat), i + r = 24 → r < n → CB f bk g → SI g x f k nx hd → (i ≤ nx 0 + nx 1 + nx 2 ∨ ∀ q, q < 3 → vln g q ≤ nx q) →
      ∃ f2 hd2, fX1_settle_43 k bk x n f (nI i) = some f2 ∧ (∀ j, j ≠ k+1 → j ≠ k+2 → f2 j = f j) ∧ HS (two' g x) (vbg g) (vmn g) (vwn g) hd2 ∧ HM g hd2 (f2 (k+1)) := by
  intro r
  induction r with
  | zero =>
    intro i f nx hd n hr hn hc hI hs
    obtain ⟨m, rfl⟩ : ∃ m, n = m + 1 := ⟨n - 1, by omega⟩
    obtain rfl : i = 24 := by omega
    rw [fX1_settle_43, if_pos (by decide)]
    refine ⟨f, hd, rfl, fun _ _ _ => rfl, HSon_all hI.2.1 (fun s hs2 htw => ?_), hI.2.2⟩
    have h1 : s % 8 < vln g (s / 8) := of_decide_eq_true (two'_th htw)
    refine decide_eq_true ?_
    rcases hs with hs | hs
    · have l0 := (VB_ln h (show 0 < 3 by omega)).2
      have l1 := (VB_ln h (show 1 < 3 by omega)).2
      have l2 := (VB_ln h (show 2 < 3 by omega)).2
      have n0 := (hI.1 0 (by omega)).2
      have n1 := (hI.1 1 (by omega)).2
      have n2 := (hI.1 2 (by omega)).2
      rcases (show s / 8 = 0 ∨ s / 8 = 1 ∨ s / 8 = 2 by omega) with e | e | e <;> rw [e] <;> omega
    · have := hs (s / 8) (by omega)
      omega
  | succ r ih =>
    intro i f nx hd n hr hn hc hI hs
    obtain ⟨m, rfl⟩ : ∃ m, n = m + 1 := ⟨n - 1, by omega⟩
    rw [fX1_settle_43, if_neg (show ¬ (24 : Int32) ≤ nI i by rw [L24, nleq (by omega) (by omega)]; omega)]
    have ht := co_take (k := k) h hT hc (fun p hp => ⟨(hI.1 p hp).1, Nat.le_trans (hI.1 p hp).2 (VB_ln h hp).2⟩)
    rcases ht with ⟨hall, ho⟩ | ⟨p, hp, h1, h2, ho⟩
    · rw [ho, b2s]
      have e1 := ih (i + 1) f nx hd m (by omega) (by omega) hc hI (Or.inr hall)
      have e2 : nI i + 1 = nI (i + 1) := nadd i 1
      by_cases ex : (-1 : Int32) = x
      · rw [if_pos ex, e2]; exact e1
      · rw [if_neg ex, co_two_m1, b1s, if_pos rfl, e2]; exact e1
    · rw [ho, b2s]
      refine SI_step (Q := fun o => ∃ f2 hd2, o = some f2 ∧ (∀ j, j ≠ k+1 → j ≠ k+2 → f2 j = f j) ∧ HS (two' g x) (vbg g) (vmn g) (vwn g) hd2 ∧ HM g hd2 (f2 (k+1))) h hP hT hc hI hbk hp h1 h2 (fun f3 nx3 hd3 hfr hI3 hsum => ?_)
      rw [show nI i + 1 = nI (i + 1) from nadd i 1]
      have hs3 : i + 1 ≤ nx3 0 + nx3 1 + nx3 2 := by
        rcases hs with hs | hs
        · omega
        · exact absurd h1 (by have := hs p hp; omega)
      obtain ⟨f2, hd2, a1, a2, a3⟩ := ih (i + 1) f3 nx3 hd3 m (by omega) (by omega) (CB_frame (fun j j1 j2 => hfr j (by omega) (by omega)) hc) hI3 (Or.inl hs3)
      exact ⟨f2, hd2, a1, fun j j1 j2 => (a2 j j1 j2).trans (hfr j j1 j2), a3⟩
theorem se_clear2 {k bk : Nat} {x : Int32} : ∀ (r i : Nat) (f : hF) (n : Nat), i + r = 3 → r < n → (∀ t, t < i → f (k+2) t = 0) →
    ∃ g, fX1_settle_23 k bk x n f (nI i) = fX1_settle_43 k bk x FU g 0 ∧ (∀ j, j ≠ k+2 → g j = f j) ∧ ∀ t, t < 3 → g (k+2) t = 0 := by
  intro r
  induction r with
  | zero =>
    intro i f n hr hn h0
    obtain ⟨m, rfl⟩ : ∃ m, n = m + 1 := ⟨n - 1, by omega⟩
    obtain rfl : i = 3 := by omega
    exact ⟨f, by rw [fX1_settle_23, if_pos (by decide)], fun _ _ => rfl, h0⟩
  | succ r ih =>
    intro i f n hr hn h0
    obtain ⟨m, rfl⟩ : ∃ m, n = m + 1 := ⟨n - 1, by omega⟩
    rw [fX1_settle_23, if_neg (show ¬ (3 : Int32) ≤ nI i by rw [L3, nleq (by omega) (by omega)]; omega), gdk (show i < 3 by omega) (by omega), lte, ncl (by omega), show nI i + 1 = nI (i + 1) from nadd i 1]
    obtain ⟨g, hg, hfr, h1⟩ := ih (i + 1) (st2 f (k+2) i 0) m (by omega) (by omega) (fun t ht => by
      rw [s2_s]
      by_cases e : t = i
      · subst e; rw [u_s]
      · rw [u_n e]; exact h0 t (by omega))
    exact ⟨g, hg, fun j j1 => (hfr j j1).trans (s2_n j1), h1⟩
theorem se_clear1 {k bk : Nat} {x : Int32} : ∀ (r i : Nat) (f : hF) (n : Nat), i + r = 8 → r < n → (∀ t, t < i → f (k+1) t = -1) →
    ∃ g, fX1_settle_2 k bk x n f (nI i) = fX1_settle_23 k bk x FU g 0 ∧ (∀ j, j ≠ k+1 → g j = f j) ∧ ∀ t, t < 8 → g (k+1) t = -1 := by
  intro r
  induction r with
  | zero =>
    intro i f n hr hn h0
    obtain ⟨m, rfl⟩ : ∃ m, n = m + 1 := ⟨n - 1, by omega⟩
    obtain rfl : i = 8 := by omega
    exact ⟨f, by rw [fX1_settle_2, if_pos (by decide)], fun _ _ => rfl, h0⟩
  | succ r ih =>
    intro i f n hr hn h0
    obtain ⟨m, rfl⟩ : ∃ m, n = m + 1 := ⟨n - 1, by omega⟩
    rw [fX1_settle_2, if_neg (show ¬ (8 : Int32) ≤ nI i by rw [L8, nleq (by omega) (by omega)]; omega), gdk (show i < 8 by omega) (by omega), lte, ncl (by omega), show nI i + 1 = nI (i + 1) from nadd i 1]
    obtain ⟨g, hg, hfr, h1⟩ := ih (i + 1) (st2 f (k+1) i (-1)) m (by omega) (by omega) (fun t ht => by
      rw [s2_s]
      by_cases e : t = i
      · subst e; rw [u_s]
      · rw [u_n e]; exact h0 t (by omega))
    exact ⟨g, hg, fun j j1 => (hfr j j1).trans (s2_n j1), h1⟩
/-- settle lays into k+1 who holds what, and changes nothing but that and k+2 -/
theorem co_settle {P T : Nat} {fm : Nat → Bool} {g : Nat → Int32} (h : VB P T fm g) (hP : P ≤ 8) (hT : T < 1000000) {x : Int32} {k bk : Nat} (hbk : bk + 8 < k) {f : hF} (hc : CB f bk g) :
    ∃ f2 hd, fX1_settle k bk f x = some f2 ∧ (∀ j, j ≠ k+1 → j ≠ k+2 → f2 j = f j) ∧ HS (two' g x) (vbg g) (vmn g) (vwn g) hd ∧ HM g hd (f2 (k+1)) := by
  obtain ⟨f1, a1, a2, a3⟩ := se_clear1 (k := k) (bk := bk) (x := x) 8 0 f FU rfl (by decide) (fun t ht => absurd ht (Nat.not_lt_zero t))
  obtain ⟨f2, b1, b2, b3⟩ := se_clear2 (k := k) (bk := bk) (x := x) 3 0 f1 FU rfl (by decide) (fun t ht => absurd ht (Nat.not_lt_zero t))
  have hfr : ∀ j, j ≠ k+1 → j ≠ k+2 → f2 j = f j := fun j j1 j2 => (b2 j j2).trans (a2 j j1)
  have hI : SI g x f2 k (fun _ => 0) (fun _ => false) := by
    refine ⟨fun p hp => ⟨b3 p hp, Nat.zero_le _⟩, HSon_L (L := fun _ => false) (fun s _ => (decide_eq_false (Nat.not_lt_zero _)).symm) HSon_0, fun a ha => Or.inl ⟨?_, fun t _ q => (by cases q)⟩⟩
    rw [b2 (k+1) (by omega)]
    exact a3 a ha
  obtain ⟨f3, hd, c1, c2, c3⟩ := se_loop h hP hT hbk 24 0 f2 _ _ FU rfl (by decide) (CB_frame (fun j j1 j2 => hfr j (by omega) (by omega)) hc) hI (Or.inl (Nat.zero_le _))
  refine ⟨f3, hd, ?_, fun j j1 j2 => (c2 j j1 j2).trans (hfr j j1 j2), c3⟩
  show fX1_settle_2 k bk x FU f (nI 0) = some f3
  rw [a1, show (0 : Int32) = nI 0 from rfl, b1]
  exact c1
theorem two'_m1 {g : Nat → Int32} : ∀ s, s < 24 → two' g (-1) s = vtw g s := by
  intro s hs
  unfold two'
  rw [decide_eq_false (m1_n (by omega))]
  simp
/-- both sides: the same lines hold -/
theorem hold_same {P T : Nat} {fm : Nat → Bool} {g : Nat → Int32} {hd hr : Nat → Bool} (_ : VB P T fm g) (h1 : HS (two' g (-1)) (vbg g) (vmn g) (vwn g) hd) (h2 : HS (vtw g) (vbg g) (vmn g) (vwn g) hr) : ∀ s, s < 24 → hd s = hr s :=
  HS_uniq (HS_congr two'_m1 (fun _ _ _ => ⟨rfl, rfl, rfl⟩) h1) h2
