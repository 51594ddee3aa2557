/-! both sides made anew -/
def tN : List Nat := [109, 48, 44, 49, 50, 44, 53, 59, 109, 49, 44, 52, 48, 44, 50, 59, 109, 50, 44, 48, 44, 53, 48, 59, 119, 48, 44, 51, 44, 56, 59, 119, 49, 44, 51, 48, 44, 49, 50, 59, 119, 50, 44, 48, 44, 54, 48, 59, 119, 48, 44, 57, 44, 50, 48, 59, 112, 48, 44, 50, 59, 112, 49, 44, 51, 59, 112, 50, 44, 53, 59, 108, 51, 48, 59]
def LI (i : Nat) : Nat := tN.getD i 0
theorem LI_ok : TL 75 LI := ⟨by decide, by decide +kernel⟩
theorem tx_all : ∀ i, i < 75 → vp_nar .char (txC i) = nI (LI i) := by decide +kernel
def dI : DR := dL (dQ (dQ (dQ (dP (dP (dP (dP (dP (dP (dP d0 false 0 12 5) false 1 40 2) false 2 0 50) true 0 3 8) true 1 30 12) true 2 0 60) true 0 9 20) 0 2) 1 3) 2 5) 30
theorem prsI : (prs 75 LI 76 0 d0).1 = none ∧ (prs 75 LI 76 0 d0).2.1.P = 7 ∧ (prs 75 LI 76 0 d0).2.1.Q = 3 ∧ (prs 75 LI 76 0 d0).2.1.law = 30 ∧
    (∀ a, a < 7 → (prs 75 LI 76 0 d0).2.1.fm a = dI.1.fm a ∧ (prs 75 LI 76 0 d0).2.1.kd a = dI.1.kd a ∧ (prs 75 LI 76 0 d0).2.1.db a = dI.1.db a ∧ (prs 75 LI 76 0 d0).2.2 a = dI.2 a) ∧
    ∀ p, p < 3 → (prs 75 LI 76 0 d0).2.1.tr p = dI.1.tr p ∧ (prs 75 LI 76 0 d0).2.1.pr p = dI.1.pr p := by decide +kernel
theorem dI_v : dI.1.P = 7 ∧ dI.1.Q = 3 ∧ dI.1.law = 30 := by decide +kernel
theorem dI_ok : DOK dI := by
  obtain ⟨h1, h2, h3⟩ := dI_v
  refine ⟨by omega, by omega, by omega, ?_, ?_⟩
  · rw [h1]
    exact (by decide +kernel : ∀ a, a < 7 → dI.1.kd a ≤ 2 ∧ dI.1.db a ≤ 60 ∧ dI.2 a ≤ 60)
  · rw [h2]
    exact (by decide +kernel : ∀ p, p < 3 → dI.1.tr p ≤ 2 ∧ dI.1.pr p ≤ 20)
theorem chars_loop : ∀ (r i : Nat) (f : hF), i + r = 75 → f 1 1 = nI i → (∀ t, t < i → f 2 t = nI (LI t)) → ∃ f2, fX7_chars r i f = some f2 ∧ TC 75 LI f2 ∧ ∀ j, j ≠ 1 → j ≠ 2 → f2 j = f j := by
  intro r
  induction r with
  | zero =>
    intro i f hr h1 h2
    obtain rfl : i = 75 := by omega
    exact ⟨f, rfl, ⟨h1, h2⟩, fun _ _ _ => rfl⟩
  | succ r ih =>
    intro i f hr h1 h2
    have hadd : fX4_add 1 f (txC i) = some (1, st2 (st2 f 2 i (nI (LI i))) 1 1 (nI (i + 1))) := by
      unfold fX4_add
      rw [h1, if_neg (nI_pos (by omega)), if_pos (show nI i < (200 : Int32) from (nI_ltI (b := 200) (by omega) (by omega)).mpr (by omega)), gdk (show i < 200 by omega) (by omega), lte, ncl (by omega), tx_all i (by omega), s2_n (j := 1) (by decide), h1, lte, show nI i + 1 = nI (i + 1) from nadd i 1]
    obtain ⟨f2, a1, a2, a3⟩ := ih (i + 1) (st2 (st2 f 2 i (nI (LI i))) 1 1 (nI (i + 1))) (by omega) (by rw [s2_s, u_s]) (fun t ht => by
      rw [s2_n (by decide), s2_s]
      by_cases y : t = i
      · rw [y, u_s]
      · rw [u_n y]; exact h2 t (by omega))
    refine ⟨f2, ?_, a2, fun j j1 j2 => by rw [a3 j j1 j2, s2_n j1, s2_n j2]⟩
    show b2 (fX4_add 1 f (txC i)) (fun _ f1 => fX7_chars r (i + 1) f1) = _
    rw [hadd, b2s]
    exact a1
theorem mo_tellsP {d : DR} {f : hF} (hD : DM d f) (hP : d.1.P < 8) (w : Bool) (x y z : Nat) : ∃ f2, fX8_tellsPerson f (bI w) (nI x) (nI y) (nI z) = some f2 ∧ DM (dP d w x y z) f2 ∧ FR f f2 := by
  have m16 : f 146 16 = nI d.1.P := hD.1
  have c1 : (3 : Int32) * nI d.1.P = nI (3 * d.1.P) := nmul 3 _
  refine ⟨st2 (st2 (st2 (st2 (st2 f 155 (3 * d.1.P) (bI w)) 155 (3 * d.1.P + 1) (nI x)) 155 (3 * d.1.P + 2) (nI y)) 156 d.1.P (nI z)) 146 16 (nI (d.1.P + 1)), ?_, ⟨?_, ?_, ?_, fun a ha => ?_, fun p hp => ?_⟩, ⟨fun s s1 s2 => ?_, fun s hs => ?_⟩⟩
  · unfold fX8_tellsPerson
    rw [m16, c1, gdk (show 3 * d.1.P < 24 by omega) (by omega), lte, ncl (by omega), s2_n (j := 146) (k := 155) (by decide), m16, c1, show nI (3 * d.1.P) + 1 = nI (3 * d.1.P + 1) from nadd _ 1, gdk (show 3 * d.1.P + 1 < 24 by omega) (by omega), lte, ncl (by omega), s2_n (j := 146) (k := 155) (by decide), s2_n (j := 146) (k := 155) (by decide), m16, c1, show nI (3 * d.1.P) + 2 = nI (3 * d.1.P + 2) from nadd _ 2, gdk (show 3 * d.1.P + 2 < 24 by omega) (by omega), lte, ncl (by omega), s2_n (j := 146) (k := 155) (by decide), s2_n (j := 146) (k := 155) (by decide), s2_n (j := 146) (k := 155) (by decide), m16, gdk (show d.1.P < 8 by omega) (by omega), lte, ncl (by omega), s2_n (j := 146) (k := 156) (by decide), s2_n (j := 146) (k := 155) (by decide), s2_n (j := 146) (k := 155) (by decide), s2_n (j := 146) (k := 155) (by decide), m16, lte, show nI d.1.P + 1 = nI (d.1.P + 1) from nadd _ 1]
  · rw [s2_s, u_s]; rfl
  · rw [s2_s, u_n (by decide), s2_n (by decide), s2_n (by decide), s2_n (by decide), s2_n (by decide)]; exact hD.2.1
  · rw [s2_s, u_n (by decide), s2_n (by decide), s2_n (by decide), s2_n (by decide), s2_n (by decide)]; exact hD.2.2.1
  · have g155 : st2 (st2 (st2 (st2 (st2 f 155 (3 * d.1.P) (bI w)) 155 (3 * d.1.P + 1) (nI x)) 155 (3 * d.1.P + 2) (nI y)) 156 d.1.P (nI z)) 146 16 (nI (d.1.P + 1)) 155 = upd (upd (upd (f 155) (3 * d.1.P) (bI w)) (3 * d.1.P + 1) (nI x)) (3 * d.1.P + 2) (nI y) := by rw [s2_n (by decide), s2_n (by decide), s2_s, s2_s, s2_s]
    have g156 : st2 (st2 (st2 (st2 (st2 f 155 (3 * d.1.P) (bI w)) 155 (3 * d.1.P + 1) (nI x)) 155 (3 * d.1.P + 2) (nI y)) 156 d.1.P (nI z)) 146 16 (nI (d.1.P + 1)) 156 = upd (f 156) d.1.P (nI z) := by rw [s2_n (by decide), s2_s, s2_n (by decide), s2_n (by decide), s2_n (by decide)]
    rw [g155, g156]
    show _ = bI (fu d.1.fm d.1.P w a) ∧ _ = nI (fu d.1.kd d.1.P x a) ∧ _ = nI (fu d.1.db d.1.P y a) ∧ _ = nI (fu d.2 d.1.P z a)
    by_cases e : a = d.1.P
    · rw [e, fu_s, fu_s, fu_s, fu_s]
      refine ⟨?_, ?_, u_s _ _ _, u_s _ _ _⟩
      · rw [u_n (by omega), u_n (by omega), u_s]
      · rw [u_n (by omega), u_s]
    · rw [fu_n e, fu_n e, fu_n e, fu_n e, u_n e, u_n (j := 3 * a) (by omega), u_n (j := 3 * a) (by omega), u_n (j := 3 * a) (by omega), u_n (j := 3 * a + 1) (by omega), u_n (j := 3 * a + 1) (by omega), u_n (j := 3 * a + 1) (by omega), u_n (j := 3 * a + 2) (by omega), u_n (j := 3 * a + 2) (by omega), u_n (j := 3 * a + 2) (by omega)]
      have ha' : a < d.1.P + 1 := ha
      exact hD.2.2.2.1 a (by omega)
  · rw [s2_n (by decide), s2_n (by decide), s2_n (by decide), s2_n (by decide), s2_n (by decide)]; exact hD.2.2.2.2 p hp
  · rw [s2_n s1, s2_n (by omega), s2_n (by omega), s2_n (by omega), s2_n (by omega)]
  · rw [s2_s, u_n (by omega), s2_n (by decide), s2_n (by decide), s2_n (by decide), s2_n (by decide)]
theorem mo_tellsQ {d : DR} {f : hF} (hD : DM d f) (hP : d.1.Q < 3) (x y : Nat) : ∃ f2, fX8_tellsParson f (nI x) (nI y) = some f2 ∧ DM (dQ d x y) f2 ∧ FR f f2 := by
  have m19 : f 146 19 = nI d.1.Q := hD.2.1
  have c1 : (2 : Int32) * nI d.1.Q = nI (2 * d.1.Q) := nmul 2 _
  refine ⟨st2 (st2 (st2 f 157 (2 * d.1.Q) (nI x)) 157 (2 * d.1.Q + 1) (nI y)) 146 19 (nI (d.1.Q + 1)), ?_, ⟨?_, ?_, ?_, fun a ha => ?_, fun p hp => ?_⟩, ⟨fun s s1 s2 => ?_, fun s hs => ?_⟩⟩
  · unfold fX8_tellsParson
    rw [m19, c1, gdk (show 2 * d.1.Q < 6 by omega) (by omega), lte, ncl (by omega), s2_n (j := 146) (k := 157) (by decide), m19, c1, show nI (2 * d.1.Q) + 1 = nI (2 * d.1.Q + 1) from nadd _ 1, gdk (show 2 * d.1.Q + 1 < 6 by omega) (by omega), lte, ncl (by omega), s2_n (j := 146) (k := 157) (by decide), s2_n (j := 146) (k := 157) (by decide), m19, lte, show nI d.1.Q + 1 = nI (d.1.Q + 1) from nadd _ 1]
  · rw [s2_s, u_n (by decide), s2_n (by decide), s2_n (by decide)]; exact hD.1
  · rw [s2_s, u_s]; rfl
  · rw [s2_s, u_n (by decide), s2_n (by decide), s2_n (by decide)]; exact hD.2.2.1
  · rw [s2_n (by decide), s2_n (by decide), s2_n (by decide), s2_n (by decide), s2_n (by decide), s2_n (by decide)]; exact hD.2.2.2.1 a ha
  · have g157 : st2 (st2 (st2 f 157 (2 * d.1.Q) (nI x)) 157 (2 * d.1.Q + 1) (nI y)) 146 19 (nI (d.1.Q + 1)) 157 = upd (upd (f 157) (2 * d.1.Q) (nI x)) (2 * d.1.Q + 1) (nI y) := by rw [s2_n (by decide), s2_s, s2_s]
    rw [g157]
    show _ = nI (fu d.1.tr d.1.Q x p) ∧ _ = nI (fu d.1.pr d.1.Q y p)
    by_cases e : p = d.1.Q
    · rw [e, fu_s, fu_s]
      refine ⟨?_, u_s _ _ _⟩
      rw [u_n (by omega), u_s]
    · rw [fu_n e, fu_n e, u_n (j := 2 * p) (by omega), u_n (j := 2 * p) (by omega), u_n (j := 2 * p + 1) (by omega), u_n (j := 2 * p + 1) (by omega)]
      have hp' : p < d.1.Q + 1 := hp
      exact hD.2.2.2.2 p (by omega)
  · rw [s2_n s1, s2_n (by omega), s2_n (by omega)]
  · rw [s2_s, u_n (by omega), s2_n (by decide), s2_n (by decide)]
theorem DM_law {d : DR} {f : hF} (h : DM d f) (x : Nat) : DM (dL d x) (st2 f 146 21 (nI x)) := by
  refine ⟨?_, ?_, ?_, fun a ha => ?_, fun p hp => ?_⟩
  · rw [s2_s, u_n (by decide)]; exact h.1
  · rw [s2_s, u_n (by decide)]; exact h.2.1
  · rw [s2_s, u_s]; rfl
  · rw [s2_n (by decide), s2_n (by decide)]; exact h.2.2.2.1 a ha
  · rw [s2_n (by decide)]; exact h.2.2.2.2 p hp
theorem init_ok : ∃ g1 g2, fX7_init = some g1 ∧ (∀ j, 146 ≤ j → g1 j = fun _ => 0) ∧ fX8_init g1 = some g2 ∧ R 0 dI.1 g2 := by
  obtain ⟨p1, p2, p3, p4, p5, p6⟩ := prsI
  obtain ⟨i1, i2, i3⟩ := dI_v
  have z0 : ∀ j, j ≠ 53 → j ≠ 127 → fPW0 j = fun _ => 0 := fun j j1 j2 => by
    unfold fPW0
    rw [fShelf_hi (by omega), fShelf_hi (by omega)]
    rfl
  have s53 : fPW0 53 = fun m => if m < 8 then nI (52+2+9*m) else 0 := by
    unfold fPW0
    rw [fShelf_hi (by omega)]
    unfold fShelf
    rw [sA_s]
  have s127 : fPW0 127 = fun m => if m < 2 then nI (126+2+9*m) else 0 := by
    unfold fPW0 fShelf
    rw [sA_s]
  obtain ⟨f1, a1, a2, a3⟩ := chars_loop 75 0 fPW0 rfl (by rw [z0 1 (by decide) (by decide)]; rfl) (fun t ht => absurd ht (Nat.not_lt_zero t))
  obtain ⟨f2, b1', b2', b3, b4⟩ := co_read (k := 3) LI_ok (by omega) a2
  rw [p1] at b1'
  have hDC : DC 3 dI f2 := by
    refine ⟨by rw [b2'.1, p2, i1], by rw [b2'.2.1, p3, i2], by rw [b2'.2.2.1, p4, i3], fun a ha => ?_, fun p hp => ?_⟩
    · rw [i1] at ha
      have q := p5 a ha
      have := b2'.2.2.2.1 a (by rw [p2]; exact ha)
      rw [q.1, q.2.1, q.2.2.1, q.2.2.2] at this
      exact this
    · rw [i2] at hp
      have q := p6 p hp
      have := b2'.2.2.2.2 p (by rw [p3]; exact hp)
      rw [q.1, q.2] at this
      exact this
  have hP : dI.1.P ≤ 8 := dI_ok.1
  obtain ⟨f3, o1, o2, o3, o4⟩ := co_open7 (f0 := st2 f2 20 0 0) hP (by rw [s2_n (by decide)]; exact hDC.1) (fun a ha => by rw [s2_n (by decide)]; exact (hDC.2.2.2.1 a ha).2.2.2) 8 0 FU (st2 f2 20 0 0) rfl (by decide) (fun _ _ _ _ => rfl) (fun t ht => absurd ht (Nat.not_lt_zero t))
  have e3 : ∀ j, ¬ (3 ≤ j ∧ j ≤ 10) → ¬ (20 ≤ j ∧ j ≤ 23) → j ≠ 1 → j ≠ 2 → st2 f3 1 1 0 j = fPW0 j := fun j h1 h2 h3 h4 => by rw [s2_n h3, o2 j (by omega) (by omega) (by omega), s2_n (by omega), b4 j (by omega), a3 j h3 h4]
  have e3b : ∀ j, 3 ≤ j → j ≤ 10 → st2 f3 1 1 0 j = f2 j := fun j h1 h2 => by rw [s2_n (by omega), o2 j (by omega) (by omega) (by omega), s2_n (by omega)]
  have hi : ∀ j, 146 ≤ j → st2 f3 1 1 0 j = fun _ => 0 := fun j hj => by rw [e3 j (by omega) (by omega) (by omega) (by omega)]; exact z0 j (by omega) (by omega)
  obtain ⟨g1, hg1⟩ : ∃ g1, st2 f3 1 1 0 = g1 := ⟨_, rfl⟩
  rw [hg1] at e3 e3b hi
  have c0 : DM d0 (st2 (st2 (st2 g1 146 16 0) 146 19 0) 146 21 60) := by
    refine ⟨?_, ?_, ?_, fun a ha => absurd ha (Nat.not_lt_zero a), fun a ha => absurd ha (Nat.not_lt_zero a)⟩
    · rw [s2_s, u_n (by decide), s2_s, u_n (by decide), s2_s, u_s]; rfl
    · rw [s2_s, u_n (by decide), s2_s, u_s]; rfl
    · rw [s2_s, u_s]; rfl
  have r0 : FR g1 (st2 (st2 (st2 g1 146 16 0) 146 19 0) 146 21 60) := ⟨fun s s1 _ => by rw [s2_n s1, s2_n s1, s2_n s1], fun s hs => by rw [s2_s, u_n (by omega), s2_s, u_n (by omega), s2_s, u_n (by omega)]⟩
  obtain ⟨h1, t1, c1, r1⟩ := mo_tellsP c0 (by decide) false 0 12 5
  obtain ⟨h2, t2, c2, r2⟩ := mo_tellsP c1 (by decide) false 1 40 2
  obtain ⟨h3, t3, c3, r3⟩ := mo_tellsP c2 (by decide) false 2 0 50
  obtain ⟨h4, t4, c4, r4⟩ := mo_tellsP c3 (by decide) true 0 3 8
  obtain ⟨h5, t5, c5, r5⟩ := mo_tellsP c4 (by decide) true 1 30 12
  obtain ⟨h6, t6, c6, r6⟩ := mo_tellsP c5 (by decide) true 2 0 60
  obtain ⟨h7, t7, c7, r7⟩ := mo_tellsP c6 (by decide) true 0 9 20
  obtain ⟨h8, t8, c8, r8⟩ := mo_tellsQ c7 (by decide) 0 2
  obtain ⟨h9, t9, c9, r9⟩ := mo_tellsQ c8 (by decide) 1 3
  obtain ⟨hA, tA, cA, rA⟩ := mo_tellsQ c9 (by decide) 2 5
  have cL : DM dI (st2 hA 146 21 (nI 30)) := DM_law cA 30
  have rL : FR g1 (st2 hA 146 21 (nI 30)) := FR.trans (FR.trans r0 (FR.trans r1 (FR.trans r2 (FR.trans r3 (FR.trans r4 (FR.trans r5 (FR.trans r6 (FR.trans r7 (FR.trans r8 (FR.trans r9 rA)))))))))) ⟨fun s s1 _ => s2_n s1, fun s hs => by rw [s2_s, u_n (by omega)]⟩
  have zz : ∀ j, 146 ≤ j → j ≠ 146 → ¬ (154 ≤ j ∧ j ≤ 157) → st2 hA 146 21 (nI 30) j = fun _ => 0 := fun j j0 j1 j2 => by rw [rL.1 j j1 j2]; exact hi j j0
  obtain ⟨g2, q1, q2, q3, q4, q5, q6, q7, q8, q9, q10, q11, q12⟩ := mo_settles dI_ok cL (fun i _ => by rw [zz 149 (by omega) (by omega) (by omega)])
  have e6 : ∀ j, j < 146 → g2 j = g1 j := fun j hj => by rw [q12 j (by omega) (by omega) (by omega) (by omega), rL.1 j (by omega) (by omega)]
  refine ⟨g1, g2, ?_, hi, ?_, ⟨⟨a3c dI_ok (by omega) (by omega), ?_, ?_, ?_, fun a ha => ?_, fun p hp => ?_, q2, q3, q4, q10, q11⟩, ?_, ?_, fun i _ => ?_, ?_, ?_, ?_, ?_⟩⟩
  · unfold fX7_init fX7_rest fX2_open fX0_open
    rw [a1, b1s, b1', b2s, lte]
    rw [show fX0_open_7 (19 + 1) 3 FU (st2 f2 (19 + 1) 0 0) 0 = some f3 from o1, b1s, b1s, lte, hg1]
  · unfold fX8_init fX8_clearTold
    rw [lte, lte, lte, b1s]
    rw [show fX8_tellsPerson (st2 (st2 (st2 g1 146 16 0) 146 19 0) 146 21 60) (0 : Int32) (0 : Int32) (12 : Int32) (5 : Int32) = some h1 from t1, b1s, show fX8_tellsPerson h1 (0 : Int32) (1 : Int32) (40 : Int32) (2 : Int32) = some h2 from t2, b1s, show fX8_tellsPerson h2 (0 : Int32) (2 : Int32) (0 : Int32) (50 : Int32) = some h3 from t3, b1s, show fX8_tellsPerson h3 (1 : Int32) (0 : Int32) (3 : Int32) (8 : Int32) = some h4 from t4, b1s, show fX8_tellsPerson h4 (1 : Int32) (1 : Int32) (30 : Int32) (12 : Int32) = some h5 from t5, b1s, show fX8_tellsPerson h5 (1 : Int32) (2 : Int32) (0 : Int32) (60 : Int32) = some h6 from t6, b1s, show fX8_tellsPerson h6 (1 : Int32) (0 : Int32) (9 : Int32) (20 : Int32) = some h7 from t7, b1s, show fX8_tellsParson h7 (0 : Int32) (2 : Int32) = some h8 from t8, b1s, show fX8_tellsParson h8 (1 : Int32) (3 : Int32) = some h9 from t9, b1s, show fX8_tellsParson h9 (2 : Int32) (5 : Int32) = some hA from tA, b1s, lte, show (30 : Int32) = nI 30 from rfl, q1, b1s]
  · rw [e6 3 (by omega), e3b 3 (by omega) (by omega)]; exact hDC.1
  · rw [e6 3 (by omega), e3b 3 (by omega) (by omega)]; exact hDC.2.1
  · rw [e6 3 (by omega), e3b 3 (by omega) (by omega)]; exact hDC.2.2.1
  · rw [e6 4 (by omega), e3b 4 (by omega) (by omega), e6 5 (by omega), e3b 5 (by omega) (by omega), e6 6 (by omega), e3b 6 (by omega) (by omega)]
    have := hDC.2.2.2.1 a ha
    exact ⟨this.1, this.2.1, this.2.2.1⟩
  · rw [e6 8 (by omega), e3b 8 (by omega) (by omega), e6 9 (by omega), e3b 9 (by omega) (by omega)]
    exact hDC.2.2.2.2 p hp
  · rw [q9]; exact gO_BK hP 0
  · rw [q9]
    have e20 : ∀ j, 20 ≤ j → j ≤ 28 → g2 j = f3 j := fun j j1 j2 => by rw [e6 j (by omega), ← hg1, s2_n (by omega)]
    refine ⟨?_, fun p hp => ?_, fun p hp => ?_, fun p hp => ?_, fun s hs hv => by rw [gO_vth hP] at hv; cases hv⟩
    · rw [e20 20 (by omega) (by omega), o2 20 (by decide) (by decide) (by decide), s2_s, u_s, gO_0 (Or.inl rfl)]
    · rw [e20 (20 + 1) (by omega) (by omega), o3 p hp]
      unfold gO
      by_cases y : p < dI.1.P
      · rw [if_pos y, if_pos (by omega), show 1 + p - 1 = p by omega]
      · rw [if_neg y, if_neg (by omega)]
    · rw [e20 (20 + 2) (by omega) (by omega), (o4 p hp).1, gO_0 (Or.inr (by omega))]
    · rw [e20 (20 + 3) (by omega) (by omega), (o4 p hp).2, gO_0 (Or.inr (by omega))]
  · rw [q12 158 (by decide) (by decide) (by decide) (by decide), zz 158 (by omega) (by omega) (by omega)]
  · refine SH_in (n := 0) (gs := fun _ _ => 0) (by omega) ⟨?_, fun j => j, fun j hj => ⟨?_, hj⟩, fun _ _ _ _ e => e, fun j hj => absurd hj (Nat.not_lt_zero j)⟩ ⟨q5, fun j hj => absurd hj (Nat.not_lt_zero j)⟩ (fun j hj => absurd hj (Nat.not_lt_zero j))
    · rw [e6 52 (by omega), e3 52 (by omega) (by omega) (by omega) (by omega), z0 52 (by decide) (by decide)]; rfl
    · rw [e6 53 (by omega), e3 53 (by omega) (by omega) (by omega) (by omega), s53]
      exact if_pos hj
  · refine SH_in (n := 0) (gs := fun _ _ => 0) (by omega) ⟨?_, fun j => j, fun j hj => ⟨?_, hj⟩, fun _ _ _ _ e => e, fun j hj => absurd hj (Nat.not_lt_zero j)⟩ ⟨q6, fun j hj => absurd hj (Nat.not_lt_zero j)⟩ (fun j hj => absurd hj (Nat.not_lt_zero j))
    · rw [e6 126 (by omega), e3 126 (by omega) (by omega) (by omega) (by omega), z0 126 (by decide) (by decide)]; rfl
    · rw [e6 127 (by omega), e3 127 (by omega) (by omega) (by omega) (by omega), s127]
      exact if_pos hj
  · refine ⟨0, by omega, ?_, q7, fun i hi => absurd hi (Nat.not_lt_zero i)⟩
    rw [e6 47 (by omega), e3 47 (by omega) (by omega) (by omega) (by omega), z0 47 (by decide) (by decide)]; rfl
  · refine ⟨0, by omega, ?_, ?_, fun i hi => absurd hi (Nat.not_lt_zero i)⟩
    · rw [e6 1 (by omega), ← hg1, s2_s, u_s]; rfl
    · rw [q8, rL.2 13 (by omega), hi 146 (by omega)]; rfl
