/-! falseOnes by both -/
theorem fo_lines' {T : Nat} {ro : RO} {g : Nat → Int32} (h : VB ro.P T ro.fm g) (hP : ro.P ≤ 8) (hT : T < 1000000) {f0 : hF} (h0 : f0 158 = g) (hg : ∀ i, i ≤ 24 → gen ro.fm (elB g i)) :
    ∀ (r i n : Nat) (f : hF) (a : Nat → Nat), i + r = 24 → r < n → (∀ j, j ≠ 161 → f j = f0 j) → (∀ x, x < 256 → f 161 x = enc (a x)) → InvA (elB g i) a → InvB (elB g i) a →
      ∃ v f2, v ≤ 8 ∧ fX8_falseOnes_38 n f (nI (cnt (vtw g) i)) (nI i) = some (nI (cnt (vtw g) 24) - nI v, f2) ∧ (∀ j, j ≠ 161 → f2 j = f0 j) ∧ (∃ M, Mat (elB g 24) M ∧ M.length = v) ∧ ∀ M, Mat (elB g 24) M → M.length ≤ v := by
  intro r
  induction r with
  | zero =>
    intro i n f a hr hn e h1 hA hB
    obtain ⟨n, rfl⟩ : ∃ k, n = k + 1 := ⟨n - 1, by omega⟩
    obtain rfl : i = 24 := by omega
    obtain ⟨v, v1, v2, v3, v4⟩ := fo_max (hg 24 (Nat.le_refl _)) h1 hA hB (nI (cnt (vtw g) 24))
    exact ⟨v, f, v1, by rw [fX8_falseOnes_38, if_pos (by decide)]; exact v2, e, v3, v4⟩
  | succ r ih =>
    intro i n f a hr hn e h1 hA hB
    obtain ⟨n, rfl⟩ : ∃ k, n = k + 1 := ⟨n - 1, by omega⟩
    have hi : i < 24 := by omega
    have e8 : f 158 = g := (e 158 (by decide)).trans h0
    rw [fX8_falseOnes_38, if_neg (show ¬ (24 : Int32) ≤ nI i by rw [L24, nleq (by omega) (by omega)]; omega), mo_two (by rw [e8]; exact h) hi, b1s, bi_if, e8]
    cases htw : vtw g i with
    | false =>
      rw [if_neg (by decide)]
      have hE : ∀ x y, elB g (i + 1) x y = elB g i x y := fun x y => by rw [elB_s, htw, Bool.false_and, Bool.or_false]
      have := ih (i + 1) n f a (by omega) (by omega) e h1 (fun x hx => (hA x hx).imp id (fun ⟨M, k1, k2, k3⟩ => ⟨M, Mat_mono (fun m w q => by rw [hE]; exact q) k1, k2, k3⟩)) (fun M hM => hB M (Mat_mono (fun m w q => by rw [hE] at q; exact q) hM))
      rw [cnt_s, htw] at this
      rw [show nI i + 1 = nI (i + 1) from nadd i 1]
      exact this
    | true =>
      obtain ⟨a1, a2, a2', a3, a4, a4', -⟩ := VB_two h hP hT hi htw
      have hE : ∀ x y, elB g (i + 1) x y = true ↔ elB g i x y = true ∨ (x = vmn g i ∧ y = vwn g i) := fun x y => by
        rw [elB_s, htw, Bool.true_and, Bool.or_eq_true, Bool.and_eq_true, decide_eq_true_eq, decide_eq_true_eq]
        constructor
        · rintro (q | ⟨q1, q2⟩)
          · exact Or.inl q
          · exact Or.inr ⟨q1.symm, q2.symm⟩
        · rintro (q | ⟨q1, q2⟩)
          · exact Or.inl q
          · exact Or.inr ⟨q1.symm, q2.symm⟩
      have hpass := fo_pass (a := a) (show vmn g i < 8 by omega) (show vwn g i < 8 by omega) (hg (i + 1) (by omega)) hE (fX8_falseOnes_38 n) (nI (cnt (vtw g) (i + 1))) (nI i) f0 256 FU f a (Nat.le_refl _) (by decide) e h1 (fun x hx => (hA x hx).imp id (fun ⟨M, k1, k2, k3⟩ => ⟨M, Mat_mono (fun m w q => (hE m w).mpr (Or.inl q)) k1, k2, k3⟩)) (fun x _ => Nat.le_refl _) (fun y hy hy2 => absurd hy2 (by omega))
      obtain ⟨f2, c2, p1, p2, p3, p4, p5, p6⟩ := hpass
      have hB2 := InvB_s (show vmn g i < 8 by omega) (show vwn g i < 8 by omega) (hg (i + 1) (by omega)) hE hB p5 p6
      have := ih (i + 1) n f2 c2 (by omega) (by omega) p2 p3 p4 hB2
      rw [if_pos rfl, mo_man hi, b1s, mo_woman hi, b1s, e8, a1, a3]
      rw [show nI (cnt (vtw g) i) + 1 = nI (cnt (vtw g) (i + 1)) by rw [cnt_s, htw]; exact nadd _ 1]
      change ∃ v f2, v ≤ 8 ∧ fX8_falseOnes_76 (fX8_falseOnes_38 n) FU f (nI (cnt (vtw g) (i + 1))) (nI i) (i2 (vmn g i) (vwn g i)) 255 = _ ∧ _
      rw [show (255 : Int32) = enc 256 from rfl, p1, show nI i + 1 = nI (i + 1) from nadd i 1]
      exact this
theorem fo_init {f0 : hF} : ∀ (r i n : Nat) (f : hF), i + r = 256 → r < n → (∀ j, j ≠ 161 → f j = f0 j) → (∀ x, x < i → f 161 x = enc (if x = 0 then 1 else 0)) →
    ∃ f2, fX8_falseOnes_8 n f 0 (nI i) = fX8_falseOnes_38 FU f2 0 0 ∧ (∀ j, j ≠ 161 → f2 j = f0 j) ∧ ∀ x, x < 256 → f2 161 x = enc (if x = 0 then 1 else 0) := by
  intro r
  induction r with
  | zero =>
    intro i n f hr hn e h1
    obtain ⟨n, rfl⟩ : ∃ k, n = k + 1 := ⟨n - 1, by omega⟩
    obtain rfl : i = 256 := by omega
    exact ⟨f, by rw [fX8_falseOnes_8, if_pos (by decide)], e, h1⟩
  | succ r ih =>
    intro i n f hr hn e h1
    obtain ⟨n, rfl⟩ : ∃ k, n = k + 1 := ⟨n - 1, by omega⟩
    rw [fX8_falseOnes_8, if_neg (show ¬ (256 : Int32) ≤ nI i from fun z => by have := (nI_leI (a := 256) (by omega) (by omega)).mp z; omega)]
    unfold fX8_falseOnes_29
    rw [gdk (show i < 256 by omega) (by omega), gdk (show i < 256 by omega) (by omega), lte, lte, ncl (by omega), show nI i + 1 = nI (i + 1) from nadd i 1]
    have step : ∀ v, v = enc (if i = 0 then 1 else 0) → ∃ f2, fX8_falseOnes_8 n (st2 f 161 i v) 0 (nI (i + 1)) = fX8_falseOnes_38 FU f2 0 0 ∧ (∀ j, j ≠ 161 → f2 j = f0 j) ∧ ∀ x, x < 256 → f2 161 x = enc (if x = 0 then 1 else 0) := fun v hv => ih (i + 1) n _ (by omega) (by omega) (fun j hj => by rw [s2_n hj, e j hj]) (fun x hx => by
      rw [s2_s]
      by_cases y : x = i
      · rw [y, u_s, hv]
      · rw [u_n y]; exact h1 x (by omega))
    by_cases z : i = 0
    · rw [if_pos (show nI i = 0 by rw [z]; rfl)]
      exact step 0 (by rw [if_pos z]; rfl)
    · rw [if_neg (show ¬ nI i = 0 from fun q => z ((nI_eq (b := 0) (by omega) (by omega)).mp q))]
      exact step (-1) (by rw [if_neg z]; rfl)
theorem falseOnes_same {T : Nat} {ro : RO} {f : hF} (h : R T ro f) (hT : T < 1000000) : Same T ro f (fun f => fX7_falseOnes f) (fun f => fX8_falseOnes f) := by
  have hP := h.rr.ok.2.1
  generalize hgg : f 149 = g
  have hB : BK ro T g := by rw [← hgg]; exact h.bk
  have hcb : CB f 20 g := by rw [← hgg]; exact h.cb
  have hg : ∀ i, i ≤ 24 → gen ro.fm (elB g i) := fun i hi m w q => by
    obtain ⟨s, s1, s2, s3, s4⟩ := elB_t.mp q
    obtain ⟨-, -, a2', -, -, a4', -⟩ := VB_two hB.1 hP hT (show s < 24 by omega) s2
    rw [← s3, ← s4]; exact ⟨a2', a4'⟩
  have hw8 : ∀ m w, elB g 24 m w = true → w < 8 := fun m w q => by
    obtain ⟨s, s1, s2, s3, s4⟩ := elB_t.mp q
    have := VB_two hB.1 hP hT s1 s2
    omega
  obtain ⟨f2, c1, c2, c3⟩ := co_link hB.1 hT h.rr hcb
  obtain ⟨c, k1, k2, ⟨x, x1, x2, x3⟩, k4⟩ := co_least hw8 c3
  have s02 : Sc f f2 := Sc.co (fun j _ j2 => c2 j (by omega))
  have h2 := R_sc s02 h
  have g2 : f2 149 = g := by rw [c2 149 (by decide)]; exact hgg
  have hV : stA f2 158 (f2 149) 158 = g := by rw [sA_s]; exact g2
  obtain ⟨f3, m1, m2, m3⟩ := fo_init (f0 := stA f2 158 (f2 149)) 256 0 FU (stA f2 158 (f2 149)) rfl (by decide) (fun _ _ => rfl) (fun x hx => absurd hx (Nat.not_lt_zero x))
  have hE0 : ∀ M, Mat (elB g 0) M → M = [] := fun M hM => by
    cases M with
    | nil => rfl
    | cons p M => exact absurd (hM.1 p List.mem_cons_self).2.2 (fun q => by cases (show false = true from q))
  have lns := fo_lines' (f0 := stA f2 158 (f2 149)) hB.1 hP hT hV hg 24 0 FU f3 (fun x => if x = 0 then 1 else 0) rfl (by decide) m2 m3 (fun x hx => by
    by_cases z : x = 0
    · right; exact ⟨[], ⟨fun p hp => (by cases hp), List.Pairwise.nil⟩, z.symm, by show (if x = 0 then 1 else 0) = _; rw [if_pos z]; rfl⟩
    · left; exact if_neg z) (fun M hM => by rw [hE0 M hM]; decide)
  obtain ⟨v, f4, v1, v2, v3, ⟨M, v4, v5⟩, v6⟩ := lns
  have hcv : c = v := by
    apply Nat.le_antisymm
    · obtain ⟨S, M2, q1, q2⟩ := konig (eE (elB g 24) + 1) (elB g 24) (Nat.lt_succ_self _)
      have hx : ∃ y, y < 256 ∧ ∀ p, p < 8 → y.testBit p = (!S p || nb (elB g 24) S p) := by
        have mk : ∀ (X : Nat → Bool) (n : Nat), ∃ y, y < 2 ^ n ∧ ∀ p, p < n → y.testBit p = X p := by
          intro X n
          induction n with
          | zero => exact ⟨0, by decide, fun p hp => absurd hp (Nat.not_lt_zero p)⟩
          | succ n ih =>
            obtain ⟨y, y1, y2⟩ := ih
            cases hX : X n with
            | false =>
              refine ⟨y, Nat.lt_of_lt_of_le y1 (Nat.pow_le_pow_right (by decide) (Nat.le_succ n)), fun p hp => ?_⟩
              by_cases z : p = n
              · rw [z, hX]; exact Nat.testBit_lt_two_pow y1
              · exact y2 p (by omega)
            | true =>
              refine ⟨y ||| 2 ^ n, Nat.or_lt_two_pow (Nat.lt_of_lt_of_le y1 (Nat.pow_le_pow_right (by decide) (Nat.le_succ n))) (Nat.pow_lt_pow_right (by decide) (Nat.lt_succ_self n)), fun p hp => ?_⟩
              rw [Nat.testBit_or, Nat.testBit_two_pow]
              by_cases z : p = n
              · rw [z, hX]; simp
              · rw [y2 p (by omega), decide_eq_false (fun q => z q.symm), Bool.or_false]
        exact mk _ 8
      obtain ⟨y, y1, y2⟩ := hx
      have hcov : cvr (elB g 24) y := fun m w hm hw e => by
        cases z : S m with
        | false => left; rw [y2 m hm, z]; rfl
        | true => right; rw [y2 w hw, nb_iff.mpr ⟨m, hm, z, e⟩, Bool.or_true]
      have l1 := k4 y y1 hcov
      have l2 : cnt (fun p => y.testBit p) 8 ≤ cn r8 (fun x => !S x) + cn r8 (nb (elB g 24) S) := by
        rw [cnt_cn, cn_eq (p := fun p => y.testBit p) (q := fun p => !S p || nb (elB g 24) S p) (fun p hp => y2 p (r8_mem.mp hp))]
        have := cn_or r8 (fun x => !S x) (nb (elB g 24) S)
        omega
      have l3 := v6 M2 q1
      omega
    · rw [← v5, ← x3]
      refine weak (hg 24 (Nat.le_refl _)) M _ v4 (fun p hp => ?_)
      have := v4.1 p hp
      exact x2 p.1 p.2 this.1 this.2.1 this.2.2
  have e4 : ∀ j, j ≠ 158 → j ≠ 159 → j ≠ 160 → j ≠ 161 → f4 j = f2 j := fun j j1 _ _ j4 => by rw [v3 j j4, sA_n j1]
  refine ⟨nI (cnt (vtw g) 24) - nI v, f2, f4, ?_, s02, ?_, Sc_158 h2 e4 (fun i hi => by rw [v3 158 (by decide), hV]; exact hB.2.2 i hi)⟩
  · show fX7_falseOnes f = _
    unfold fX7_falseOnes fX2_mostLinesApart
    rw [co_twos hB.1 hcb, b1s, c1, b1s, k1, b2s, hcv]
  · show fX8_falseOnes f2 = _
    unfold fX8_falseOnes
    rw [h2.as, b1s]
    rw [show fX8_falseOnes_8 FU (stA f2 158 (f2 149)) 0 0 = _ from m1]
    exact v2
