/-! the reference's book: what its small questions answer -/
theorem mo_there {P T : Nat} {fm : Nat → Bool} {f : hF} (h : VB P T fm (f 158)) {s : Nat} (hs : s < 24) : fX8_isThere f (nI s) = some (bI (vth (f 158) s)) := by
  have hl := VB_ln h (p := s / 8) (by omega)
  unfold fX8_isThere vth
  simp (disch := omega) only [L0, L1, L2, L3, L4, L5, L6, L7, L8, L9, L10, L12, L15, L16, L20, L24, L30, L31, L32, L40, L44, L48, L50, L57, L59, L60, L64, L99, L100, L108, L109, L111, L112, L119, L126, L200, L222, L255, L256, L888, L999, L9999, gdk, ncl, nleq, nltq, neqq, neg1q, neg2q, neg3q, neg4q, neg1q', neg4q', nadd, nmul, nrem, ndiv, b1s, b2s, lte, bI0, bI1, bI_nr, bI_nar, nr0, nr1, nar0, nar1]
  rw [hl.1, nsub (show s / 8 * 8 ≤ s by omega), show s - s / 8 * 8 = s % 8 by omega]
  by_cases q : vln (f 158) (s / 8) ≤ s % 8
  · rw [if_pos ((nI_leI (by omega) (by omega)).mpr q), decide_eq_false (by omega)]; rfl
  · rw [if_neg (fun z => q ((nI_leI (by omega) (by omega)).mp z)), decide_eq_true (by omega)]; rfl
theorem mo_beg {f : hF} {s : Nat} (hs : s < 24) : fX8_begun f (nI s) = some (f 158 (15 + 4 * s)) := by
  unfold fX8_begun
  simp (disch := omega) only [L0, L1, L2, L3, L4, L5, L6, L7, L8, L9, L10, L12, L15, L16, L20, L24, L30, L31, L32, L40, L44, L48, L50, L57, L59, L60, L64, L99, L100, L108, L109, L111, L112, L119, L126, L200, L222, L255, L256, L888, L999, L9999, gdk, ncl, nleq, nltq, neqq, neg1q, neg2q, neg3q, neg4q, neg1q', neg4q', nadd, nmul, nrem, ndiv, b1s, b2s, lte, bI0, bI1, bI_nr, bI_nar, nr0, nr1, nar0, nar1]
theorem mo_man {f : hF} {s : Nat} (hs : s < 24) : fX8_manOf f (nI s) = some (f 158 (16 + 4 * s)) := by
  unfold fX8_manOf
  simp (disch := omega) only [L0, L1, L2, L3, L4, L5, L6, L7, L8, L9, L10, L12, L15, L16, L20, L24, L30, L31, L32, L40, L44, L48, L50, L57, L59, L60, L64, L99, L100, L108, L109, L111, L112, L119, L126, L200, L222, L255, L256, L888, L999, L9999, gdk, ncl, nleq, nltq, neqq, neg1q, neg2q, neg3q, neg4q, neg1q', neg4q', nadd, nmul, nrem, ndiv, b1s, b2s, lte, bI0, bI1, bI_nr, bI_nar, nr0, nr1, nar0, nar1]
  rw [show 15 + 4 * s + 1 = 16 + 4 * s by omega]
theorem mo_woman {f : hF} {s : Nat} (hs : s < 24) : fX8_womanOf f (nI s) = some (f 158 (17 + 4 * s)) := by
  unfold fX8_womanOf
  simp (disch := omega) only [L0, L1, L2, L3, L4, L5, L6, L7, L8, L9, L10, L12, L15, L16, L20, L24, L30, L31, L32, L40, L44, L48, L50, L57, L59, L60, L64, L99, L100, L108, L109, L111, L112, L119, L126, L200, L222, L255, L256, L888, L999, L9999, gdk, ncl, nleq, nltq, neqq, neg1q, neg2q, neg3q, neg4q, neg1q', neg4q', nadd, nmul, nrem, ndiv, b1s, b2s, lte, bI0, bI1, bI_nr, bI_nar, nr0, nr1, nar0, nar1]
  rw [show 15 + 4 * s + 2 = 17 + 4 * s by omega]
theorem mo_two {P T : Nat} {fm : Nat → Bool} {f : hF} (h : VB P T fm (f 158)) {s : Nat} (hs : s < 24) : fX8_isOfTwo f (nI s) = some (bI (vtw (f 158) s)) := by
  unfold fX8_isOfTwo vtw
  rw [mo_there h hs, b1s]
  cases hv : vth (f 158) s with
  | false => rfl
  | true =>
    rw [if_neg (show ¬ bI true = 0 by decide), mo_man hs, b1s, Bool.true_and]
    by_cases q : (0 : Int32) ≤ f 158 (16 + 4 * s)
    · rw [if_neg (Int32.not_lt.mpr q), decide_eq_true q]; rfl
    · rw [if_pos (Int32.not_le.mp q), decide_eq_false q]; rfl
/-- nextLine's loop: a is the first of the lines before i of two that are not gone through -/
def nlI (f : hF) (i : Nat) (a : Int32) : Prop :=
  (a = -1 ∧ ∀ t, t < i → vtw (f 158) t = true → f 160 t ≠ 0) ∨
  ∃ k, k < i ∧ a = nI k ∧ vtw (f 158) k = true ∧ f 160 k = 0 ∧ ∀ t, t < i → vtw (f 158) t = true → f 160 t = 0 → t ≠ k → prec (vbg (f 158)) k t
theorem nlI_skip {f : hF} {i : Nat} {a : Int32} (hI : nlI f i a) (hs : vtw (f 158) i = true → f 160 i ≠ 0) : nlI f (i + 1) a := by
  rcases hI with ⟨ha, hb⟩ | ⟨k, hk, ha, h1, h2, h3⟩
  · refine Or.inl ⟨ha, fun t ht htw => ?_⟩
    by_cases e : t = i
    · subst e; exact hs htw
    · exact hb t (by omega) htw
  · refine Or.inr ⟨k, by omega, ha, h1, h2, fun t ht htw h0 hne => ?_⟩
    by_cases e : t = i
    · subst e; exact absurd h0 (hs htw)
    · exact h3 t (by omega) htw h0 hne
theorem next_loop {P T : Nat} {fm : Nat → Bool} {f : hF} (h : VB P T fm (f 158)) (hT : T < 1000000) : ∀ (r i : Nat) (a : Int32) (n : Nat), i + r = 24 → r < n → nlI f i a → ∃ b, fX8_nextLine_4 f n a (nI i) = some b ∧ nlI f 24 b := by
  intro r
  induction r with
  | zero =>
    intro i a n hr hn hI
    obtain ⟨m, rfl⟩ : ∃ m, n = m + 1 := ⟨n - 1, by omega⟩
    obtain rfl : i = 24 := by omega
    refine ⟨a, ?_, hI⟩
    rw [fX8_nextLine_4, if_pos (by decide)]
  | succ r ih =>
    intro i a n hr hn hI
    obtain ⟨m, rfl⟩ : ∃ m, n = m + 1 := ⟨n - 1, by omega⟩
    have hi : i < 24 := by omega
    have e1 : ∀ b, nlI f (i + 1) b → ∃ c, fX8_nextLine_4 f m b (nI i + 1) = some c ∧ nlI f 24 c := fun b hb => by
      rw [show nI i + 1 = nI (i + 1) from nadd i 1]
      exact ih (i + 1) b m (by omega) (by omega) hb
    rw [fX8_nextLine_4, if_neg (show ¬ (24 : Int32) ≤ nI i by rw [L24, nleq (by omega) (by omega)]; omega), mo_two h hi, b1s]
    cases hv : vtw (f 158) i with
    | false =>
      rw [if_pos (show bI false = 0 from rfl)]
      exact e1 a (nlI_skip hI (fun q => by rw [hv] at q; cases q))
    | true =>
      rw [if_neg (show ¬ bI true = 0 by decide), gdk (by omega) (by omega), ncl (by omega)]
      by_cases h0 : f 160 i = 0
      · rw [if_pos h0]
        rcases hI with ⟨ha, hb⟩ | ⟨k, hk, ha, h1, h2, h3⟩
        · rw [ha, if_pos (by decide)]
          exact e1 (nI i) (Or.inr ⟨i, by omega, rfl, hv, h0, fun t ht htw ht0 hne => absurd ht0 (hb t (by omega) htw)⟩)
        · have b1 := (VB_bg h hT hi (vtw_th hv).1)
          have b2 := (VB_bg h hT (show k < 24 by omega) (vtw_th h1).1)
          rw [ha, if_neg (nI_pos (by omega)), mo_beg hi, b1s, mo_beg (show k < 24 by omega), b1s, b1.1, b2.1]
          by_cases q : vbg (f 158) k ≤ vbg (f 158) i
          · rw [if_pos ((nI_leI (by omega) (by omega)).mpr q)]
            refine e1 (nI k) (Or.inr ⟨k, by omega, rfl, h1, h2, fun t ht htw ht0 hne => ?_⟩)
            by_cases e : t = i
            · subst e; unfold prec; omega
            · exact h3 t (by omega) htw ht0 hne
          · rw [if_neg (fun z => q ((nI_leI (by omega) (by omega)).mp z))]
            have hp : prec (vbg (f 158)) i k := Or.inl (by omega)
            refine e1 (nI i) (Or.inr ⟨i, by omega, rfl, hv, h0, fun t ht htw ht0 hne => ?_⟩)
            by_cases e : t = k
            · subst e; exact hp
            · exact prec_trans hp (h3 t (by omega) htw ht0 e)
      · rw [if_neg h0]
        exact e1 a (nlI_skip hI (fun _ => h0))
theorem mo_next {P T : Nat} {fm : Nat → Bool} {f : hF} (h : VB P T fm (f 158)) (hT : T < 1000000) : ∃ b, fX8_nextLine f = some b ∧ nlI f 24 b :=
  next_loop h hT 24 0 (-1) FU rfl (by decide) (Or.inl ⟨rfl, fun t ht => absurd ht (Nat.not_lt_zero t)⟩)
