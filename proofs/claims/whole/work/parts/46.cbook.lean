/-! a book as the component holds it, at node bk; its small questions -/
def CB (f : hF) (bk : Nat) (g : Nat → Int32) : Prop :=
  f bk 0 = g 0 ∧ (∀ p, p < 8 → f (bk+1) p = g (1 + p)) ∧ (∀ p, p < 3 → f (bk+2) p = g (9 + p)) ∧ (∀ p, p < 3 → f (bk+3) p = g (12 + p)) ∧
  ∀ s, s < 24 → vth g s = true → f (bk+5) s = g (15 + 4 * s) ∧ (g (16 + 4 * s) = -1 ∧ f (bk+4) s = 0 ∨ g (16 + 4 * s) = -2 ∧ f (bk+4) s = 2 ∨ 0 ≤ g (16 + 4 * s) ∧ f (bk+4) s = 1 ∧ f (bk+6) s = g (16 + 4 * s) ∧ f (bk+7) s = g (17 + 4 * s) ∧ f (bk+8) s = g (18 + 4 * s))
theorem co_line {P T : Nat} {fm : Nat → Bool} {g : Nat → Int32} {f : hF} {bk : Nat} (h : VB P T fm g) (hc : CB f bk g) {s : Nat} (hs : s < 24) : fX0_isLine bk f (nI s) = some (bI (vth g s)) := by
  have hl := VB_ln h (p := s / 8) (by omega)
  have h3 := hc.2.2.2.1 (s / 8) (by omega)
  unfold fX0_isLine vth
  rw [if_neg (nI_pos (by omega)), if_neg (show ¬ (24 : Int32) ≤ nI s by rw [L24, nleq (by omega) (by omega)]; omega)]
  simp (disch := omega) only [L0, L1, L2, L3, L4, L5, L6, L7, L8, L9, L10, L12, L15, L16, L20, L24, L30, L31, L32, L40, L44, L48, L50, L57, L59, L60, L64, L99, L100, L108, L109, L111, L112, L119, L126, L200, L222, L255, L256, L888, L999, L9999, gdk, ncl, nleq, nltq, neqq, neg1q, neg2q, neg3q, neg4q, neg1q', neg4q', nadd, nmul, nrem, ndiv, b1s, b2s, lte, bI0, bI1, bI_nr, bI_nar, nr0, nr1, nar0, nar1]
  rw [h3, hl.1, nsub (show s / 8 * 8 ≤ s by omega), show s - s / 8 * 8 = s % 8 by omega]
  by_cases q : vln g (s / 8) ≤ s % 8
  · rw [if_pos ((nI_leI (by omega) (by omega)).mpr q), decide_eq_false (by omega)]; rfl
  · rw [if_neg (fun z => q ((nI_leI (by omega) (by omega)).mp z)), decide_eq_true (by omega)]; rfl
theorem CB_two {f : hF} {bk : Nat} {g : Nat → Int32} (hc : CB f bk g) {s : Nat} (hs : s < 24) (hv : vth g s = true) : f (bk+4) s = 1 ↔ vtw g s = true := by
  unfold vtw
  rw [hv, Bool.true_and, decide_eq_true_iff]
  rcases (hc.2.2.2.2 s hs hv).2 with ⟨a, b⟩ | ⟨a, b⟩ | ⟨a, b, -⟩
  · rw [a, b]; decide
  · rw [a, b]; decide
  · exact ⟨fun _ => a, fun _ => b⟩
theorem co_two {P T : Nat} {fm : Nat → Bool} {g : Nat → Int32} {f : hF} {bk : Nat} (h : VB P T fm g) (hc : CB f bk g) {s : Nat} (hs : s < 24) : fX0_isOfTwo bk f (nI s) = some (bI (vtw g s)) := by
  unfold fX0_isOfTwo
  rw [co_line h hc hs, b1s]
  cases hv : vth g s with
  | false =>
    have : vtw g s = false := by unfold vtw; rw [hv]; rfl
    rw [this]; rfl
  | true =>
    rw [if_neg (show ¬ bI true = 0 by decide), gdk hs (by omega), ncl (by omega)]
    have e := CB_two hc hs hv
    cases q : vtw g s with
    | true => rw [if_pos (e.mpr q)]; rfl
    | false => rw [if_neg (fun z => by rw [e.mp z] at q; cases q)]; rfl
theorem co_slot {P T : Nat} {fm : Nat → Bool} {g : Nat → Int32} {f : hF} {bk : Nat} (h : VB P T fm g) (hc : CB f bk g) {p l : Nat} (hp : p < 3) (hl : l ≤ 8) : fX0_slotOf bk f (nI p) (nI l) = some (if l < vln g p then nI (8 * p + l) else -1) := by
  have hn := VB_ln h hp
  have h3 := hc.2.2.2.1 p hp
  unfold fX0_slotOf
  rw [if_neg (nI_pos (by omega)), if_neg (show ¬ (3 : Int32) ≤ nI p by rw [L3, nleq (by omega) (by omega)]; omega), if_neg (nI_pos (by omega))]
  by_cases q : l = 8
  · rw [if_pos (show (8 : Int32) ≤ nI l by rw [L8, nleq (by omega) (by omega)]; omega), if_neg (by omega)]
  · rw [if_neg (show ¬ (8 : Int32) ≤ nI l by rw [L8, nleq (by omega) (by omega)]; omega), gdk hp (by omega), ncl (by omega), h3, hn.1]
    by_cases z : vln g p ≤ l
    · rw [if_pos ((nI_leI (by omega) (by omega)).mpr z), if_neg (by omega)]
    · rw [if_neg (fun y => z ((nI_leI (by omega) (by omega)).mp y)), if_pos (by omega), L8, nmul, nadd, Nat.mul_comm]
/-- the earliest of the next lines of each book -/
def teI (g : Nat → Int32) (nx : Nat → Nat) (i : Nat) (a : Int32) : Prop :=
  (a = -1 ∧ ∀ q, q < i → vln g q ≤ nx q) ∨
  ∃ p, p < i ∧ nx p < vln g p ∧ a = nI (8 * p + nx p) ∧ ∀ q, q < i → nx q < vln g q → q ≠ p → prec (vbg g) (8 * p + nx p) (8 * q + nx q)
theorem vth_nx {P T : Nat} {fm : Nat → Bool} {g : Nat → Int32} (h : VB P T fm g) {p l : Nat} (hp : p < 3) (hl : l < vln g p) : 8 * p + l < 24 ∧ vth g (8 * p + l) = true := by
  have hn := (VB_ln h hp).2
  refine ⟨by omega, ?_⟩
  unfold vth
  rw [show (8 * p + l) / 8 = p by omega, show (8 * p + l) % 8 = l by omega]
  exact decide_eq_true hl
def teA (k : Nat) (f : hF) (nx : Nat → Nat) (a : Int32) (g : Nat → Int32) (o : Option (Int32 × hF)) : Prop :=
  ((∀ q, q < 3 → vln g q ≤ nx q) ∧ o = some (-1, f)) ∨
  ∃ p, p < 3 ∧ nx p < vln g p ∧ (∀ q, q < 3 → nx q < vln g q → q ≠ p → prec (vbg g) (8 * p + nx p) (8 * q + nx q)) ∧ o = some (nI (8 * p + nx p), st2 f (k+2) p (nI (nx p + 1)))
theorem te_loop {P T : Nat} {fm : Nat → Bool} {g : Nat → Int32} {f : hF} {k bk : Nat} {nx : Nat → Nat} (h : VB P T fm g) (hT : T < 1000000) (hc : CB f bk g) (hx : ∀ p, p < 3 → f (k+2) p = nI (nx p) ∧ nx p ≤ 8) :
    ∀ (r i : Nat) (a : Int32) (n : Nat), i + r = 3 → r < n → teI g nx i a → teA k f nx a g (fX1_takeEarliest_4 k bk n f a (nI i)) := by
  intro r
  induction r with
  | zero =>
    intro i a n hr hn hI
    obtain ⟨m, rfl⟩ : ∃ m, n = m + 1 := ⟨n - 1, by omega⟩
    obtain rfl : i = 3 := by omega
    rw [fX1_takeEarliest_4, if_pos (by decide)]
    rcases hI with ⟨ha, hb⟩ | ⟨p, hp, h1, ha, h2⟩
    · rw [if_pos ha, ha]
      exact Or.inl ⟨hb, rfl⟩
    · have h8 := (hx p hp).2
      have e : nI (8 * p + nx p) / 8 = nI p := by rw [L8, ndiv (by omega) (by omega) (by omega), show (8 * p + nx p) / 8 = p by have := (VB_ln h hp).2; omega]
      rw [ha, if_neg (show ¬ nI (8 * p + nx p) = -1 by rw [neg1q (by omega)]; exact id), e, gdk hp (by omega), gdk hp (by omega), lte, ncl (by omega), (hx p hp).1, show nI (nx p) + 1 = nI (nx p + 1) from nadd _ 1]
      exact Or.inr ⟨p, hp, h1, h2, rfl⟩
  | succ r ih =>
    intro i a n hr hn hI
    obtain ⟨m, rfl⟩ : ∃ m, n = m + 1 := ⟨n - 1, by omega⟩
    have hi : i < 3 := by omega
    rw [fX1_takeEarliest_4, if_neg (show ¬ (3 : Int32) ≤ nI i by rw [L3, nleq (by omega) (by omega)]; omega), gdk hi (by omega), ncl (by omega), (hx i hi).1, co_slot h hc hi (hx i hi).2, b1s]
    have e1 : ∀ b, teI g nx (i + 1) b → teA k f nx b g (fX1_takeEarliest_4 k bk m f b (nI i + 1)) := fun b hb => by
      rw [show nI i + 1 = nI (i + 1) from nadd i 1]
      exact ih (i + 1) b m (by omega) (by omega) hb
    by_cases z : nx i < vln g i
    · obtain ⟨v1, v2⟩ := vth_nx h hi z
      rw [if_pos z, if_neg (show ¬ nI (8 * i + nx i) = -1 by rw [neg1q (by omega)]; exact id)]
      rcases hI with ⟨ha, hb⟩ | ⟨p, hp, h1, ha, h2⟩
      · rw [if_pos ha]
        refine e1 _ (Or.inr ⟨i, by omega, z, rfl, fun q hq h3 hne => ?_⟩)
        have := hb q (by omega)
        omega
      · obtain ⟨w1, w2⟩ := vth_nx h (show p < 3 by omega) h1
        have b1 := VB_bg h hT v1 v2
        have b2 := VB_bg h hT w1 w2
        rw [ha, if_neg (show ¬ nI (8 * p + nx p) = -1 by rw [neg1q (by omega)]; exact id), gdk v1 (by omega), gdk w1 (by omega), ncl (by omega), ncl (by omega), (hc.2.2.2.2 _ v1 v2).1, (hc.2.2.2.2 _ w1 w2).1, b1.1, b2.1]
        have h8 := (VB_ln h (show p < 3 by omega)).2
        by_cases q : vbg g (8 * p + nx p) ≤ vbg g (8 * i + nx i)
        · rw [if_pos ((nI_leI (by omega) (by omega)).mpr q)]
          refine e1 _ (Or.inr ⟨p, by omega, h1, rfl, fun t ht h3 hne => ?_⟩)
          by_cases e : t = i
          · subst e; unfold prec; omega
          · exact h2 t (by omega) h3 hne
        · rw [if_neg (fun y => q ((nI_leI (by omega) (by omega)).mp y))]
          have hpr : prec (vbg g) (8 * i + nx i) (8 * p + nx p) := Or.inl (by omega)
          refine e1 _ (Or.inr ⟨i, by omega, z, rfl, fun t ht h3 hne => ?_⟩)
          by_cases e : t = p
          · subst e; exact hpr
          · exact prec_trans hpr (h2 t (by omega) h3 e)
    · rw [if_neg z, if_pos rfl]
      refine e1 a ?_
      rcases hI with ⟨ha, hb⟩ | ⟨p, hp, h1, ha, h2⟩
      · refine Or.inl ⟨ha, fun q hq => ?_⟩
        by_cases e : q = i
        · subst e; omega
        · exact hb q (by omega)
      · refine Or.inr ⟨p, by omega, h1, ha, fun t ht h3 hne => ?_⟩
        by_cases e : t = i
        · subst e; exact absurd h3 z
        · exact h2 t (by omega) h3 hne
theorem co_take {P T : Nat} {fm : Nat → Bool} {g : Nat → Int32} {f : hF} {k bk : Nat} {nx : Nat → Nat} (h : VB P T fm g) (hT : T < 1000000) (hc : CB f bk g) (hx : ∀ p, p < 3 → f (k+2) p = nI (nx p) ∧ nx p ≤ 8) : teA k f nx (-1) g (fX1_takeEarliest k bk f) :=
  te_loop h hT hc hx 3 0 (-1) FU rfl (by decide) (Or.inl ⟨rfl, fun q hq => absurd hq (Nat.not_lt_zero q)⟩)
