/-! the law's step, and all of it -/
theorem ite1 {α : Type} {c : Prop} [Decidable c] {a b v : α} (h1 : c → a = v) (h2 : ¬ c → b = v) : (if c then a else b) = v := by
  by_cases h : c
  · rw [if_pos h]; exact h1 h
  · rw [if_neg h]; exact h2 h
theorem act2 {Q : hF → Prop} {f : hF} {A B : hF → Option (Int32 × hF)} {K : hF → Option Int32} (h : Act2 Q f A B) (hK : ∀ f3, Q f3 → K f3 = some 1) : (b2 (A f) fun r f2 => b2 (B f2) fun q f3 => if r = q then K f3 else some 0) = some 1 := by
  obtain ⟨r, f2, f3, h1, h2, h3⟩ := h
  rw [h1, b2s, h2, b2s, if_pos rfl]
  exact hK f3 h3
theorem act1 {Q : hF → Prop} {f : hF} {o : hF → Option Int32} {B : hF → Option (Int32 × hF)} {K : hF → Option Int32} (h : Act2 Q f (fun f => b1 (o f) fun r => some (r, f)) B) (hK : ∀ f3, Q f3 → K f3 = some 1) : (b1 (o f) fun r => b2 (B f) fun q f3 => if r = q then K f3 else some 0) = some 1 := by
  obtain ⟨r, f2, f3, h1, h2, h3⟩ := h
  cases q : o f with
  | none =>
    have h1' : b1 (o f) (fun r => some (r, f)) = some (r, f2) := h1
    rw [q] at h1'; cases h1'
  | some v =>
    have h1' : b1 (o f) (fun r => some (r, f)) = some (r, f2) := h1
    rw [q] at h1'
    cases h1'
    rw [b1s, h2, b2s, if_pos rfl]
    exact hK f3 h3
theorem law_loop (xs : Nat → Int32) (L : Nat) (hL : L ≤ 2560) : ∀ (s t n : Nat) (f : hF) (ro : RO), t + s = 513 → s ≤ n → 1 ≤ n → R (30 * t) ro f → fL_law_18 xs L n f (nI (5 * t)) = some 1 := by
  intro s
  induction s with
  | zero =>
    intro t n f ro ht hn hn1 hR
    obtain ⟨n, rfl⟩ : ∃ k, n = k + 1 := ⟨n - 1, by omega⟩
    rw [fL_law_18]
    refine if_pos ?_
    by_cases q : 5 ≤ L
    · rw [oN, show nI L - 5 = nI (L - 5) from nsub (b := 5) q]
      exact (nI_ltI (by omega) (by omega)).mpr (by omega)
    · refine Int32.lt_of_lt_of_le ?_ (nI_pos' (show 5 * t < 2147483648 by omega))
      rcases (show L = 0 ∨ L = 1 ∨ L = 2 ∨ L = 3 ∨ L = 4 by omega) with rfl | rfl | rfl | rfl | rfl <;> decide
  | succ s ih =>
    intro t n f ro ht hn hn1 hR
    obtain ⟨n, rfl⟩ : ∃ k, n = k + 1 := ⟨n - 1, by omega⟩
    rw [fL_law_18]
    by_cases q : L < 5 * t + 5
    · refine if_pos ?_
      by_cases q5 : 5 ≤ L
      · rw [oN, show nI L - 5 = nI (L - 5) from nsub (b := 5) q5]
        exact (nI_ltI (by omega) (by omega)).mpr (by omega)
      · refine Int32.lt_of_lt_of_le ?_ (nI_pos' (show 5 * t < 2147483648 by omega))
        rcases (show L = 0 ∨ L = 1 ∨ L = 2 ∨ L = 3 ∨ L = 4 by omega) with rfl | rfl | rfl | rfl | rfl <;> decide
    · rw [if_neg (show ¬ (Int32.ofNat L - 5 < nI (5 * t)) from fun z => by
        rw [oN, show nI L - 5 = nI (L - 5) from nsub (b := 5) (by omega)] at z
        have := (nI_ltI (by omega) (by omega)).mp z
        omega)]
      have hg0 : ∀ {α : Type} (k : Option α), gd (nI (5 * t)) L k = k := fun k => gdk (by omega) (by omega)
      have hg1 : ∀ {α : Type} (k : Option α), gd (nI (5 * t) + 1) L k = k := fun k => by rw [show nI (5 * t) + 1 = nI (5 * t + 1) from nadd _ 1]; exact gdk (by omega) (by omega)
      have hg2 : ∀ {α : Type} (k : Option α), gd (nI (5 * t) + 2) L k = k := fun k => by rw [show nI (5 * t) + 2 = nI (5 * t + 2) from nadd _ 2]; exact gdk (by omega) (by omega)
      have hg3 : ∀ {α : Type} (k : Option α), gd (nI (5 * t) + 3) L k = k := fun k => by rw [show nI (5 * t) + 3 = nI (5 * t + 3) from nadd _ 3]; exact gdk (by omega) (by omega)
      have hg4 : ∀ {α : Type} (k : Option α), gd (nI (5 * t) + 4) L k = k := fun k => by rw [show nI (5 * t) + 4 = nI (5 * t + 4) from nadd _ 4]; exact gdk (by omega) (by omega)
      have hT : 30 * t < 1000000 := by omega
      have hK : ∀ ro f3, R (30 * t) ro f3 → fL_law_18 xs L n f3 (nI (5 * t) + 5) = some 1 := fun ro f3 h3 => by
        rw [show nI (5 * t) + 5 = nI (5 * (t + 1)) from nadd _ 5]
        exact ih (t + 1) n f3 ro (by omega) (by omega) (by omega) (R_mono (by omega) h3)
      have hK1 : ∀ f3, R (30 * t) ro f3 → fL_law_18 xs L n f3 (nI (5 * t) + 5) = some 1 := fun f3 => hK ro f3
      have hKp : ∀ f3, R (30 * t + 30) ro f3 → fL_law_18 xs L n f3 (nI (5 * t) + 5) = some 1 := fun f3 h3 => by
        rw [show nI (5 * t) + 5 = nI (5 * (t + 1)) from nadd _ 5]
        exact ih (t + 1) n f3 ro (by omega) (by omega) (by omega) (R_mono (by omega) h3)
      unfold fL_law_700 fL_law_732
      simp only [hg0, hg1, hg2, hg3, hg4]
      refine ite1 (fun _ => act2 (write_step hR _) hK1) (fun _ => ?_)
      refine ite1 (fun _ => act2 (wipe_step hR) hK1) (fun _ => ?_)
      refine ite1 (fun _ => act2 ((fault_same hR).stp hR) hK1) (fun _ => ?_)
      refine ite1 (fun _ => act2 (lay_step hR) (fun f3 ⟨ro2, h3⟩ => hK ro2 f3 h3)) (fun _ => ?_)
      refine ite1 (fun _ => act2 ((person_same hR hT _ _).stp hR) hK1) (fun _ => ?_)
      refine ite1 (fun _ => act1 (o := fun f => fX7_parson f _ _) ((parson_same hR hT _ _).stp hR) hK1) (fun _ => ?_)
      refine ite1 (fun _ => act2 ((line_same hR hT _ _ _).stp hR) hK1) (fun _ => ?_)
      refine ite1 (fun _ => act2 (wed_step hR hT _ _ _) hK1) (fun _ => ?_)
      refine ite1 (fun _ => act2 (leave_step hR hT _) hK1) (fun _ => ?_)
      refine ite1 (fun _ => act2 (fill_step hR hT _ _ _ _) hK1) (fun _ => ?_)
      refine ite1 (fun _ => act2 (strike_step hR hT _ _) hK1) (fun _ => ?_)
      refine ite1 (fun _ => act2 (pass_step hR hT _) hKp) (fun _ => ?_)
      refine ite1 (fun _ => act2 (undo_step hR) hK1) (fun _ => ?_)
      refine ite1 (fun _ => act2 ((mate_same' hR hT _ _).stp hR) hK1) (fun _ => ?_)
      refine ite1 (fun _ => act1 (o := fun f => fX7_twice f) ((twice_same' hR hT).stp hR) hK1) (fun _ => ?_)
      refine ite1 (fun _ => act2 ((falseOnes_same hR hT).stp hR) hK1) (fun _ => ?_)
      refine ite1 (fun _ => act1 (o := fun f => fX7_date f _ _ _) ((date_same hR hT _ _ _).stp hR) hK1) (fun _ => ?_)
      refine ite1 (fun _ => act2 ((look_same hR hT _).stp hR) hK1) (fun _ => ?_)
      refine ite1 (fun _ => act1 (o := fun f => fX7_can f _) ((can_same hR hT _).stp hR) hK1) (fun _ => ?_)
      refine ite1 (fun _ => ?_) (fun _ => ?_)
      · refine ite1 (fun h4 => ?_) (fun h4 => ?_)
        · simp only [if_pos h4]
          exact act2 (see_step hR _ _ _ false) hK1
        · simp only [if_neg h4]
          exact act2 (see_step hR _ _ _ true) hK1
      refine ite1 (fun _ => act2 (forget_step hR) hK1) (fun _ => ?_)
      refine ite1 (fun _ => act2 ((trueBy_same hR hT _).stp hR) hK1) (fun _ => ?_)
      refine ite1 (fun _ => act1 (o := fun f => fX7_hand f _ _) ((hand_same hR hT _ _).stp hR) hK1) (fun _ => ?_)
      refine ite1 (fun _ => act2 ((child_same hR hT _ _).stp hR) hK1) (fun _ => ?_)
      refine ite1 (fun _ => act2 ((touts_same hR hT _ _ _).stp hR) hK1) (fun _ => ?_)
      refine ite1 (fun _ => act2 ((gaol_same hR (by omega) _ _ _).stp hR) hK1) (fun _ => ?_)
      refine ite1 (fun _ => act2 (keep_step hR) hK1) (fun _ => ?_)
      refine ite1 (fun _ => act2 (back_step hR) hK1) (fun _ => ?_)
      refine ite1 (fun _ => act2 ((count_same hR hT _).stp hR) hK1) (fun _ => ?_)
      exact hK ro f hR
theorem law_pure_ok : LawPure := by
  intro xs L hL
  obtain ⟨g1, g2, h1, h2, h3, h4⟩ := init_ok
  exact ⟨g1, g2, h1, h2, h3, law_loop xs L hL 513 0 FU g2 dI.1 rfl (by decide) (by decide) h4⟩
