/-! who is whose mate on a day -/
def MTi (g : Nat → Int32) (hd : Nat → Bool) (a d i : Nat) (r : Int32) : Prop :=
  (r = -4 ∧ ∀ t, t < i → hd t = true → vbg g t ≤ d → vmn g t ≠ a ∧ vwn g t ≠ a) ∨
  ∃ t, t < i ∧ hd t = true ∧ vbg g t ≤ d ∧ (vmn g t = a ∧ r = nI (vwn g t) ∨ vwn g t = a ∧ r = nI (vmn g t))
theorem MT_uniq {P T : Nat} {fm : Nat → Bool} {g : Nat → Int32} (h : VB P T fm g) (hP : P ≤ 8) (hT : T < 1000000) {hd : Nat → Bool} (hH : HS (vtw g) (vbg g) (vmn g) (vwn g) hd) {a d : Nat} {r q : Int32} (h1 : MTi g hd a d 24 r) (h2 : MTi g hd a d 24 q) : r = q := by
  have hw : ∀ t, t < 24 → hd t = true → _ := fun t ht e => VB_two h hP hT ht ((hH t ht).mp e).1
  rcases h1 with ⟨e1, n1⟩ | ⟨t, ht, a1, a2, a3⟩ <;> rcases h2 with ⟨e2, n2⟩ | ⟨s, hs, b1, b2, b3⟩
  · rw [e1, e2]
  · have := n1 s hs b1 b2
    rcases b3 with ⟨c, -⟩ | ⟨c, -⟩
    · exact absurd c this.1
    · exact absurd c this.2
  · have := n2 t ht a1 a2
    rcases a3 with ⟨c, -⟩ | ⟨c, -⟩
    · exact absurd c this.1
    · exact absurd c this.2
  · have w1 := hw t ht a1
    have w2 := hw s hs b1
    rcases a3 with ⟨c1, c2⟩ | ⟨c1, c2⟩ <;> rcases b3 with ⟨d1, d2⟩ | ⟨d1, d2⟩
    · by_cases e : t = s
      · rw [c2, d2, e]
      · exact absurd (Or.inl (c1.trans d1.symm)) (HS_apart hH ht hs a1 b1 e)
    · have z1 := w1.2.2.1
      have z2 := w2.2.2.2.2.2.1
      rw [c1] at z1; rw [d1, z1] at z2; cases z2
    · have z1 := w1.2.2.2.2.2.1
      have z2 := w2.2.2.1
      rw [c1] at z1; rw [d1, z1] at z2; cases z2
    · by_cases e : t = s
      · rw [c2, d2, e]
      · exact absurd (Or.inr (c1.trans d1.symm)) (HS_apart hH ht hs a1 b1 e)
theorem MTi_skip {g : Nat → Int32} {hd : Nat → Bool} {a d i : Nat} {r : Int32} (h : MTi g hd a d i r) (hs : hd i = true → vbg g i ≤ d → vmn g i ≠ a ∧ vwn g i ≠ a) : MTi g hd a d (i + 1) r := by
  rcases h with ⟨e, n⟩ | ⟨t, ht, h1⟩
  · refine Or.inl ⟨e, fun t ht q1 q2 => ?_⟩
    by_cases z : t = i
    · subst z; exact hs q1 q2
    · exact n t (by omega) q1 q2
  · exact Or.inr ⟨t, by omega, h1⟩
theorem mo_mateBy {P T : Nat} {fm : Nat → Bool} {f : hF} (h : VB P T fm (f 158)) (hP : P ≤ 8) (hT : T < 1000000) {hd : Nat → Bool} (hH : HS (vtw (f 158)) (vbg (f 158)) (vmn (f 158)) (vwn (f 158)) hd) (h9 : ∀ t, t < 24 → f 159 t = bI (hd t)) {a d : Nat} (ha : a < 8) (hd9 : d < 1000000) :
    ∃ r, fX8_mateBy f (nI a) (nI d) = some r ∧ MTi (f 158) hd a d 24 r := by
  have key : ∀ (r i n : Nat) (b : Int32), i + r = 24 → r < n → MTi (f 158) hd a d i b → ∃ q, fX8_mateBy_6 f (nI a) (nI d) n b (nI i) = some q ∧ MTi (f 158) hd a d 24 q := by
    intro r
    induction r with
    | zero =>
      intro i n b hr hn hI
      obtain ⟨m, rfl⟩ : ∃ m, n = m + 1 := ⟨n - 1, by omega⟩
      obtain rfl : i = 24 := by omega
      exact ⟨b, by rw [fX8_mateBy_6, if_pos (by decide)], hI⟩
    | succ r ih =>
      intro i n b hr hn hI
      obtain ⟨m, rfl⟩ : ∃ m, n = m + 1 := ⟨n - 1, by omega⟩
      have hi : i < 24 := by omega
      have e1 : ∀ c, MTi (f 158) hd a d (i + 1) c → ∃ q, fX8_mateBy_6 f (nI a) (nI d) m c (nI i + 1) = some q ∧ MTi (f 158) hd a d 24 q := fun c hc => by
        rw [show nI i + 1 = nI (i + 1) from nadd i 1]
        exact ih (i + 1) m c (by omega) (by omega) hc
      rw [fX8_mateBy_6, if_neg (show ¬ (24 : Int32) ≤ nI i by rw [L24, nleq (by omega) (by omega)]; omega), gdk hi (by omega), ncl (by omega), h9 i hi]
      cases q : hd i with
      | false =>
        rw [if_pos (show bI false = 0 from rfl)]
        exact e1 b (MTi_skip hI (fun z => by rw [q] at z; cases z))
      | true =>
        have htw := ((hH i hi).mp q).1
        obtain ⟨a1, a2, a2', a3, a4, a4', -⟩ := VB_two h hP hT hi htw
        have hb := VB_bg h hT hi (vtw_th htw).1
        rw [if_neg (show ¬ bI true = 0 by decide), mo_beg hi, b1s, hb.1]
        by_cases z : d < vbg (f 158) i
        · rw [if_pos (by rw [nltq (by omega) (by omega)]; exact z)]
          exact e1 b (MTi_skip hI (fun _ y => by omega))
        · rw [if_neg (by rw [nltq (by omega) (by omega)]; exact z)]
          unfold fX8_mateBy_38
          rw [if_neg (show ¬ (1 : Int32) = 0 by decide), mo_man hi, b1s, a1]
          by_cases y : vmn (f 158) i = a
          · rw [if_pos (by rw [y]), mo_woman hi, b1s, a3]
            exact e1 _ (Or.inr ⟨i, by omega, q, by omega, Or.inl ⟨y, rfl⟩⟩)
          · rw [if_neg (by rw [neqq (by omega) (by omega)]; exact y)]
            unfold fX8_mateBy_64
            rw [if_neg (show ¬ (1 : Int32) = 0 by decide), mo_woman hi, b1s, a3]
            by_cases x : vwn (f 158) i = a
            · rw [if_pos (by rw [x]), mo_man hi, b1s, a1]
              exact e1 _ (Or.inr ⟨i, by omega, q, by omega, Or.inr ⟨x, rfl⟩⟩)
            · rw [if_neg (by rw [neqq (by omega) (by omega)]; exact x)]
              exact e1 b (MTi_skip hI (fun _ _ => ⟨y, x⟩))
  exact key 24 0 FU (-4) rfl (by decide) (Or.inl ⟨rfl, fun t ht => absurd ht (Nat.not_lt_zero t)⟩)
theorem co_mateOf {P T : Nat} {fm : Nat → Bool} {g : Nat → Int32} (h : VB P T fm g) (hP : P ≤ 8) (hT : T < 1000000) {k bk : Nat} {f : hF} (hc : CB f bk g) {hd : Nat → Bool}
    (hH : HS (vtw g) (vbg g) (vmn g) (vwn g) hd) (hM : HM g hd (f (k+1))) {a d : Nat} (ha : a < 8) (hd9 : d < 1000000) : ∃ r, fX1_mateOf k bk f (nI a) (nI d) = some r ∧ MTi g hd a d 24 r := by
  unfold fX1_mateOf
  rw [row_ok ha, b1s, if_neg (show ¬ (1 : Int32) = 0 by decide), gdk ha (by omega), ncl (by omega)]
  rcases hM a ha with ⟨e, n⟩ | ⟨t, ht, h1, h2, h3⟩
  · refine ⟨-4, ?_, Or.inl ⟨rfl, fun t ht q _ => n t ht q⟩⟩
    rw [e]
    rfl
  · have htw := ((hH t ht).mp h1).1
    have hv := (vtw_th htw).1
    obtain ⟨a1, a2, a2', a3, a4, a4', -⟩ := VB_two h hP hT ht htw
    have hb := VB_bg h hT ht hv
    obtain ⟨c1, c2⟩ := hc.2.2.2.2 _ ht hv
    have hmw : f (bk+6) t = nI (vmn g t) ∧ f (bk+7) t = nI (vwn g t) := by
      rcases c2 with ⟨b, -⟩ | ⟨b, -⟩ | ⟨-, -, b, c, -⟩
      · have := (vtw_th htw).2; rw [b] at this; exact absurd this m1_neg
      · have := (vtw_th htw).2; rw [b] at this; exact absurd this m2_neg
      · exact ⟨b.trans a1, c.trans a3⟩
    rw [h3]
    unfold fX1_mateOf_17
    rw [co_two h hc ht, b1s, htw, if_neg (show ¬ bI true = 0 by decide), gdk ht (by omega), ncl (by omega), c1, hb.1]
    by_cases z : vbg g t ≤ d
    · rw [if_pos ((nI_leI (by omega) (by omega)).mpr z), gdk ht (by omega), hmw.1]
      by_cases y : vmn g t = a
      · rw [if_pos (by rw [y]), gdk ht (by omega), hmw.2]
        exact ⟨_, rfl, Or.inr ⟨t, ht, h1, z, Or.inl ⟨y, rfl⟩⟩⟩
      · rw [if_neg (by rw [neqq (by omega) (by omega)]; exact y), gdk ht (by omega)]
        exact ⟨_, rfl, Or.inr ⟨t, ht, h1, z, Or.inr ⟨by omega, rfl⟩⟩⟩
    · rw [if_neg (fun q => z ((nI_leI (by omega) (by omega)).mp q))]
      refine ⟨-4, rfl, Or.inl ⟨rfl, fun s hs q1 q2 => ?_⟩⟩
      have w1 := VB_two h hP hT hs ((hH s hs).mp q1).1
      have ap : s ≠ t → ¬ shr (vmn g) (vwn g) s t := fun e => HS_apart hH hs ht q1 h1 e
      by_cases e : s = t
      · rw [e] at q2; exact absurd q2 z
      · have ap := ap e
        unfold shr at ap
        refine ⟨fun c => ?_, fun c => ?_⟩
        · rcases h2 with h2 | h2
          · exact ap (Or.inl (c.trans h2.symm))
          · have y1 := w1.2.2.1
            rw [c, ← h2, a4'] at y1; cases y1
        · rcases h2 with h2 | h2
          · have y1 := w1.2.2.2.2.2.1
            rw [c, ← h2, a2'] at y1; cases y1
          · exact ap (Or.inr (c.trans h2.symm))
