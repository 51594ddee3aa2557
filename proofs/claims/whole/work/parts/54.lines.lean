/-! how many lines of two somebody is in -/
def wth (g : Nat → Int32) (a s : Nat) : Bool := vtw g s && (decide (vmn g s = a) || decide (vwn g s = a))
theorem CB_mw {P T : Nat} {fm : Nat → Bool} {g : Nat → Int32} (h : VB P T fm g) (hP : P ≤ 8) (hT : T < 1000000) {f : hF} {bk : Nat} (hc : CB f bk g) {s : Nat} (hs : s < 24) (htw : vtw g s = true) : f (bk+6) s = nI (vmn g s) ∧ f (bk+7) s = nI (vwn g s) ∧ f (bk+8) s = nI (vwr g s) := by
  obtain ⟨a1, a2, a2', a3, a4, a4', a5⟩ := VB_two h hP hT hs htw
  rcases (hc.2.2.2.2 _ hs (vtw_th htw).1).2 with ⟨b, -⟩ | ⟨b, -⟩ | ⟨-, -, b, c, d⟩
  · have := (vtw_th htw).2; rw [b] at this; exact absurd this m1_neg
  · have := (vtw_th htw).2; rw [b] at this; exact absurd this m2_neg
  · exact ⟨b.trans a1, c.trans a3, d.trans a5⟩
theorem co_lines {P T : Nat} {fm : Nat → Bool} {g : Nat → Int32} (h : VB P T fm g) (hP : P ≤ 8) (hT : T < 1000000) {f : hF} {bk : Nat} (hc : CB f bk g) {a : Nat} (ha : a < 8) : fX0_linesWith bk f (nI a) = some (nI (cnt (wth g a) 24)) := by
  have key : ∀ (r i n : Nat), i + r = 24 → r < n → fX0_linesWith_4 bk f (nI a) n (nI (cnt (wth g a) i)) (nI i) = some (nI (cnt (wth g a) 24)) := by
    intro r
    induction r with
    | zero =>
      intro i n hr hn
      obtain ⟨m, rfl⟩ : ∃ m, n = m + 1 := ⟨n - 1, by omega⟩
      obtain rfl : i = 24 := by omega
      rw [fX0_linesWith_4, if_pos (by decide)]
    | succ r ih =>
      intro i n hr hn
      obtain ⟨m, rfl⟩ : ∃ m, n = m + 1 := ⟨n - 1, by omega⟩
      have hi : i < 24 := by omega
      have e := ih (i + 1) m (by omega) (by omega)
      rw [cnt_s] at e
      rw [fX0_linesWith_4, if_neg (show ¬ (24 : Int32) ≤ nI i by rw [L24, nleq (by omega) (by omega)]; omega), co_two h hc hi, b1s, show nI i + 1 = nI (i + 1) from nadd i 1, show nI (cnt (wth g a) i) + 1 = nI (cnt (wth g a) i + 1) from nadd _ 1]
      cases htw : vtw g i with
      | false =>
        have : wth g a i = false := by unfold wth; rw [htw]; rfl
        rw [this] at e
        rw [if_pos (show bI false = 0 from rfl)]
        exact e
      | true =>
        have hm := CB_mw h hP hT hc hi htw
        obtain ⟨-, a2, -, -, a4, -, -⟩ := VB_two h hP hT hi htw
        have hw : wth g a i = (decide (vmn g i = a) || decide (vwn g i = a)) := by unfold wth; rw [htw]; rfl
        rw [if_neg (show ¬ bI true = 0 by decide), gdk hi (by omega), gdk hi (by omega), ncl (by omega), hm.1, hm.2.1]
        by_cases y : vmn g i = a
        · rw [if_pos (by rw [y])]
          rw [hw, decide_eq_true y] at e
          exact e
        · rw [if_neg (by rw [neqq (by omega) (by omega)]; exact y)]
          by_cases z : vwn g i = a
          · rw [if_pos (by rw [z])]
            rw [hw, decide_eq_false y, decide_eq_true z] at e
            exact e
          · rw [if_neg (by rw [neqq (by omega) (by omega)]; exact z)]
            rw [hw, decide_eq_false y, decide_eq_false z] at e
            exact e
  exact key 24 0 FU rfl (by decide)
