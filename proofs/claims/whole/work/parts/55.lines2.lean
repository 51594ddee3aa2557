/-! the same, by the reference -/
theorem mo_lines {P T : Nat} {fm : Nat → Bool} {f : hF} (h : VB P T fm (f 158)) (hP : P ≤ 8) (hT : T < 1000000) {a : Nat} (ha : a < 8) : fX8_linesOf f (nI a) = some (nI (cnt (wth (f 158) a) 24)) := by
  have key : ∀ (r i n : Nat), i + r = 24 → r < n → fX8_linesOf_4 f (nI a) n (nI (cnt (wth (f 158) a) i)) (nI i) = some (nI (cnt (wth (f 158) a) 24)) := by
    intro r
    induction r with
    | zero =>
      intro i n hr hn
      obtain ⟨m, rfl⟩ : ∃ m, n = m + 1 := ⟨n - 1, by omega⟩
      obtain rfl : i = 24 := by omega
      rw [fX8_linesOf_4, if_pos (by decide)]
    | succ r ih =>
      intro i n hr hn
      obtain ⟨m, rfl⟩ : ∃ m, n = m + 1 := ⟨n - 1, by omega⟩
      have hi : i < 24 := by omega
      have e := ih (i + 1) m (by omega) (by omega)
      rw [cnt_s] at e
      have e0 : nI (cnt (wth (f 158) a) i) + 0 = nI (cnt (wth (f 158) a) i + 0) := nadd _ 0
      have e1 : nI (cnt (wth (f 158) a) i) + 1 = nI (cnt (wth (f 158) a) i + 1) := nadd _ 1
      have e2 : nI i + 1 = nI (i + 1) := nadd i 1
      rw [fX8_linesOf_4, if_neg (show ¬ (24 : Int32) ≤ nI i by rw [L24, nleq (by omega) (by omega)]; omega), mo_two h hi, b1s]
      unfold fX8_linesOf_37 fX8_linesOf_41 fX8_linesOf_42
      rw [e0, e1, e2]
      cases htw : vtw (f 158) i with
      | false =>
        have : wth (f 158) a i = false := by unfold wth; rw [htw]; rfl
        rw [this] at e
        rw [if_pos (show bI false = 0 from rfl)]
        exact e
      | true =>
        obtain ⟨a1, a2, -, a3, a4, -, -⟩ := VB_two h hP hT hi htw
        have hw : wth (f 158) a i = (decide (vmn (f 158) i = a) || decide (vwn (f 158) i = a)) := by unfold wth; rw [htw]; rfl
        rw [if_neg (show ¬ bI true = 0 by decide), mo_man hi, b1s, a1]
        by_cases y : vmn (f 158) i = a
        · rw [if_pos (by rw [y])]
          rw [hw, decide_eq_true y] at e
          exact e
        · rw [if_neg (by rw [neqq (by omega) (by omega)]; exact y), mo_woman hi, b1s, a3]
          by_cases z : vwn (f 158) i = a
          · rw [if_pos (by rw [z])]
            rw [hw, decide_eq_false y, decide_eq_true z] at e
            exact e
          · rw [if_neg (by rw [neqq (by omega) (by omega)]; exact z)]
            rw [hw, decide_eq_false y, decide_eq_false z] at e
            exact e
  exact key 24 0 FU rfl (by decide)
theorem wth_congr {g g' : Nat → Int32} (e : ∀ i, i < 111 → g' i = g i) {a s : Nat} (hs : s < 24) : wth g' a s = wth g a s := by
  unfold wth vtw vth vln vmn vwn
  rw [e (12 + s / 8) (by omega), e (16 + 4 * s) (by omega), e (17 + 4 * s) (by omega)]
theorem cnt_wth {g g' : Nat → Int32} (e : ∀ i, i < 111 → g' i = g i) (a : Nat) : cnt (wth g' a) 24 = cnt (wth g a) 24 := cnt_congr (fun _ hs => wth_congr e hs)
