/-! linesSuch: of two, blank -/
theorem mo_such {f : hF} {x : Int32} {p : Nat → Bool} (hq : ∀ i, i < 24 → (x = 0 ∧ fX8_isOfTwo f (nI i) = some (bI (p i))) ∨ (x ≠ 0 ∧ fX8_isBlank f (nI i) = some (bI (p i)))) : fX8_linesSuch f x = some (nI (cnt p 24)) := by
  have key : ∀ (r i n : Nat), i + r = 24 → r < n → fX8_linesSuch_4 f x n (nI (cnt p i)) (nI i) = some (nI (cnt p 24)) := by
    intro r
    induction r with
    | zero =>
      intro i n hr hn
      obtain ⟨m, rfl⟩ : ∃ m, n = m + 1 := ⟨n - 1, by omega⟩
      obtain rfl : i = 24 := by omega
      rw [fX8_linesSuch_4, if_pos (by decide)]
    | succ r ih =>
      intro i n hr hn2
      obtain ⟨m, rfl⟩ : ∃ m, n = m + 1 := ⟨n - 1, by omega⟩
      have hi : i < 24 := by omega
      have e := ih (i + 1) m (by omega) (by omega)
      rw [cnt_s] at e
      have e0 : nI (cnt p i) + 0 = nI (cnt p i + 0) := nadd _ 0
      have e1 : nI (cnt p i) + 1 = nI (cnt p i + 1) := nadd _ 1
      have e2 : nI i + 1 = nI (i + 1) := nadd i 1
      rw [fX8_linesSuch_4, if_neg (show ¬ (24 : Int32) ≤ nI i by rw [L24, nleq (by omega) (by omega)]; omega)]
      unfold fX8_linesSuch_34 fX8_linesSuch_38 fX8_linesSuch_39
      rw [e0, e1, e2]
      rcases hq i hi with ⟨h1, h2⟩ | ⟨h1, h2⟩
      · rw [if_pos h1, h2, b1s]
        cases q : p i with
        | true => rw [if_neg (show ¬ bI true = 0 by decide)]; rw [q] at e; exact e
        | false => rw [if_pos (show bI false = 0 from rfl)]; rw [q] at e; exact e
      · rw [if_neg h1, h2, b1s]
        cases q : p i with
        | true => rw [if_neg (show ¬ bI true = 0 by decide)]; rw [q] at e; exact e
        | false => rw [if_pos (show bI false = 0 from rfl)]; rw [q] at e; exact e
  exact key 24 0 FU rfl (by decide)
theorem mo_twos {P T : Nat} {fm : Nat → Bool} {f : hF} (h : VB P T fm (f 158)) : fX8_linesSuch f 0 = some (nI (cnt (vtw (f 158)) 24)) :=
  mo_such (fun _ hi => Or.inl ⟨rfl, mo_two h hi⟩)
theorem mo_blanks {P T : Nat} {fm : Nat → Bool} {f : hF} (h : VB P T fm (f 158)) : fX8_linesSuch f 1 = some (nI (cnt (vbl (f 158)) 24)) :=
  mo_such (fun _ hi => Or.inr ⟨by decide, mo_blank h hi⟩)
