/-! how many lines are of two, how many blank -/
theorem co_countOf {P T : Nat} {fm : Nat → Bool} {g : Nat → Int32} (h : VB P T fm g) {f : hF} {bk : Nat} (hc : CB f bk g) {x : Int32} {p : Nat → Bool} (hp : ∀ s, s < 24 → vth g s = true → (f (bk+4) s = x ↔ p s = true)) (hn : ∀ s, s < 24 → vth g s = false → p s = false) :
    fX0_countOf bk f x = some (nI (cnt p 24)) := by
  have key : ∀ (r i n : Nat), i + r = 24 → r < n → fX0_countOf_4 bk f x n (nI (cnt p i)) (nI i) = some (nI (cnt p 24)) := by
    intro r
    induction r with
    | zero =>
      intro i n hr hn
      obtain ⟨m, rfl⟩ : ∃ m, n = m + 1 := ⟨n - 1, by omega⟩
      obtain rfl : i = 24 := by omega
      rw [fX0_countOf_4, if_pos (by decide)]
    | succ r ih =>
      intro i n hr hn2
      obtain ⟨m, rfl⟩ : ∃ m, n = m + 1 := ⟨n - 1, by omega⟩
      have hi : i < 24 := by omega
      have e := ih (i + 1) m (by omega) (by omega)
      rw [cnt_s] at e
      rw [fX0_countOf_4, if_neg (show ¬ (24 : Int32) ≤ nI i by rw [L24, nleq (by omega) (by omega)]; omega), co_line h hc hi, b1s, show nI i + 1 = nI (i + 1) from nadd i 1, show nI (cnt p i) + 1 = nI (cnt p i + 1) from nadd _ 1]
      cases hv : vth g i with
      | false =>
        rw [hn i hi hv] at e
        rw [if_pos (show bI false = 0 from rfl)]
        exact e
      | true =>
        have e3 := hp i hi hv
        rw [if_neg (show ¬ bI true = 0 by decide), gdk hi (by omega), ncl (by omega)]
        cases q : p i with
        | true => rw [if_pos (e3.mpr q)]; rw [q] at e; exact e
        | false => rw [if_neg (fun z => by rw [e3.mp z] at q; cases q)]; rw [q] at e; exact e
  exact key 24 0 FU rfl (by decide)
theorem co_twos {P T : Nat} {fm : Nat → Bool} {g : Nat → Int32} (h : VB P T fm g) {f : hF} {bk : Nat} (hc : CB f bk g) : fX0_countOf bk f 1 = some (nI (cnt (vtw g) 24)) :=
  co_countOf h hc (fun _ hs hv => CB_two hc hs hv) (fun s _ hv => by unfold vtw; rw [hv]; rfl)
theorem co_blanks {P T : Nat} {fm : Nat → Bool} {g : Nat → Int32} (h : VB P T fm g) {f : hF} {bk : Nat} (hc : CB f bk g) : fX0_countOf bk f 0 = some (nI (cnt (vbl g) 24)) := by
  refine co_countOf h hc (fun s hs hv => ?_) (fun s _ hv => by unfold vbl; rw [hv]; rfl)
  unfold vbl
  rw [hv, Bool.true_and, decide_eq_true_iff]
  rcases (hc.2.2.2.2 s hs hv).2 with ⟨a, b⟩ | ⟨a, b⟩ | ⟨a, b, -⟩
  · rw [a, b]; decide
  · rw [a, b]; decide
  · rw [b]
    exact ⟨fun z => absurd z (by decide), fun z => by rw [z] at a; exact absurd a m1_neg⟩
theorem mo_blank {P T : Nat} {fm : Nat → Bool} {f : hF} (h : VB P T fm (f 158)) {s : Nat} (hs : s < 24) : fX8_isBlank f (nI s) = some (bI (vbl (f 158) s)) := by
  unfold fX8_isBlank vbl
  rw [mo_there h hs, b1s]
  cases hv : vth (f 158) s with
  | false => rfl
  | true =>
    rw [if_neg (show ¬ bI true = 0 by decide), mo_man hs, b1s, Bool.true_and]
    by_cases q : f 158 (16 + 4 * s) = -1
    · rw [if_pos q, decide_eq_true q]; rfl
    · rw [if_neg q, decide_eq_false q]; rfl
