/-! is a line held; how many hold -/
theorem co_held {P T : Nat} {fm : Nat → Bool} {g : Nat → Int32} (h : VB P T fm g) (hP : P ≤ 8) (hT : T < 1000000) {x : Int32} {k bk : Nat} {f : hF} (hc : CB f bk g) {hd : Nat → Bool}
    (hH : HS (two' g x) (vbg g) (vmn g) (vwn g) hd) (hM : HM g hd (f (k+1))) {s : Nat} (hs : s < 24) : fX1_isHeld k bk f (nI s) = some (bI (hd s)) := by
  have htwo : ∀ t, t < 24 → hd t = true → vtw g t = true := fun t ht q => by
    have := ((hH t ht).mp q).1
    unfold two' at this
    rw [Bool.and_eq_true] at this
    exact this.1
  unfold fX1_isHeld
  rw [co_two h hc hs, b1s]
  cases htw : vtw g s with
  | false =>
    have : hd s = false := by
      cases q : hd s with
      | false => rfl
      | true => rw [htwo s hs q] at htw; cases htw
    rw [this, if_pos (show bI false = 0 from rfl)]; rfl
  | true =>
    obtain ⟨a1, a2, a2', a3, a4, a4', -⟩ := VB_two h hP hT hs htw
    have hv := (vtw_th htw).1
    have hm : f (bk+6) s = nI (vmn g s) := by
      rcases (hc.2.2.2.2 _ hs hv).2 with ⟨b, -⟩ | ⟨b, -⟩ | ⟨-, -, b, c, -⟩
      · have := (vtw_th htw).2; rw [b] at this; exact absurd this m1_neg
      · have := (vtw_th htw).2; rw [b] at this; exact absurd this m2_neg
      · exact b.trans a1
    rw [if_neg (show ¬ bI true = 0 by decide), gdk hs (by omega), ncl (by omega), hm, row_ok (by omega), b1s, if_neg (show ¬ (1 : Int32) = 0 by decide), gdk hs (by omega), gdk (show vmn g s < 8 by omega) (by omega), ncl (by omega)]
    cases q : hd s with
    | true =>
      have e : f (k+1) (vmn g s) = nI s := by
        rcases hM (vmn g s) (by omega) with ⟨-, c⟩ | ⟨t, ht, h1, h2, h3⟩
        · exact absurd rfl (c s hs q).1
        · have hw := VB_two h hP hT ht (htwo t ht h1)
          rcases h2 with h2 | h2
          · by_cases e : t = s
            · rw [h3, e]
            · exact absurd (Or.inl h2) (HS_apart hH ht hs h1 q e)
          · have z := hw.2.2.2.2.2.1
            rw [h2, a2'] at z; cases z
      rw [if_pos e]; rfl
    | false =>
      have e : f (k+1) (vmn g s) ≠ nI s := by
        intro z
        rcases hM (vmn g s) (by omega) with ⟨c, -⟩ | ⟨t, ht, h1, h2, h3⟩
        · rw [c] at z; exact m1_n (by omega) z.symm
        · rw [h3, neqq (by omega) (by omega)] at z
          rw [z, q] at h1; cases h1
      rw [if_neg e]; rfl
def cnt (h : Nat → Bool) (i : Nat) : Nat := (List.range i).countP h
theorem cnt_s (h : Nat → Bool) (i : Nat) : cnt h (i + 1) = cnt h i + (if h i then 1 else 0) := by
  unfold cnt
  rw [List.range_succ, List.countP_append]
  cases q : h i <;> simp [q]
theorem cnt_le (h : Nat → Bool) (i : Nat) : cnt h i ≤ i := by
  unfold cnt
  exact Nat.le_trans List.countP_le_length (by simp)
theorem cnt_congr {h g : Nat → Bool} {i : Nat} (e : ∀ s, s < i → h s = g s) : cnt h i = cnt g i := by
  unfold cnt
  exact List.countP_congr (fun x hx => by rw [e x (List.mem_range.mp hx)])
theorem mo_many {f : hF} {hd : Nat → Bool} (h : ∀ t, t < 24 → f 159 t = bI (hd t)) : fX8_manyHold f = some (nI (cnt hd 24)) := by
  have key : ∀ (r i n : Nat), i + r = 24 → r < n → fX8_manyHold_4 f n (nI (cnt hd i)) (nI i) = some (nI (cnt hd 24)) := by
    intro r
    induction r with
    | zero =>
      intro i n hr hn
      obtain ⟨m, rfl⟩ : ∃ m, n = m + 1 := ⟨n - 1, by omega⟩
      obtain rfl : i = 24 := by omega
      rw [fX8_manyHold_4, if_pos (by decide)]
    | succ r ih =>
      intro i n hr hn
      obtain ⟨m, rfl⟩ : ∃ m, n = m + 1 := ⟨n - 1, by omega⟩
      have e := ih (i + 1) m (by omega) (by omega)
      rw [cnt_s] at e
      rw [fX8_manyHold_4, if_neg (show ¬ (24 : Int32) ≤ nI i by rw [L24, nleq (by omega) (by omega)]; omega), gdk (show i < 24 by omega) (by omega), ncl (by omega), h i (by omega)]
      unfold fX8_manyHold_25
      cases q : hd i with
      | false =>
        rw [q] at e
        rw [if_pos (show bI false = 0 from rfl), show nI (cnt hd i) + 0 = nI (cnt hd i + 0) from nadd _ 0, show nI i + 1 = nI (i + 1) from nadd i 1]
        exact e
      | true =>
        rw [q] at e
        rw [if_neg (show ¬ bI true = 0 by decide), show nI (cnt hd i) + 1 = nI (cnt hd i + 1) from nadd _ 1, show nI i + 1 = nI (i + 1) from nadd i 1]
        exact e
  exact key 24 0 FU rfl (by decide)
theorem co_count_loop {k ro : Nat} {f : hF} {hd : Nat → Bool} (h : ∀ s, s < 24 → fX1_isHeld (k+10) (k+1) f (nI s) = some (bI (hd s))) : ∀ (r i n : Nat), i + r = 24 → r < n → fX2_countHeld_8 k ro n f (nI (cnt hd i)) (nI i) = some (nI (cnt hd 24), f) := by
  intro r
  induction r with
  | zero =>
    intro i n hr hn
    obtain ⟨m, rfl⟩ : ∃ m, n = m + 1 := ⟨n - 1, by omega⟩
    obtain rfl : i = 24 := by omega
    rw [fX2_countHeld_8, if_pos (by decide)]
  | succ r ih =>
    intro i n hr hn
    obtain ⟨m, rfl⟩ : ∃ m, n = m + 1 := ⟨n - 1, by omega⟩
    have e := ih (i + 1) m (by omega) (by omega)
    rw [cnt_s] at e
    rw [fX2_countHeld_8, if_neg (show ¬ (24 : Int32) ≤ nI i by rw [L24, nleq (by omega) (by omega)]; omega), h i (by omega), b1s, show nI i + 1 = nI (i + 1) from nadd i 1]
    cases q : hd i with
    | false =>
      rw [q] at e
      rw [if_pos (show bI false = 0 from rfl)]
      exact e
    | true =>
      rw [q] at e
      rw [if_neg (show ¬ bI true = 0 by decide), show nI (cnt hd i) + 1 = nI (cnt hd i + 1) from nadd _ 1]
      exact e
/-- countHeld at the house or the trial (k = 19, 33): it changes only k+11 and k+12 -/
theorem co_count {P T : Nat} {fm : Nat → Bool} {g : Nat → Int32} (h : VB P T fm g) (hP : P ≤ 8) (hT : T < 1000000) {k ro : Nat} {f : hF} (hc : CB f (k+1) g) :
    ∃ f2 hd, fX2_countHeld k ro f = some (nI (cnt hd 24), f2) ∧ (∀ j, j ≠ k+11 → j ≠ k+12 → f2 j = f j) ∧ HS (vtw g) (vbg g) (vmn g) (vwn g) hd := by
  obtain ⟨f2, hd, a1, a2, a3, a4⟩ := co_settle h hP hT (x := -1) (k := k+10) (bk := k+1) (by omega) hc
  refine ⟨f2, hd, ?_, a2, HS_congr two'_m1 (fun _ _ _ => ⟨rfl, rfl, rfl⟩) a3⟩
  have hc2 : CB f2 (k+1) g := CB_frame (fun j j1 j2 => a2 j (by omega) (by omega)) hc
  unfold fX2_countHeld fX2_settle
  rw [a1, b1s, b1s]
  exact co_count_loop (fun s hs => co_held h hP hT hc2 a3 a4 hs) 24 0 FU rfl (by decide)
