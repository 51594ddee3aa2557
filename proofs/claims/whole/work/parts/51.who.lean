/-! who is a PERSON, who is a PARSON: any number at all -/
theorem in_n {x : Int32} {n : Nat} (hn : n < 1000) : fX8_in x 0 (nI n - 1) = some (bI (decide (0 ≤ x ∧ x < nI n))) := by
  unfold fX8_in
  by_cases h0 : x < 0
  · rw [if_pos h0, decide_eq_false (fun z => Int32.not_lt.mpr z.1 h0)]; rfl
  · rw [if_neg h0]
    obtain ⟨j, hj, rfl⟩ := nI_of h0
    have h0' : (0 : Int32) ≤ nI j := nI_pos' hj
    cases n with
    | zero =>
      rw [if_pos (show nI 0 - 1 < nI j from Int32.lt_of_lt_of_le (by decide) h0'), decide_eq_false (fun z => by have := (nI_ltI hj (by omega)).mp z.2; omega)]; rfl
    | succ n =>
      rw [nI_pred]
      by_cases q : n < j
      · rw [if_pos ((nI_ltI (by omega) hj).mpr q), decide_eq_false (fun z => by have := (nI_ltI hj (by omega)).mp z.2; omega)]; rfl
      · rw [if_neg (fun z => q ((nI_ltI (by omega) hj).mp z)), decide_eq_true ⟨h0', (nI_ltI hj (by omega)).mpr (by omega)⟩]; rfl
theorem mo_person {f : hF} {P : Nat} (hP : P < 1000) (h : f 146 0 = nI P) (x : Int32) : fX8_isPerson f x = some (bI (decide (0 ≤ x ∧ x < nI P))) := by
  unfold fX8_isPerson
  rw [h, in_n hP, b1s, bI_nr]
theorem mo_parson {f : hF} {P : Nat} (hP : P < 1000) (h : f 146 2 = nI P) (x : Int32) : fX8_isParson f x = some (bI (decide (0 ≤ x ∧ x < nI P))) := by
  unfold fX8_isParson
  rw [h, in_n hP, b1s, bI_nr]
theorem co_in {x b : Int32} : (if x < 0 then some (0 : Int32) else if b ≤ x then some 0 else some 1) = some (bI (decide (0 ≤ x ∧ x < b))) := by
  by_cases h0 : x < 0
  · rw [if_pos h0, decide_eq_false (fun z => Int32.not_lt.mpr z.1 h0)]; rfl
  · rw [if_neg h0]
    by_cases q : b ≤ x
    · rw [if_pos q, decide_eq_false (fun z => Int32.not_lt.mpr q z.2)]; rfl
    · rw [if_neg q, decide_eq_true ⟨Int32.not_lt.mp h0, Int32.not_le.mp q⟩]; rfl
theorem co_person {k : Nat} {f : hF} {b : Int32} (h : f k 0 = b) (x : Int32) : fX3_isPerson k f x = some (bI (decide (0 ≤ x ∧ x < b))) := by
  unfold fX3_isPerson
  rw [h]
  exact co_in
theorem co_parson {k : Nat} {f : hF} {b : Int32} (h : f k 1 = b) (x : Int32) : fX3_isParson k f x = some (bI (decide (0 ≤ x ∧ x < b))) := by
  unfold fX3_isParson
  rw [h]
  exact co_in
theorem person_nI {P : Nat} (hP : P < 1000) {x : Int32} (h : decide (0 ≤ x ∧ x < nI P) = true) : ∃ a, a < P ∧ x = nI a := by
  have h1 := of_decide_eq_true h
  obtain ⟨j, hj, rfl⟩ := nI_of (Int32.not_lt.mpr h1.1)
  exact ⟨j, (nI_ltI hj (by omega)).mp h1.2, rfl⟩
