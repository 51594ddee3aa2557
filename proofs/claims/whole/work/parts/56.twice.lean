/-! twice asked of both: one answer -/
theorem or_0 (x : Int32) : x ||| 0 = x := Int32.toBitVec_inj.mp (by simp)
theorem twice_same {P T : Nat} {fm : Nat → Bool} {f : hF} (hP : P ≤ 8) (hT : T < 1000000) (h : VB P T fm (f 149)) (hc : CB f 20 (f 149)) (h3 : f 3 0 = nI P) (h6 : f 146 0 = nI P) :
    ∃ r, fX7_twice f = some r ∧ ∀ f', (∀ j, 146 ≤ j → f' j = f j) → ∃ f3, fX8_twice f' = some (r, f3) ∧ ∀ j, j ≠ 158 → f3 j = f' j := by
  have key : ∀ (f4 : hF), f4 146 0 = nI P → (∀ i, i < 111 → f4 158 i = f 149 i) → ∀ (r i n m : Nat) (mask : Int32), i + r = P → r < n → r < m → ∃ q, fX7_twice_4 f n mask (nI i) = some q ∧ fX8_twice_8 m f4 mask (nI i) = some (q, f4) := by
    intro f4 h46 e9 r
    have hV : VB P T fm (f4 158) := VB_eq e9 h
    induction r with
    | zero =>
      intro i n m mask hr hn hm
      obtain ⟨n, rfl⟩ : ∃ k, n = k + 1 := ⟨n - 1, by omega⟩
      obtain ⟨m, rfl⟩ : ∃ k, m = k + 1 := ⟨m - 1, by omega⟩
      refine ⟨mask, ?_, ?_⟩
      · rw [fX7_twice_4, h3, if_pos ((nI_leI (by omega) (by omega)).mpr (by omega))]
      · rw [fX8_twice_8, h46, if_pos ((nI_leI (by omega) (by omega)).mpr (by omega))]
    | succ r ih =>
      intro i n m mask hr hn hm
      obtain ⟨n, rfl⟩ : ∃ k, n = k + 1 := ⟨n - 1, by omega⟩
      obtain ⟨m, rfl⟩ : ∃ k, m = k + 1 := ⟨m - 1, by omega⟩
      have hlt : ¬ nI P ≤ nI i := fun z => by have := (nI_leI (by omega) (by omega)).mp z; omega
      have hb := cnt_le (wth (f 149) i) 24
      rw [fX7_twice_4, h3, if_neg hlt, co_lines h hP hT hc (show i < 8 by omega), b1s, fX8_twice_8, h46, if_neg hlt, mo_lines hV hP hT (show i < 8 by omega), b1s, cnt_wth e9, show nI i + 1 = nI (i + 1) from nadd i 1]
      unfold fX8_twice_33
      rw [or_0, show nI i + 1 = nI (i + 1) from nadd i 1]
      by_cases q : cnt (wth (f 149) i) 24 < 2
      · rw [if_pos (show nI (cnt (wth (f 149) i) 24) < (2 : Int32) from (nI_ltI (b := 2) (by omega) (by omega)).mpr q), if_pos (show nI (cnt (wth (f 149) i) 24) ≤ (1 : Int32) from (nI_leI (b := 1) (by omega) (by omega)).mpr (by omega))]
        exact ih (i + 1) n m mask (by omega) (by omega) (by omega)
      · rw [if_neg (show ¬ nI (cnt (wth (f 149) i) 24) < (2 : Int32) from fun z => q ((nI_ltI (b := 2) (by omega) (by omega)).mp z)), if_neg (show ¬ nI (cnt (wth (f 149) i) 24) ≤ (1 : Int32) from fun z => by have := (nI_leI (b := 1) (by omega) (by omega)).mp z; omega)]
        exact ih (i + 1) n m _ (by omega) (by omega) (by omega)
  obtain ⟨q0, k1, -⟩ := key (stA f 158 (f 149)) (by rw [sA_n (by decide)]; exact h6) (fun i _ => by rw [sA_s]) P 0 FU FU 0 (by omega) (by unfold FU; omega) (by unfold FU; omega)
  refine ⟨q0, k1, fun f' hf => ?_⟩
  obtain ⟨f4, g1, g2, g3⟩ := mo_asItIs f'
  obtain ⟨q1, l1, l2⟩ := key f4 (by rw [g2 146 (by decide), hf 146 (by omega)]; exact h6) (fun i hi => by rw [g3 i hi, hf 149 (by omega)]) P 0 FU FU 0 (by omega) (by unfold FU; omega) (by unfold FU; omega)
  have : q1 = q0 := by rw [k1] at l1; exact (Option.some.inj l1).symm
  refine ⟨f4, ?_, g2⟩
  unfold fX8_twice
  rw [g1, b1s, ← this]
  exact l2
