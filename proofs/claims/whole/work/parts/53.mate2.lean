/-! mate asked of both: one answer -/
theorem day_same (y : Int32) : ∃ b, fX7_isDay y = some (bI b) ∧ fX8_in y 0 999 = some (bI b) ∧ (b = true → ∃ d, d ≤ 999 ∧ y = nI d) := by
  unfold fX7_isDay fX8_in
  by_cases h0 : y < 0
  · rw [if_pos h0]
    exact ⟨false, rfl, rfl, fun z => (by cases z)⟩
  · rw [if_neg h0]
    by_cases h1 : (999 : Int32) < y
    · rw [if_pos h1]
      exact ⟨false, rfl, rfl, fun z => (by cases z)⟩
    · rw [if_neg h1]
      refine ⟨true, rfl, rfl, fun _ => ?_⟩
      obtain ⟨j, hj, rfl⟩ := nI_of h0
      refine ⟨j, ?_, rfl⟩
      have : ¬ 999 < j := fun z => h1 ((nI_ltI (a := 999) (by omega) hj).mpr z)
      omega
theorem mate_same {P T : Nat} {fm : Nat → Bool} {f : hF} (hP : P ≤ 8) (hT : T < 1000000) (h : VB P T fm (f 149)) (hc : CB f 20 (f 149)) (h3 : f 3 0 = nI P) (h6 : f 146 0 = nI P) (x y : Int32) :
    ∃ r f2, fX7_mate f x y = some (r, f2) ∧ (∀ j, j ≠ 30 → j ≠ 31 → f2 j = f j) ∧
      ∀ f', (∀ j, 146 ≤ j → f' j = f j) → ∃ f3, fX8_mate f' x y = some (r, f3) ∧ ∀ j, j ≠ 158 → j ≠ 159 → j ≠ 160 → f3 j = f' j := by
  unfold fX7_mate fX8_mate
  rw [co_person h3 x, b1s]
  obtain ⟨b, d1, d2, d3⟩ := day_same y
  rw [d1]
  cases hp : decide (0 ≤ x ∧ x < nI P) with
  | false =>
    refine ⟨-1, f, rfl, fun _ _ _ => rfl, fun f' hf => ⟨f', ?_, fun _ _ _ _ => rfl⟩⟩
    rw [mo_person (P := P) (by omega) (by rw [hf 146 (by omega)]; exact h6), hp]
    rfl
  | true =>
    cases b with
    | false =>
      refine ⟨-1, f, rfl, fun _ _ _ => rfl, fun f' hf => ⟨f', ?_, fun _ _ _ _ => rfl⟩⟩
      rw [mo_person (P := P) (by omega) (by rw [hf 146 (by omega)]; exact h6), hp, d2]
      rfl
    | true =>
      obtain ⟨a, ha, rfl⟩ := person_nI (by omega) hp
      obtain ⟨d, hd, rfl⟩ := d3 rfl
      obtain ⟨f2, hd1, s1, s2, s3, s4⟩ := co_settle h hP hT (x := -1) (k := 29) (bk := 20) (by omega) hc
      have s3' : HS (vtw (f 149)) (vbg (f 149)) (vmn (f 149)) (vwn (f 149)) hd1 := HS_congr two'_m1 (fun _ _ _ => ⟨rfl, rfl, rfl⟩) s3
      obtain ⟨r, m1, m2⟩ := co_mateOf (k := 29) (bk := 20) h hP hT (CB_frame (fun j j1 j2 => s2 j (by omega) (by omega)) hc) s3' s4 (show a < 8 by omega) (show d < 1000000 by omega)
      refine ⟨r, f2, ?_, s2, fun f' hf => ?_⟩
      · rw [b1s, if_neg (show ¬ bI true = 0 by decide), if_neg (show ¬ bI true = 0 by decide)]
        unfold fX2_mateBy fX2_settle
        rw [s1, b1s, b1s, m1]
        rfl
      · obtain ⟨f4, g1, g2, g3⟩ := mo_asItIs f'
        have e9 : ∀ i, i < 111 → f4 158 i = f 149 i := fun i hi => by rw [g3 i hi, hf 149 (by omega)]
        have hV : VB P T fm (f4 158) := VB_eq e9 h
        obtain ⟨f5, k1, k2, hr, k3, k4⟩ := mo_holds hV hP hT
        have e58 : f5 158 = f4 158 := k2 158 (by decide) (by decide)
        rw [← e58] at hV k4
        have e5 : ∀ i, i < 111 → f5 158 i = f 149 i := fun i hi => by rw [e58]; exact e9 i hi
        obtain ⟨q, n1, n2⟩ := mo_mateBy hV hP hT k4 k3 (show a < 8 by omega) (show d < 1000000 by omega)
        refine ⟨f5, ?_, fun j j1 j2 j3 => (k2 j j2 j3).trans (g2 j j1)⟩
        rw [mo_person (P := P) (by omega) (by rw [hf 146 (by omega)]; exact h6), hp, b1s, if_neg (show ¬ bI true = 0 by decide), d2, b1s, if_neg (show ¬ bI true = 0 by decide), g1, b1s, k1, b1s, n1, b1s]
        have el : ∀ p, p < 3 → vln (f5 158) p = vln (f 149) p := fun p hp => by unfold vln; rw [e5 _ (by omega)]
        have et : ∀ s, s < 24 → vtw (f5 158) s = vtw (f 149) s := fun s hs => by unfold vtw vth; rw [el _ (by omega), e5 _ (by omega)]
        have ev : ∀ s, s < 24 → vbg (f5 158) s = vbg (f 149) s ∧ vmn (f5 158) s = vmn (f 149) s ∧ vwn (f5 158) s = vwn (f 149) s := fun s hs => by unfold vbg vmn vwn; rw [e5 _ (by omega), e5 _ (by omega), e5 _ (by omega)]; exact ⟨rfl, rfl, rfl⟩
        have k5 : HS (vtw (f 149)) (vbg (f 149)) (vmn (f 149)) (vwn (f 149)) hr := HS_congr et (fun s hs _ => ev s hs) k4
        have eh : ∀ s, s < 24 → hd1 s = hr s := HS_uniq s3' k5
        have n3 : MTi (f 149) hd1 a d 24 q := by
          rcases n2 with ⟨z1, z2⟩ | ⟨t, ht, z1, z2, z3⟩
          · refine Or.inl ⟨z1, fun t ht y1 y2 => ?_⟩
            have := z2 t ht (by rw [← eh t ht]; exact y1) (by rw [(ev t ht).1]; exact y2)
            rw [(ev t ht).2.1, (ev t ht).2.2] at this
            exact this
          · rw [(ev t ht).2.1, (ev t ht).2.2] at z3
            rw [(ev t ht).1] at z2
            exact Or.inr ⟨t, ht, by rw [eh t ht]; exact z1, z2, z3⟩
        rw [MT_uniq h hP hT s3' m2 n3]
