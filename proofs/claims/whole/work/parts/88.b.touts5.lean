/-! touts by both -/
theorem sh_pow : ∀ P, P < 9 → (1 : Int32) <<< (nI P &&& 31) = nI (2 ^ P) := by decide +kernel
theorem ten_le : ∀ W, W < 9 → 10 ^ W < 134217728 := by decide
theorem touts_same {T : Nat} {ro : RO} {f : hF} (h : R T ro f) (hT : T < 1000000) (x y z : Int32) : Same T ro f (fun f => fX7_touts f x y z) (fun f => fX8_touts f x y z) := by
  have hP := h.rr.ok.2.1
  have bad : fX7_touts f x y z = some (-1, f) → fX8_touts f x y z = some (-1, f) → Same T ro f (fun f => fX7_touts f x y z) (fun f => fX8_touts f x y z) := fun h1 h2 => ⟨-1, f, f, h1, Sc.refl f, h2, Sc.refl f⟩
  rcases in_or x 0 8 (by omega) (by omega) with ⟨n, -, hn, rfl, hin1⟩ | ⟨hin1, hout⟩
  · have cx1 : ¬ nI n < 0 := nI_pos (by omega)
    have cx2 : ¬ (8 : Int32) < nI n := fun w => by have := (nI_ltI (a := 8) (by omega) (by omega)).mp w; omega
    rcases in_or y 0 10 (by omega) (by omega) with ⟨u, -, hu, rfl, hin2⟩ | ⟨hin2, hout⟩
    · have cy1 : ¬ nI u < 0 := nI_pos (by omega)
      have cy2 : ¬ (10 : Int32) < nI u := fun w => by have := (nI_ltI (a := 10) (by omega) (by omega)).mp w; omega
      rcases in_or z 0 1 (by omega) (by omega) with ⟨w, -, hw, rfl, hin⟩ | ⟨hin, hout⟩
      · have hpart : fX7_isPart (nI w) = some 1 := by
          unfold fX7_isPart
          rcases (show w = 0 ∨ w = 1 by omega) with rfl | rfl <;> rfl
        obtain ⟨g, hgg⟩ : ∃ g, f 149 = g := ⟨_, rfl⟩
        have hB : BK ro T g := by rw [← hgg]; exact h.bk
        have hcb : CB f 20 g := by rw [← hgg]; exact h.cb
        obtain ⟨r, hr⟩ : ∃ r, msk (fun i => (ro.fm i == true) && !mtdB g i) ro.P = r := ⟨_, rfl⟩
        obtain ⟨a0, ha0⟩ : ∃ r, msk (fun i => (ro.fm i == false) && !mtdB g i) ro.P = r := ⟨_, rfl⟩
        have hr6 : r < 256 := by rw [← hr]; exact msk_256 _ hP
        have ha6 : a0 < 256 := by rw [← ha0]; exact msk_256 _ hP
        have rb : ∀ i, r.testBit i = (decide (i < ro.P) && ((ro.fm i == true) && !mtdB g i)) := fun i => by rw [← hr]; exact msk_bit _ i ro.P
        have ab : ∀ i, a0.testBit i = (decide (i < ro.P) && ((ro.fm i == false) && !mtdB g i)) := fun i => by rw [← ha0]; exact msk_bit _ i ro.P
        have rhi : ∀ i, ro.P ≤ i → r.testBit i = false := fun i hi => by rw [rb, decide_eq_false (by omega)]; rfl
        have hM24 := cnt_le (hdB g) 24
        obtain ⟨M, hM⟩ : ∃ M, cnt (hdB g) 24 = M := ⟨_, rfl⟩
        rw [hM] at hM24
        obtain ⟨W, hW⟩ : ∃ W, cnt (fun i => r.testBit i) 8 = W := ⟨_, rfl⟩
        have hW8 : W ≤ 8 := by rw [← hW]; exact cnt_le _ _
        have hWP : cnt (fun i => r.testBit i) ro.P = W := by rw [← hW]; exact (cnt_high hP (fun i h1 _ => rhi i h1)).symm
        obtain ⟨S, hS⟩ : ∃ S, sm (term ro g r a0 u n M) 256 = S := ⟨_, rfl⟩
        have hSle : S ≤ 10 ^ W := by
          have h1 := sm_prd (r := r) hu 8
          rw [hW] at h1
          rw [← hS, ← h1]
          refine sm_le (fun i _ => ?_)
          show term ro g r a0 u n M i ≤ if subk i r 8 = true then prd r u i 8 else 0
          unfold term
          by_cases q : sub8 i r = true
          · rw [if_pos (show subk i r 8 = true from q)]
            by_cases v : n ≤ M + (pst ro g a0 i ro.P).2
            · rw [if_pos ⟨q, v⟩]; exact Nat.le_refl _
            · rw [if_neg (fun z => v z.2)]; exact Nat.zero_le _
          · rw [if_neg (fun z => q z.1)]; exact Nat.zero_le _
        have h10 := ten_le W (by omega)
        have h10p : 0 < 10 ^ W := Nat.pow_pos (by decide)
        have hgp : 0 < Nat.gcd S (10 ^ W) := Nat.gcd_pos_of_pos_right S h10p
        have hgl : Nat.gcd S (10 ^ W) ≤ 10 ^ W := Nat.gcd_le_right S h10p
        obtain ⟨D, hD⟩ : ∃ D, Nat.gcd S (10 ^ W) = D := ⟨_, rfl⟩
        -- the component
        obtain ⟨f8, s1, s2⟩ := co_singles hB.1 hT h.rr hcb true
        obtain ⟨f9, t1, t2⟩ := co_singles hB.1 hT (RR_of (fun j hj => s2 j (by omega) (by omega)) h.rr) (CB_frame (fun t t1 t2 => s2 t (by omega) (by omega)) hcb) true
        have e9 : ∀ j, j ≠ 30 → j ≠ 31 → f9 j = f j := fun j j1 j2 => (t2 j j1 j2).trans (s2 j j1 j2)
        obtain ⟨fA, u1, u2⟩ := co_singles hB.1 hT (RR_of (fun j hj => e9 j (by omega) (by omega)) h.rr) (CB_frame (fun t t1 t2 => e9 t (by omega) (by omega)) hcb) false
        have eA : ∀ j, j ≠ 30 → j ≠ 31 → fA j = f j := fun j j1 j2 => (u2 j j1 j2).trans (e9 j j1 j2)
        obtain ⟨fC, v1, v2⟩ := co_countB (k := 19) (ro := 3) hB.1 hP hT (CB_frame (fun t t1 t2 => eA t (by omega) (by omega)) hcb)
        have eC : ∀ j, j ≠ 30 → j ≠ 31 → fC j = f j := fun j j1 j2 => (v2 j (by omega) (by omega)).trans (eA j j1 j2)
        rw [hr] at s1 t1
        rw [ha0] at u1
        rw [hM] at v1
        have csum := co_sum (n := n) (M := M) (x := u) hB.1 (RR_of (fun j hj => eC j (by omega) (by omega)) h.rr) (CB_frame (fun t t1 t2 => eC t (by omega) (by omega)) hcb) hr6 ha6 hu hn hM24
        rw [hS] at csum
        have sc : Sc f fC := Sc.co (fun j _ j2 => eC j (by omega) (by omega))
        have C : fX7_touts f (nI n) (nI u) (nI w) = some (if w = 0 then nI S / nI D else nI (10 ^ W) / nI D, fC) := by
          have hbc := bitc r hr6
          rw [hW] at hbc
          have hgc := co_gcd (u := nI S) (v := nI (10 ^ W)) 27 S (10 ^ W) 0 FU (by omega) (by omega) (by omega) (by omega) (by decide)
          rw [hD] at hgc hgp hgl
          have nzD : ¬ nI D = 0 := fun z => by have := (nI_eq (b := 0) (by omega) (by omega)).mp z; omega
          unfold fX7_touts
          rw [if_neg cx1, if_neg cx2, if_neg cy1, if_neg cy2, hpart, b1s, if_neg (by decide), show fX2_singles 19 3 f 1 = some (nI r, f8) from s1, b2s, hbc, b1s]
          rw [show fX7_touts_45 (nI n) (nI u) (nI w) FU f8 1 (nI W) = _ from co_ten W 0 FU (by omega) (by unfold FU; omega)]
          unfold fX2_waysToWed fX7_commonDivisor
          rw [show fX2_singles 19 3 f8 1 = some (nI r, f9) from t1, b2s, show fX2_singles 19 3 f9 0 = some (nI a0, fA) from u1, b2s, v1, b2s, csum, b2s, Nat.zero_add]
          rw [show fX7_commonDivisor_7 (nI S) (nI (10 ^ W)) FU (nI S) (nI (10 ^ W)) 0 = _ from hgc, b1s, if_pos (show (1 : Int32) ≤ nI D from (nI_leI (a := 1) (by omega) (by omega)).mpr (by omega)), nzk nzD, nzk nzD]
          rcases (show w = 0 ∨ w = 1 by omega) with rfl | rfl <;> rfl
        -- the reference
        have ref : ∀ f', R T ro f' → f' 149 = g → ∃ f3, fX8_touts f' (nI n) (nI u) (nI w) = some (if w = 0 then nI S / nI D else nI (10 ^ W) / nI D, f3) ∧ Sc f' f3 := by
          intro f' h' eg
          obtain ⟨f5, a1, a2⟩ := mo_singles h' hT
          rw [eg, hr] at a1
          have hr5 := a2.rr h'.rr
          have g5 : f5 149 = g := by rw [a2.o 149 (by decide) (by decide) (by decide)]; exact eg
          have hpow := sh_pow ro.P (by omega)
          have p256 : 2 ^ ro.P ≤ 256 := show 2 ^ ro.P ≤ 2 ^ 8 from Nat.pow_le_pow_right (by decide) hP
          have sums : ∀ (s y m : Nat) (F : hF), y + s = 2 ^ ro.P → s < m → (∀ j, j ≠ 146 → j ≠ 158 → j ≠ 159 → j ≠ 160 → F j = f5 j) → (∀ i, i ≠ 26 → F 146 i = f5 146 i) → (∀ i, 111 ≤ i → F 158 i = 0) →
              ∃ F2, fX8_touts_85 (nI n) (nI u) (nI w) m F (nI r) (nI (10 ^ W)) (nI (sm (term ro g r a0 u n M) y)) (nI y) = fX8_touts_150 (nI n) (nI u) (nI w) FU F2 (nI (10 ^ W)) (nI (sm (term ro g r a0 u n M) (2 ^ ro.P))) (nI (sm (term ro g r a0 u n M) (2 ^ ro.P))) (nI (10 ^ W)) ∧ (∀ j, j ≠ 146 → j ≠ 158 → j ≠ 159 → j ≠ 160 → F2 j = f5 j) ∧ (∀ i, i ≠ 26 → F2 146 i = f5 146 i) ∧ ∀ i, 111 ≤ i → F2 158 i = 0 := by
            intro s
            induction s with
            | zero =>
              intro y m F hys hm q1 q2 q3
              obtain ⟨m, rfl⟩ : ∃ k, m = k + 1 := ⟨m - 1, by omega⟩
              obtain rfl : y = 2 ^ ro.P := by omega
              refine ⟨F, ?_, q1, q2, q3⟩
              rw [fX8_touts_85, q2 0 (by decide), hr5.m0, hpow, if_pos (Int32.le_refl _)]
            | succ s ih =>
              intro y m F hys hm q1 q2 q3
              obtain ⟨m, rfl⟩ : ∃ k, m = k + 1 := ⟨m - 1, by omega⟩
              have hy : y < 256 := by omega
              have hlt : ¬ nI (2 ^ ro.P) ≤ nI y := fun z => by have := (nI_leI (by omega) (by omega)).mp z; omega
              have e1 : sm (term ro g r a0 u n M) (y + 1) = sm (term ro g r a0 u n M) y + term ro g r a0 u n M y := rfl
              rw [fX8_touts_85, q2 0 (by decide), hr5.m0, hpow, if_neg hlt]
              by_cases q : sub8 y r = true
              · rw [if_pos ((sub_iff hy hr6).mpr q)]
                have gF : F 149 = g := (q1 149 (by decide) (by decide) (by decide) (by decide)).trans g5
                have hFa : fX8_asItIs F = some (stA F 158 g) := by
                  rw [mo_as (fun i hi => by rw [gF]; exact hB.2.2 i hi) q3, gF]
                obtain ⟨F1, b1', b2', b3, b4⟩ := mo_find (f := stA F 158 g) (by rw [sA_s]; exact hB.1) hP hT
                rw [sA_s] at b3 b4
                have hMS : MS f5 (st2 F1 146 26 1) g := ⟨by rw [s2_n (by decide), b2' 158 (by decide) (by decide), sA_s], by rw [s2_n (by decide)]; exact b3, b4, fun j j1 j2 j3 j4 => by rw [s2_n j1, b2' j j3 j4, sA_n j2, q1 j j1 j2 j3 j4], fun i hi => by rw [s2_s, u_n hi, b2' 146 (by decide) (by decide), sA_n (by decide), q2 i hi]⟩
                have hTR : TR ro T g 0 (pst ro g a0 y 0) g := by
                  refine ⟨hB, rfl, rfl, fun i hi => ?_, fun _ _ _ => rfl, fun _ _ _ _ => rfl, rfl⟩
                  show a0.testBit i = _
                  rw [ab, decide_eq_true hi]
                  cases ro.fm i <;> simp
                obtain ⟨F2, G2, k1, k2, k3, k4⟩ := mo_by (y := y) (x := u) hr5 hT hr6 ha6 hy hu q (fun i hi hb => by
                  rw [rb, decide_eq_true hi] at hb
                  simp only [Bool.true_and, Bool.and_eq_true, beq_iff_eq, Bool.not_eq_true'] at hb
                  exact hb) ro.P 0 FU (st2 F1 146 26 1) g (by omega) (by unfold FU; omega) hMS hTR (by rw [s2_s, u_s]; rfl)
                have hcnt : cnt (fun i => ro.fm i && mtdB G2 i) ro.P = M + (pst ro g a0 y ro.P).2 := by rw [k3.2.2.2.2.2.2, women_lines hB.1 hP hT b4, hM]
                rw [hcnt] at k1
                have hk := (pst_ok (ro := ro) (g := g) (y := y) ha6 ro.P).2
                have hby : fX8_matedBy F (nI r) (nI y) (nI u) = some (nI (M + (pst ro g a0 y ro.P).2), F2) := by
                  unfold fX8_matedBy
                  rw [hFa, b1s, b1', b1s, lte]
                  exact k1
                have nx := ih (y + 1) m F2 (by omega) (by omega) k2.2.2.2.1 k2.2.2.2.2 (fun i hi => by rw [k2.1]; exact k3.1.2.2 i hi)
                rw [hby, b2s]
                unfold fX8_touts_133
                rw [k4, nadd, show nI y + 1 = nI (y + 1) from nadd y 1]
                by_cases v : n ≤ M + (pst ro g a0 y ro.P).2
                · rw [if_neg (fun z => by have := (nI_ltI (by omega) (by omega)).mp z; omega)]
                  rw [e1, show term ro g r a0 u n M y = prd r u y ro.P from (if_pos ⟨q, v⟩).trans (prd_high hP (fun i h1 _ => rhi i h1))] at nx
                  exact nx
                · rw [if_pos ((nI_ltI (by omega) (by omega)).mpr (by omega))]
                  rw [e1, show term ro g r a0 u n M y = 0 from if_neg (fun z => v z.2)] at nx
                  rw [show nI (sm (term ro g r a0 u n M) y) + 0 = nI (sm (term ro g r a0 u n M) y + 0) from nadd _ 0]
                  exact nx
              · rw [if_neg (fun z => q ((sub_iff hy hr6).mp z)), show nI y + 1 = nI (y + 1) from nadd y 1]
                have nx := ih (y + 1) m F (by omega) (by omega) q1 q2 q3
                rw [e1, show term ro g r a0 u n M y = 0 from if_neg (fun z => q z.1), Nat.add_zero] at nx
                exact nx
          have hsame : sm (term ro g r a0 u n M) (2 ^ ro.P) = S := by
            have z0 : sm (fun y => term ro g r a0 u n M (2 ^ ro.P + y)) (256 - 2 ^ ro.P) = 0 := by
             refine sm_zero (fun i hi => ?_)
             show term ro g r a0 u n M (2 ^ ro.P + i) = 0
             refine if_neg (fun q => ?_)
             have hlt : 2 ^ ro.P + i < 2 ^ ro.P := Nat.lt_pow_two_of_testBit _ (fun j hj => by
               by_cases c : j < 8
               · have := (allB_t.mp q.1) j c
                 rw [rhi j hj, Bool.or_false] at this
                 cases e : (2 ^ ro.P + i).testBit j with
                 | false => rfl
                 | true => rw [e] at this; cases this
               · exact high_bit (by omega) (by omega))
             omega
            rw [← hS, show (256 : Nat) = 2 ^ ro.P + (256 - 2 ^ ro.P) by omega, sm_add, z0, Nat.add_zero]
          obtain ⟨F2, l1, l2, l3, l4⟩ := sums (2 ^ ro.P) 0 FU f5 (by omega) (by unfold FU; omega) (fun _ _ _ _ _ => rfl) (fun _ _ => rfl) (fun i hi => by rw [a2.b, eg]; exact hB.2.2 i hi)
          rw [hsame] at l1
          have hgc := mo_gcd (x1 := nI n) (x2 := nI u) (x3 := nI w) (f := F2) (t := 10 ^ W) (w := S) 27 S (10 ^ W) FU (by omega) (by omega) (by omega) (by decide) hgp
          rw [hD] at hgc
          refine ⟨F2, ?_, Sc.trans a2.s ⟨fun j h1 h2 => ?_, fun i hi => l3 i (by omega), fun i hi => by rw [l4 i hi, a2.b, eg]; exact (hB.2.2 i hi).symm⟩⟩
          · unfold fX8_touts
            rw [show fX8_in (nI n) (0 : Int32) (8 : Int32) = some 1 from hin1, b1s, if_neg (by decide), show fX8_in (nI u) (0 : Int32) (10 : Int32) = some 1 from hin2, b1s, if_neg (by decide), show fX8_in (nI w) (0 : Int32) (1 : Int32) = some 1 from hin, b1s, if_neg (by decide), a1, b2s]
            have tn := mo_ten (x1 := nI n) (x2 := nI u) (x3 := nI w) hP hr6 hr5.m0 ro.P 0 FU (by omega) (by unfold FU; omega)
            rw [hWP] at tn
            rw [show fX8_touts_43 (nI n) (nI u) (nI w) FU f5 (nI r) 1 0 = _ from tn]
            rw [show fX8_touts_85 (nI n) (nI u) (nI w) FU f5 (nI r) (nI (10 ^ W)) 0 0 = _ from l1, hgc]
            rcases (show w = 0 ∨ w = 1 by omega) with rfl | rfl <;> rfl
          · have := scr_t h1
            exact l2 j h2 (by omega) (by omega) (by omega)
        exact Same.mk' h ⟨fC, C, sc, by rw [eC 149 (by decide) (by decide)]⟩ (fun f' h' e => ref f' h' (e.trans hgg))
      · have ne := fun d (hd : d ≤ 1) => out_ne (by omega) hout (Nat.zero_le d) hd
        refine bad ?_ ?_
        · unfold fX7_touts fX7_isPart
          rw [if_neg cx1, if_neg cx2, if_neg cy1, if_neg cy2, if_neg (show ¬ z = (0 : Int32) from ne 0 (by omega)), if_neg (show ¬ z = (1 : Int32) from ne 1 (by omega)), b1s, if_pos rfl]
        · unfold fX8_touts
          rw [show fX8_in (nI n) (0 : Int32) (8 : Int32) = some 1 from hin1, b1s, if_neg (by decide), show fX8_in (nI u) (0 : Int32) (10 : Int32) = some 1 from hin2, b1s, if_neg (by decide), show fX8_in z (0 : Int32) (1 : Int32) = some 0 from hin, b1s, if_pos rfl]
    · refine bad ?_ ?_
      · unfold fX7_touts
        rw [if_neg cx1, if_neg cx2]
        rcases hout with q | q
        · rw [if_pos (show y < (0 : Int32) from q)]
        · by_cases v : y < 0
          · rw [if_pos v]
          · rw [if_neg v, if_pos (show (10 : Int32) < y from q)]
      · unfold fX8_touts
        rw [show fX8_in (nI n) (0 : Int32) (8 : Int32) = some 1 from hin1, b1s, if_neg (by decide), show fX8_in y (0 : Int32) (10 : Int32) = some 0 from hin2, b1s, if_pos rfl]
  · refine bad ?_ ?_
    · unfold fX7_touts
      rcases hout with q | q
      · rw [if_pos (show x < (0 : Int32) from q)]
      · by_cases v : x < 0
        · rw [if_pos v]
        · rw [if_neg v, if_pos (show (8 : Int32) < x from q)]
    · unfold fX8_touts
      rw [show fX8_in x (0 : Int32) (8 : Int32) = some 0 from hin1, b1s, if_pos rfl]
