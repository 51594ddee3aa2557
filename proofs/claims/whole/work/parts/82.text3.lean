/-! items and the whole text, by both; fault, write, wipe -/
def FR (f f2 : hF) : Prop := (∀ s, s ≠ 146 → ¬ (154 ≤ s ∧ s ≤ 157) → f2 s = f s) ∧ ∀ s, s ≤ 13 → f2 146 s = f 146 s
theorem FR.refl (f : hF) : FR f f := ⟨fun _ _ _ => rfl, fun _ _ => rfl⟩
theorem FR.trans {f g h : hF} (a : FR f g) (b : FR g h) : FR f h := ⟨fun s h1 h2 => (b.1 s h1 h2).trans (a.1 s h1 h2), fun s h1 => (b.2 s h1).trans (a.2 s h1)⟩
theorem FR.tm {n : Nat} {L : Nat → Nat} {f f2 : hF} (a : FR f f2) (h : TM n L f) : TM n L f2 := ⟨(a.2 13 (by omega)).trans h.1, fun i hi => by rw [a.1 153 (by omega) (by omega)]; exact h.2 i hi⟩
theorem mo_told {f : hF} {v : Nat → Nat} {j lo hi : Nat} (hj : j < 3) (hv : f 154 j = nI (v j)) (h9 : v j ≤ 99) (hlo : lo < 1000) (hhi : hi < 1000) : fX8_isTold f (nI j) (nI lo) (nI hi) = some (bI (decide (lo ≤ v j ∧ v j ≤ hi))) := by
  unfold fX8_isTold fX8_in
  rw [gdk hj (by omega), ncl (by omega), hv]
  by_cases a : v j < lo
  · rw [if_pos ((nI_ltI (by omega) (by omega)).mpr a), decide_eq_false (by omega)]; rfl
  · rw [if_neg (fun z => a ((nI_ltI (by omega) (by omega)).mp z))]
    by_cases b : hi < v j
    · rw [if_pos ((nI_ltI (by omega) (by omega)).mpr b), decide_eq_false (by omega)]; rfl
    · rw [if_neg (fun z => b ((nI_ltI (by omega) (by omega)).mp z)), decide_eq_true (by omega)]; rfl
theorem DM_fr {d : DR} {f f2 : hF} (e1 : ∀ s, s ≠ 146 → s ≠ 154 → f2 s = f s) (e2 : ∀ s, s ≠ 14 → f2 146 s = f 146 s) (h : DM d f) : DM d f2 := by
  refine ⟨by rw [e2 16 (by decide)]; exact h.1, by rw [e2 19 (by decide)]; exact h.2.1, by rw [e2 21 (by decide)]; exact h.2.2.1, ?_, ?_⟩
  · rw [e1 155 (by decide) (by decide), e1 156 (by decide) (by decide)]; exact h.2.2.2.1
  · rw [e1 157 (by decide) (by decide)]; exact h.2.2.2.2
theorem FR_n {f f2 : hF} (e1 : ∀ s, s ≠ 146 → s ≠ 154 → f2 s = f s) (e2 : ∀ s, s ≠ 14 → f2 146 s = f 146 s) : FR f f2 := ⟨fun s s1 s2 => e1 s s1 (by omega), fun s hs => e2 s (by omega)⟩
def spP (n : Nat) (L : Nat → Nat) (i : Nat) (d : DR) (w : Bool) : Option (DR × Nat) := match rdL n L 3 i 0 (fun _ => 0) with
  | none => none
  | some (u, i') => if d.1.P < 8 ∧ u 0 ≤ 2 ∧ u 1 ≤ 60 ∧ u 2 ≤ 60 then some (dP d w (u 0) (u 1) (u 2), i') else none
def spQ (n : Nat) (L : Nat → Nat) (i : Nat) (d : DR) : Option (DR × Nat) := match rdL n L 2 i 0 (fun _ => 0) with
  | none => none
  | some (u, i') => if d.1.Q < 3 ∧ u 0 ≤ 2 ∧ u 1 ≤ 20 then some (dQ d (u 0) (u 1), i') else none
def spL (n : Nat) (L : Nat → Nat) (i : Nat) (d : DR) : Option (DR × Nat) := match rdL n L 1 i 0 (fun _ => 0) with
  | none => none
  | some (u, i') => if 1 ≤ u 0 then some (dL d (u 0), i') else none
def moI (n : Nat) (L : Nat → Nat) (f : hF) (s : Option (DR × Nat)) (o : Option (Int32 × hF)) : Prop :=
  (s = none ∧ ∃ f2, o = some (0, f2) ∧ FR f f2) ∨ ∃ d' i' f2, s = some (d', i') ∧ o = some (1, f2) ∧ DM d' f2 ∧ f2 146 14 = nI i' ∧ FR f f2
theorem mo_readP {n : Nat} {L : Nat → Nat} (hL : TL n L) {i : Nat} {d : DR} {f : hF} (hi : i ≤ 300) (ok : DOK d) (h : DM d f) (hT : TM n L f) (hat : f 146 14 = nI i) (w : Bool) : moI n L f (spP n L i d w) (fX8_readPersonOf f (bI w)) := by
  have hP := ok.1
  have hnum := mo_nums hL (tot := 3) (by omega) 3 i 0 FU f (fun _ => 0) rfl (by decide) hi hT hat (fun t ht => absurd ht (Nat.not_lt_zero t))
  unfold moI spP fX8_readPersonOf fX8_readNumbers
  rw [h.1]
  by_cases a : d.1.P = 8
  · rw [if_pos (show nI d.1.P = 8 by rw [a]; rfl)]
    left
    refine ⟨?_, f, rfl, FR.refl f⟩
    cases rdL n L 3 i 0 (fun _ => 0) with
    | none => rfl
    | some p => exact if_neg (fun z => by have := z.1; omega)
  · rw [if_neg (show ¬ nI d.1.P = 8 from fun z => a ((nI_eq (b := 8) (by omega) (by omega)).mp z))]
    rw [show fX8_readNumbers_2 (3 : Int32) FU f 0 = fX8_readNumbers_2 (nI 3) FU f (nI 0) from rfl]
    cases q : rdL n L 3 i 0 (fun _ => 0) with
    | none =>
      rw [q] at hnum
      obtain ⟨f2, a1, a2, a3⟩ := hnum
      rw [a1, b2s, if_pos rfl]
      exact Or.inl ⟨rfl, f2, rfl, FR_n a2 a3⟩
    | some p =>
      obtain ⟨u, i'⟩ := p
      rw [q] at hnum
      obtain ⟨f2, a1, a2, a3, a4, a5⟩ := hnum
      have u9 := (rdL_le q).2.2 (fun _ => Nat.zero_le _)
      have hD := DM_fr a2 a3 h
      have t0 := mo_told (f := f2) (v := u) (j := 0) (lo := 0) (hi := 2) (by omega) (a5 0 (by omega)) (u9 0) (by omega) (by omega)
      have t1 := mo_told (f := f2) (v := u) (j := 1) (lo := 0) (hi := 60) (by omega) (a5 1 (by omega)) (u9 1) (by omega) (by omega)
      have t2 := mo_told (f := f2) (v := u) (j := 2) (lo := 0) (hi := 60) (by omega) (a5 2 (by omega)) (u9 2) (by omega) (by omega)
      rw [a1, b2s, if_neg (by decide)]
      rw [show fX8_isTold f2 (0 : Int32) (0 : Int32) (2 : Int32) = _ from t0, show fX8_isTold f2 (1 : Int32) (0 : Int32) (60 : Int32) = _ from t1, show fX8_isTold f2 (2 : Int32) (0 : Int32) (60 : Int32) = _ from t2, b1s, b1s, b1s, bi_if, bi_if, bi_if]
      show ((if d.1.P < 8 ∧ u 0 ≤ 2 ∧ u 1 ≤ 60 ∧ u 2 ≤ 60 then some (dP d w (u 0) (u 1) (u 2), i') else none) = none ∧ _) ∨ ∃ d' j' f3, (if d.1.P < 8 ∧ u 0 ≤ 2 ∧ u 1 ≤ 60 ∧ u 2 ≤ 60 then some (dP d w (u 0) (u 1) (u 2), i') else none) = some (d', j') ∧ _
      by_cases b0 : u 0 ≤ 2
      · rw [decide_eq_true (show 0 ≤ u 0 ∧ u 0 ≤ 2 from ⟨Nat.zero_le _, b0⟩), if_pos rfl]
        by_cases b1 : u 1 ≤ 60
        · rw [decide_eq_true (show 0 ≤ u 1 ∧ u 1 ≤ 60 from ⟨Nat.zero_le _, b1⟩), if_pos rfl]
          by_cases b2 : u 2 ≤ 60
          · rw [decide_eq_true (show 0 ≤ u 2 ∧ u 2 ≤ 60 from ⟨Nat.zero_le _, b2⟩), if_pos rfl, if_pos ⟨by omega, b0, b1, b2⟩]
            right
            have m16 : f2 146 16 = nI d.1.P := hD.1
            have s16 : ∀ (F : hF) (k x : Nat) (y : Int32), k ≠ 146 → F 146 16 = nI d.1.P → st2 F k x y 146 16 = nI d.1.P := fun F k x y hk e => by rw [s2_n (fun z => hk z.symm)]; exact e
            have c1 : (3 : Int32) * nI d.1.P = nI (3 * d.1.P) := nmul 3 _
            have e55 : ∀ (F : hF), fX8_tellsPerson F (bI w) (nI (u 0)) (nI (u 1)) (nI (u 2)) = fX8_tellsPerson F (bI w) (nI (u 0)) (nI (u 1)) (nI (u 2)) := fun _ => rfl
            rw [gd0 (by decide), show gd (1 : Int32) 3 = gd (nI 1) 3 from rfl, show gd (2 : Int32) 3 = gd (nI 2) 3 from rfl, gdk (show 1 < 3 by decide) (by omega), gdk (show 2 < 3 by decide) (by omega), cl0, show (1 : Int32).toNatClampNeg = 1 from rfl, show (2 : Int32).toNatClampNeg = 2 from rfl, a5 0 (by omega), a5 1 (by omega), a5 2 (by omega)]
            have hT8 : fX8_tellsPerson f2 (bI w) (nI (u 0)) (nI (u 1)) (nI (u 2)) = some (st2 (st2 (st2 (st2 (st2 f2 155 (3 * d.1.P) (bI w)) 155 (3 * d.1.P + 1) (nI (u 0))) 155 (3 * d.1.P + 2) (nI (u 1))) 156 d.1.P (nI (u 2))) 146 16 (nI (d.1.P + 1))) := by
              unfold fX8_tellsPerson
              rw [m16, c1, gdk (show 3 * d.1.P < 24 by omega) (by omega), lte, ncl (by omega), s2_n (j := 146) (k := 155) (by decide), m16, c1, show nI (3 * d.1.P) + 1 = nI (3 * d.1.P + 1) from nadd _ 1, gdk (show 3 * d.1.P + 1 < 24 by omega) (by omega), lte, ncl (by omega), s2_n (j := 146) (k := 155) (by decide), s2_n (j := 146) (k := 155) (by decide), m16, c1, show nI (3 * d.1.P) + 2 = nI (3 * d.1.P + 2) from nadd _ 2, gdk (show 3 * d.1.P + 2 < 24 by omega) (by omega), lte, ncl (by omega), s2_n (j := 146) (k := 155) (by decide), s2_n (j := 146) (k := 155) (by decide), s2_n (j := 146) (k := 155) (by decide), m16, gdk (show d.1.P < 8 by omega) (by omega), lte, ncl (by omega), s2_n (j := 146) (k := 156) (by decide), s2_n (j := 146) (k := 155) (by decide), s2_n (j := 146) (k := 155) (by decide), s2_n (j := 146) (k := 155) (by decide), m16, lte, show nI d.1.P + 1 = nI (d.1.P + 1) from nadd _ 1]
            refine ⟨dP d w (u 0) (u 1) (u 2), i', _, rfl, by rw [hT8]; rfl, ⟨?_, ?_, ?_, fun x hx => ?_, fun p hp => ?_⟩, ?_, FR.trans (FR_n a2 a3) ⟨fun s s1 s2 => ?_, fun s hs => ?_⟩⟩
            · rw [s2_s, u_s]; rfl
            · rw [s2_s, u_n (by decide), s2_n (by decide), s2_n (by decide), s2_n (by decide), s2_n (by decide)]; exact hD.2.1
            · rw [s2_s, u_n (by decide), s2_n (by decide), s2_n (by decide), s2_n (by decide), s2_n (by decide)]; exact hD.2.2.1
            · have g155 : st2 (st2 (st2 (st2 (st2 f2 155 (3 * d.1.P) (bI w)) 155 (3 * d.1.P + 1) (nI (u 0))) 155 (3 * d.1.P + 2) (nI (u 1))) 156 d.1.P (nI (u 2))) 146 16 (nI (d.1.P + 1)) 155 = upd (upd (upd (f2 155) (3 * d.1.P) (bI w)) (3 * d.1.P + 1) (nI (u 0))) (3 * d.1.P + 2) (nI (u 1)) := by rw [s2_n (by decide), s2_n (by decide), s2_s, s2_s, s2_s]
              have g156 : st2 (st2 (st2 (st2 (st2 f2 155 (3 * d.1.P) (bI w)) 155 (3 * d.1.P + 1) (nI (u 0))) 155 (3 * d.1.P + 2) (nI (u 1))) 156 d.1.P (nI (u 2))) 146 16 (nI (d.1.P + 1)) 156 = upd (f2 156) d.1.P (nI (u 2)) := by rw [s2_n (by decide), s2_s, s2_n (by decide), s2_n (by decide), s2_n (by decide)]
              rw [g155, g156]
              show _ = bI (fu d.1.fm d.1.P w x) ∧ _ = nI (fu d.1.kd d.1.P (u 0) x) ∧ _ = nI (fu d.1.db d.1.P (u 1) x) ∧ _ = nI (fu d.2 d.1.P (u 2) x)
              by_cases y : x = d.1.P
              · rw [y, fu_s, fu_s, fu_s, fu_s]
                refine ⟨?_, ?_, u_s _ _ _, u_s _ _ _⟩
                · rw [u_n (by omega), u_n (by omega), u_s]
                · rw [u_n (by omega), u_s]
              · rw [fu_n y, fu_n y, fu_n y, fu_n y, u_n y, u_n (j := 3 * x) (by omega), u_n (j := 3 * x) (by omega), u_n (j := 3 * x) (by omega), u_n (j := 3 * x + 1) (by omega), u_n (j := 3 * x + 1) (by omega), u_n (j := 3 * x + 1) (by omega), u_n (j := 3 * x + 2) (by omega), u_n (j := 3 * x + 2) (by omega), u_n (j := 3 * x + 2) (by omega)]
                have hx' : x < d.1.P + 1 := hx
                exact hD.2.2.2.1 x (by omega)
            · rw [s2_n (by decide), s2_n (by decide), s2_n (by decide), s2_n (by decide), s2_n (by decide)]; exact hD.2.2.2.2 p hp
            · rw [s2_s, u_n (by decide), s2_n (by decide), s2_n (by decide), s2_n (by decide), s2_n (by decide)]; exact a4
            · rw [s2_n s1, s2_n (by omega), s2_n (by omega), s2_n (by omega), s2_n (by omega)]
            · rw [s2_s, u_n (by omega), s2_n (by decide), s2_n (by decide), s2_n (by decide), s2_n (by decide)]
          · rw [decide_eq_false (show ¬ (0 ≤ u 2 ∧ u 2 ≤ 60) from fun z => b2 z.2), if_neg (show ¬ false = true by decide), if_neg (fun z => b2 z.2.2.2)]
            exact Or.inl ⟨rfl, f2, rfl, FR_n a2 a3⟩
        · rw [decide_eq_false (show ¬ (0 ≤ u 1 ∧ u 1 ≤ 60) from fun z => b1 z.2), if_neg (show ¬ false = true by decide), if_neg (fun z => b1 z.2.2.1)]
          exact Or.inl ⟨rfl, f2, rfl, FR_n a2 a3⟩
      · rw [decide_eq_false (show ¬ (0 ≤ u 0 ∧ u 0 ≤ 2) from fun z => b0 z.2), if_neg (show ¬ false = true by decide), if_neg (fun z => b0 z.2.1)]
        exact Or.inl ⟨rfl, f2, rfl, FR_n a2 a3⟩
theorem mo_readQ {n : Nat} {L : Nat → Nat} (hL : TL n L) {i : Nat} {d : DR} {f : hF} (hi : i ≤ 300) (ok : DOK d) (h : DM d f) (hT : TM n L f) (hat : f 146 14 = nI i) : moI n L f (spQ n L i d) (fX8_readParsonOf f) := by
  have hP := ok.2.1
  have hnum := mo_nums hL (tot := 2) (by omega) 2 i 0 FU f (fun _ => 0) rfl (by decide) hi hT hat (fun t ht => absurd ht (Nat.not_lt_zero t))
  unfold moI spQ fX8_readParsonOf fX8_readNumbers
  rw [h.2.1]
  by_cases a : d.1.Q = 3
  · rw [if_pos (show nI d.1.Q = 3 by rw [a]; rfl)]
    left
    refine ⟨?_, f, rfl, FR.refl f⟩
    cases rdL n L 2 i 0 (fun _ => 0) with
    | none => rfl
    | some p => exact if_neg (fun z => by have := z.1; omega)
  · rw [if_neg (show ¬ nI d.1.Q = 3 from fun z => a ((nI_eq (b := 3) (by omega) (by omega)).mp z))]
    rw [show fX8_readNumbers_2 (2 : Int32) FU f 0 = fX8_readNumbers_2 (nI 2) FU f (nI 0) from rfl]
    cases q : rdL n L 2 i 0 (fun _ => 0) with
    | none =>
      rw [q] at hnum
      obtain ⟨f2, a1, a2, a3⟩ := hnum
      rw [a1, b2s, if_pos rfl]
      exact Or.inl ⟨rfl, f2, rfl, FR_n a2 a3⟩
    | some p =>
      obtain ⟨u, i'⟩ := p
      rw [q] at hnum
      obtain ⟨f2, a1, a2, a3, a4, a5⟩ := hnum
      have u9 := (rdL_le q).2.2 (fun _ => Nat.zero_le _)
      have hD := DM_fr a2 a3 h
      have t0 := mo_told (f := f2) (v := u) (j := 0) (lo := 0) (hi := 2) (by omega) (a5 0 (by omega)) (u9 0) (by omega) (by omega)
      have t1 := mo_told (f := f2) (v := u) (j := 1) (lo := 0) (hi := 20) (by omega) (a5 1 (by omega)) (u9 1) (by omega) (by omega)
      rw [a1, b2s, if_neg (by decide)]
      rw [show fX8_isTold f2 (0 : Int32) (0 : Int32) (2 : Int32) = _ from t0, show fX8_isTold f2 (1 : Int32) (0 : Int32) (20 : Int32) = _ from t1, b1s, b1s, bi_if, bi_if]
      show ((if d.1.Q < 3 ∧ u 0 ≤ 2 ∧ u 1 ≤ 20 then some (dQ d (u 0) (u 1), i') else none) = none ∧ _) ∨ ∃ d' j' f3, (if d.1.Q < 3 ∧ u 0 ≤ 2 ∧ u 1 ≤ 20 then some (dQ d (u 0) (u 1), i') else none) = some (d', j') ∧ _
      by_cases b0 : u 0 ≤ 2
      · rw [decide_eq_true (show 0 ≤ u 0 ∧ u 0 ≤ 2 from ⟨Nat.zero_le _, b0⟩), if_pos rfl]
        by_cases b1 : u 1 ≤ 20
        · rw [decide_eq_true (show 0 ≤ u 1 ∧ u 1 ≤ 20 from ⟨Nat.zero_le _, b1⟩), if_pos rfl, if_pos ⟨by omega, b0, b1⟩]
          right
          have m19 : f2 146 19 = nI d.1.Q := hD.2.1
          have c1 : (2 : Int32) * nI d.1.Q = nI (2 * d.1.Q) := nmul 2 _
          rw [gd0 (by decide), show gd (1 : Int32) 3 = gd (nI 1) 3 from rfl, gdk (show 1 < 3 by decide) (by omega), cl0, show (1 : Int32).toNatClampNeg = 1 from rfl, a5 0 (by omega), a5 1 (by omega)]
          have hT8 : fX8_tellsParson f2 (nI (u 0)) (nI (u 1)) = some (st2 (st2 (st2 f2 157 (2 * d.1.Q) (nI (u 0))) 157 (2 * d.1.Q + 1) (nI (u 1))) 146 19 (nI (d.1.Q + 1))) := by
            unfold fX8_tellsParson
            rw [m19, c1, gdk (show 2 * d.1.Q < 6 by omega) (by omega), lte, ncl (by omega), s2_n (j := 146) (k := 157) (by decide), m19, c1, show nI (2 * d.1.Q) + 1 = nI (2 * d.1.Q + 1) from nadd _ 1, gdk (show 2 * d.1.Q + 1 < 6 by omega) (by omega), lte, ncl (by omega), s2_n (j := 146) (k := 157) (by decide), s2_n (j := 146) (k := 157) (by decide), m19, lte, show nI d.1.Q + 1 = nI (d.1.Q + 1) from nadd _ 1]
          refine ⟨dQ d (u 0) (u 1), i', _, rfl, by rw [hT8]; rfl, ⟨?_, ?_, ?_, fun x hx => ?_, fun p hp => ?_⟩, ?_, FR.trans (FR_n a2 a3) ⟨fun s s1 s2 => ?_, fun s hs => ?_⟩⟩
          · rw [s2_s, u_n (by decide), s2_n (by decide), s2_n (by decide)]; exact hD.1
          · rw [s2_s, u_s]; rfl
          · rw [s2_s, u_n (by decide), s2_n (by decide), s2_n (by decide)]; exact hD.2.2.1
          · rw [s2_n (by decide), s2_n (by decide), s2_n (by decide), s2_n (by decide), s2_n (by decide), s2_n (by decide)]; exact hD.2.2.2.1 x hx
          · have g157 : st2 (st2 (st2 f2 157 (2 * d.1.Q) (nI (u 0))) 157 (2 * d.1.Q + 1) (nI (u 1))) 146 19 (nI (d.1.Q + 1)) 157 = upd (upd (f2 157) (2 * d.1.Q) (nI (u 0))) (2 * d.1.Q + 1) (nI (u 1)) := by rw [s2_n (by decide), s2_s, s2_s]
            rw [g157]
            show _ = nI (fu d.1.tr d.1.Q (u 0) p) ∧ _ = nI (fu d.1.pr d.1.Q (u 1) p)
            by_cases y : p = d.1.Q
            · rw [y, fu_s, fu_s]
              refine ⟨?_, u_s _ _ _⟩
              rw [u_n (by omega), u_s]
            · rw [fu_n y, fu_n y, u_n (j := 2 * p) (by omega), u_n (j := 2 * p) (by omega), u_n (j := 2 * p + 1) (by omega), u_n (j := 2 * p + 1) (by omega)]
              have hp' : p < d.1.Q + 1 := hp
              exact hD.2.2.2.2 p (by omega)
          · rw [s2_s, u_n (by decide), s2_n (by decide), s2_n (by decide)]; exact a4
          · rw [s2_n s1, s2_n (by omega), s2_n (by omega)]
          · rw [s2_s, u_n (by omega), s2_n (by decide), s2_n (by decide)]
        · rw [decide_eq_false (show ¬ (0 ≤ u 1 ∧ u 1 ≤ 20) from fun z => b1 z.2), if_neg (show ¬ false = true by decide), if_neg (fun z => b1 z.2.2)]
          exact Or.inl ⟨rfl, f2, rfl, FR_n a2 a3⟩
      · rw [decide_eq_false (show ¬ (0 ≤ u 0 ∧ u 0 ≤ 2) from fun z => b0 z.2), if_neg (show ¬ false = true by decide), if_neg (fun z => b0 z.2.1)]
        exact Or.inl ⟨rfl, f2, rfl, FR_n a2 a3⟩
theorem mo_readL {n : Nat} {L : Nat → Nat} (hL : TL n L) {i : Nat} {d : DR} {f : hF} (hi : i ≤ 300) (h : DM d f) (hT : TM n L f) (hat : f 146 14 = nI i) : moI n L f (spL n L i d) (fX8_readLawOf f) := by
  have hnum := mo_nums hL (tot := 1) (by omega) 1 i 0 FU f (fun _ => 0) rfl (by decide) hi hT hat (fun t ht => absurd ht (Nat.not_lt_zero t))
  unfold moI spL fX8_readLawOf fX8_readNumbers
  rw [show fX8_readNumbers_2 (1 : Int32) FU f 0 = fX8_readNumbers_2 (nI 1) FU f (nI 0) from rfl]
  have z23 : ∀ F : hF, ∃ F2, fX8_readLawOf_23 F = some (0, F2) ∧ FR F F2 := fun F => by
    refine ⟨st2 F 146 21 (F 146 21), ?_, fun s s1 _ => s2_n s1, fun s hs => by rw [s2_s, u_n (by omega)]⟩
    unfold fX8_readLawOf_23 fX8_readLawOf_24 fX8_readLawOf_43
    rw [if_pos rfl, lte]
    rfl
  cases q : rdL n L 1 i 0 (fun _ => 0) with
  | none =>
    rw [q] at hnum
    obtain ⟨f2, a1, a2, a3⟩ := hnum
    rw [a1, b2s, if_pos rfl]
    obtain ⟨F2, c1, c2⟩ := z23 f2
    exact Or.inl ⟨rfl, F2, c1, FR.trans (FR_n a2 a3) c2⟩
  | some p =>
    obtain ⟨u, i'⟩ := p
    rw [q] at hnum
    obtain ⟨f2, a1, a2, a3, a4, a5⟩ := hnum
    have u9 := (rdL_le q).2.2 (fun _ => Nat.zero_le _)
    have hD := DM_fr a2 a3 h
    have t0 := mo_told (f := f2) (v := u) (j := 0) (lo := 1) (hi := 99) (by omega) (a5 0 (by omega)) (u9 0) (by omega) (by omega)
    rw [a1, b2s, if_neg (by decide), show fX8_isTold f2 (0 : Int32) (1 : Int32) (99 : Int32) = _ from t0, b1s, bi_if]
    show ((if 1 ≤ u 0 then some (dL d (u 0), i') else none) = none ∧ _) ∨ ∃ d' j' f3, (if 1 ≤ u 0 then some (dL d (u 0), i') else none) = some (d', j') ∧ _
    by_cases b0 : 1 ≤ u 0
    · rw [decide_eq_true (show 1 ≤ u 0 ∧ u 0 ≤ 99 from ⟨b0, u9 0⟩), if_pos rfl, if_pos b0]
      right
      refine ⟨dL d (u 0), i', st2 f2 146 21 (nI (u 0)), rfl, ?_, ⟨?_, ?_, ?_, fun x hx => ?_, fun p hp => ?_⟩, ?_, FR.trans (FR_n a2 a3) ⟨fun s s1 _ => s2_n s1, fun s hs => by rw [s2_s, u_n (by omega)]⟩⟩
      · unfold fX8_readLawOf_24 fX8_readLawOf_43
        rw [if_neg (by decide), gd0 (by decide), lte, cl0, a5 0 (by omega)]
        rfl
      · rw [s2_s, u_n (by decide)]; exact hD.1
      · rw [s2_s, u_n (by decide)]; exact hD.2.1
      · rw [s2_s, u_s]; rfl
      · rw [s2_n (by decide), s2_n (by decide)]; exact hD.2.2.2.1 x hx
      · rw [s2_n (by decide)]; exact hD.2.2.2.2 p hp
      · rw [s2_s, u_n (by decide)]; exact a4
    · rw [decide_eq_false (show ¬ (1 ≤ u 0 ∧ u 0 ≤ 99) from fun z => b0 z.1), if_neg (show ¬ false = true by decide), if_neg b0]
      obtain ⟨F2, c1, c2⟩ := z23 f2
      exact Or.inl ⟨rfl, F2, c1, FR.trans (FR_n a2 a3) c2⟩
