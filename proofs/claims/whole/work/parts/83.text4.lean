/-! an item, the whole text: by both; fault, write, wipe -/
def item (n : Nat) (L : Nat → Nat) (i : Nat) (d : DR) : Option (DR × Nat) :=
  if nmb (L i) = 0 then none else match rdL n L (nmb (L i)) (i + 1) 0 (fun _ => 0) with
    | none => none
    | some (u, i') => match ent d (L i) u with
      | none => none
      | some d' => some (d', i')
theorem item_P {n : Nat} {L : Nat → Nat} {i : Nat} {d : DR} (h : L i = 109 ∨ L i = 119) : item n L i d = spP n L (i + 1) d (decide (L i = 119)) := by
  unfold item spP ent
  have n3 : nmb (L i) = 3 := if_pos h
  rw [n3, if_neg (by decide)]
  cases rdL n L 3 (i + 1) 0 (fun _ => 0) with
  | none => rfl
  | some p =>
    obtain ⟨u, i'⟩ := p
    show (match (if L i = 109 ∨ L i = 119 then (if d.1.P < 8 ∧ u 0 ≤ 2 ∧ u 1 ≤ 60 ∧ u 2 ≤ 60 then some (dP d (decide (L i = 119)) (u 0) (u 1) (u 2)) else none) else _ : Option DR) with | none => none | some d' => some (d', i')) = if d.1.P < 8 ∧ u 0 ≤ 2 ∧ u 1 ≤ 60 ∧ u 2 ≤ 60 then some (dP d (decide (L i = 119)) (u 0) (u 1) (u 2), i') else none
    rw [if_pos h]
    by_cases q : d.1.P < 8 ∧ u 0 ≤ 2 ∧ u 1 ≤ 60 ∧ u 2 ≤ 60
    · rw [if_pos q, if_pos q]
    · rw [if_neg q, if_neg q]
theorem item_Q {n : Nat} {L : Nat → Nat} {i : Nat} {d : DR} (h : L i = 112) : item n L i d = spQ n L (i + 1) d := by
  unfold item spQ ent
  have hn : ¬ (L i = 109 ∨ L i = 119) := by omega
  have n3 : nmb (L i) = 2 := by unfold nmb; rw [if_neg hn, if_pos h]
  rw [n3, if_neg (by decide)]
  cases rdL n L 2 (i + 1) 0 (fun _ => 0) with
  | none => rfl
  | some p =>
    obtain ⟨u, i'⟩ := p
    show (match (if L i = 109 ∨ L i = 119 then _ else if L i = 112 then (if d.1.Q < 3 ∧ u 0 ≤ 2 ∧ u 1 ≤ 20 then some (dQ d (u 0) (u 1)) else none) else _ : Option DR) with | none => none | some d' => some (d', i')) = if d.1.Q < 3 ∧ u 0 ≤ 2 ∧ u 1 ≤ 20 then some (dQ d (u 0) (u 1), i') else none
    rw [if_neg hn, if_pos h]
    by_cases q : d.1.Q < 3 ∧ u 0 ≤ 2 ∧ u 1 ≤ 20
    · rw [if_pos q, if_pos q]
    · rw [if_neg q, if_neg q]
theorem item_L {n : Nat} {L : Nat → Nat} {i : Nat} {d : DR} (h : L i = 108) : item n L i d = spL n L (i + 1) d := by
  unfold item spL ent
  have hn : ¬ (L i = 109 ∨ L i = 119) := by omega
  have hn2 : ¬ L i = 112 := by omega
  have n3 : nmb (L i) = 1 := by unfold nmb; rw [if_neg hn, if_neg hn2, if_pos h]
  rw [n3, if_neg (by decide)]
  cases rdL n L 1 (i + 1) 0 (fun _ => 0) with
  | none => rfl
  | some p =>
    obtain ⟨u, i'⟩ := p
    show (match (if L i = 109 ∨ L i = 119 then _ else if L i = 112 then _ else (if 1 ≤ u 0 then some (dL d (u 0)) else none) : Option DR) with | none => none | some d' => some (d', i')) = if 1 ≤ u 0 then some (dL d (u 0), i') else none
    rw [if_neg hn, if_neg hn2]
    by_cases q : 1 ≤ u 0
    · rw [if_pos q, if_pos q]
    · rw [if_neg q, if_neg q]
theorem mo_item {n : Nat} {L : Nat → Nat} (hL : TL n L) {i : Nat} {d : DR} {f : hF} (hi : i < n) (ok : DOK d) (h : DM d f) (hT : TM n L f) (hat : f 146 14 = nI i) : moI n L f (item n L i d) (fX8_readItem f) := by
  have hn := hL.1
  have hc : L i < 1000 := by have := (hL.2 i hi).2; omega
  have c109 : nI (L i) = (109 : Int32) ↔ L i = 109 := cq (k := 109) hc (by decide)
  have c119 : nI (L i) = (119 : Int32) ↔ L i = 119 := cq (k := 119) hc (by decide)
  have c112 : nI (L i) = (112 : Int32) ↔ L i = 112 := cq (k := 112) hc (by decide)
  have c108 : nI (L i) = (108 : Int32) ↔ L i = 108 := cq (k := 108) hc (by decide)
  have h1 : DM d (st2 f 146 14 (nI (i + 1))) := DM_fr (fun s s1 _ => s2_n s1) (fun s hs => by rw [s2_s, u_n hs]) h
  have hT1 : TM n L (st2 f 146 14 (nI (i + 1))) := ⟨by rw [s2_s, u_n (by decide)]; exact hT.1, fun t ht => by rw [s2_n (by decide)]; exact hT.2 t ht⟩
  have hat1 : st2 f 146 14 (nI (i + 1)) 146 14 = nI (i + 1) := by rw [s2_s, u_s]
  have fr1 : FR f (st2 f 146 14 (nI (i + 1))) := ⟨fun s s1 _ => s2_n s1, fun s hs => by rw [s2_s, u_n (by omega)]⟩
  have lift : ∀ (s : Option (DR × Nat)) (o : Option (Int32 × hF)), moI n L (st2 f 146 14 (nI (i + 1))) s o → moI n L f s (b2 o fun r3 f4 => nr .boolean r3 <| some (r3, f4)) := by
    rintro s o (⟨e1, f2, e2, e3⟩ | ⟨d', i', f2, e1, e2, e3, e4, e5⟩)
    · rw [e2]; exact Or.inl ⟨e1, f2, rfl, FR.trans fr1 e3⟩
    · rw [e2]; exact Or.inr ⟨d', i', f2, e1, rfl, e3, e4, FR.trans fr1 e5⟩
  unfold fX8_readItem
  rw [hat, mo_at hL hT (by omega), if_pos hi, b1s, lte, show nI i + 1 = nI (i + 1) from nadd i 1]
  simp only [c109, c119, c112, c108]
  by_cases a : L i = 108
  · rw [if_pos a, item_L a]
    exact lift _ _ (mo_readL hL (by omega) h1 hT1 hat1)
  · rw [if_neg a]
    by_cases b : L i = 109
    · rw [if_pos b, item_P (Or.inl b), show decide (L i = 119) = false from decide_eq_false (by omega)]
      exact lift _ _ (mo_readP hL (by omega) ok h1 hT1 hat1 false)
    · rw [if_neg b]
      by_cases c : L i = 112
      · rw [if_pos c, item_Q c]
        exact lift _ _ (mo_readQ hL (by omega) ok h1 hT1 hat1)
      · rw [if_neg c]
        by_cases e : L i = 119
        · rw [if_pos e, item_P (Or.inr e), show decide (L i = 119) = true from decide_eq_true e]
          exact lift _ _ (mo_readP hL (by omega) ok h1 hT1 hat1 true)
        · rw [if_neg e]
          refine Or.inl ⟨?_, _, rfl, fr1⟩
          unfold item nmb
          rw [if_neg (show ¬ (L i = 109 ∨ L i = 119) by omega), if_neg c, if_neg a, if_pos rfl]
theorem TC_fr {n : Nat} {L : Nat → Nat} {f f2 : hF} (e1 : f2 1 = f 1) (e2 : f2 2 = f 2) (h : TC n L f) : TC n L f2 := ⟨by rw [e1]; exact h.1, by rw [e2]; exact h.2⟩
theorem DC_fr {k : Nat} {d : DR} {f f2 : hF} (e : ∀ j, k ≤ j → j ≤ k + 6 → f2 j = f j) (h : DC k d f) : DC k d f2 := by
  unfold DC at h ⊢
  rw [e k (by omega) (by omega), e (k+1) (by omega) (by omega), e (k+2) (by omega) (by omega), e (k+3) (by omega) (by omega), e (k+4) (by omega) (by omega), e (k+5) (by omega) (by omega), e (k+6) (by omega) (by omega)]
  exact h
theorem co_item {n : Nat} {L : Nat → Nat} (hL : TL n L) {k i : Nat} {d : DR} {f : hF} (hk : 3 ≤ k) (hi : i < n) (ok : DOK d) (h : DC k d f) (hT : TC n L f) :
    (item n L i d = none ∧ ∃ f2, fX3_readItem k 1 f (nI i) = some (-4, f2) ∧ DC k d f2 ∧ ∀ j, ¬ (k ≤ j ∧ j ≤ k + 7) → f2 j = f j) ∨
    ∃ d' i' f2, item n L i d = some (d', i') ∧ i < i' ∧ i' ≤ n ∧ DOK d' ∧ fX3_readItem k 1 f (nI i) = some (nI i', f2) ∧ DC k d' f2 ∧ ∀ j, ¬ (k ≤ j ∧ j ≤ k + 7) → f2 j = f j := by
  have hn := hL.1
  have hc : L i < 1000 := by have := (hL.2 i hi).2; omega
  have h3 := nmb_le (L i)
  have e76n : ∀ F : hF, fX3_readItem_76 k 1 (nI i) F (nI (L i)) (-4) = some (-4, F) := fun F => by
    unfold fX3_readItem_76
    rw [if_pos (Int32.le_of_lt (Int32.lt_of_lt_of_le (by decide) (nI_pos' (by omega))))]
  unfold fX3_readItem
  rw [co_at hL hT (by omega), if_pos hi, b1s, co_numbers hc, b1s]
  by_cases z : nmb (L i) = 0
  · rw [if_pos (show nI (nmb (L i)) = 0 by rw [z]; rfl), z]
    left
    refine ⟨if_pos z, f, ?_, h, fun _ _ => rfl⟩
    show fX3_readItem_30 k 1 (nI i) FU f (nI (L i)) 0 (-4) 0 = _
    obtain ⟨m, hm⟩ : ∃ m, FU = m + 1 := ⟨FU - 1, by decide⟩
    rw [hm, fX3_readItem_30, if_pos (by decide), e76n]
  · rw [if_neg (show ¬ nI (nmb (L i)) = 0 from fun y => z ((nI_eq (b := 0) (by omega) (by omega)).mp y)), show nI i + 1 = nI (i + 1) from nadd i 1]
    have hnum := co_nums hL (k := k) (x2 := i) (tot := nmb (L i)) hk h3 (nI (L i)) (nmb (L i)) (i + 1) 0 FU f (fun _ => 0) (by omega) (by unfold FU; omega) (by omega) (by omega) hT (fun t ht => absurd ht (Nat.not_lt_zero t))
    rw [show fX3_readItem_30 k 1 (nI i) FU f (nI (L i)) (nI (nmb (L i))) (nI (i + 1)) 0 = fX3_readItem_30 k 1 (nI i) FU f (nI (L i)) (nI (nmb (L i))) (nI (i + 1)) (nI 0) from rfl]
    unfold item
    rw [if_neg z]
    cases q : rdL n L (nmb (L i)) (i + 1) 0 (fun _ => 0) with
    | none =>
      rw [q] at hnum
      obtain ⟨f2, a1, a2⟩ := hnum
      exact Or.inl ⟨rfl, f2, a1, DC_fr (fun j j1 j2 => a2 j (by omega)) h, fun j hj => a2 j (by omega)⟩
    | some p =>
      obtain ⟨u, i'⟩ := p
      rw [q] at hnum
      obtain ⟨f2, a1, a2, a3⟩ := hnum
      have hle := rdL_le q
      have u9 := hle.2.2 (fun _ => Nat.zero_le _)
      have hi' := hle.2.1 (by omega)
      have e76 : fX3_readItem_76 k 1 (nI i) f2 (nI (L i)) (nI i') = b2 (fX3_enter k f2 (nI (L i))) fun r2 f3 => (if r2 = 0 then some ((-4), f3) else some (nI i', f3)) := by
        unfold fX3_readItem_76
        rw [if_neg (show ¬ nI i' ≤ nI i from fun y => by have := (nI_leI (by omega) (by omega)).mp y; omega)]
      rw [a1, e76]
      show ((match ent d (L i) u with | none => none | some d' => some (d', i')) = none ∧ _) ∨ ∃ d' i'' f3, (match ent d (L i) u with | none => none | some d' => some (d', i')) = some (d', i'') ∧ _
      rcases co_enter hk ok (DC_fr (fun j j1 j2 => a2 j (by omega)) h) hc z a3 u9 with ⟨e1, e2⟩ | ⟨d', f3, e1, e2, e3, e4⟩
      · rw [e1, e2, b2s, if_pos rfl]
        exact Or.inl ⟨rfl, f2, rfl, DC_fr (fun j j1 j2 => a2 j (by omega)) h, fun j hj => a2 j (by omega)⟩
      · rw [e1, e2, b2s, if_neg (by decide)]
        exact Or.inr ⟨d', i', f3, rfl, by omega, hi', ent_ok ok u9 e1, rfl, e3, fun j hj => by rw [e4 j (by omega), a2 j (by omega)]⟩
def prs (n : Nat) (L : Nat → Nat) : Nat → Nat → DR → Option Nat × DR
  | 0, _, d => (none, d)
  | m+1, i, d => if n ≤ i then (none, d) else match item n L i d with
    | none => (some i, d)
    | some (d', i') => prs n L m i' d'
def ansP : Option Nat → Int32
  | none => -4
  | some i => nI i
theorem co_prs {n : Nat} {L : Nat → Nat} (hL : TL n L) {k : Nat} (hk : 3 ≤ k) : ∀ (m i fuel : Nat) (d : DR) (f : hF), n - i < m → n - i < fuel → i ≤ n → DOK d → DC k d f → TC n L f →
    ∃ f2, fX3_readFrom_18 k 1 fuel f (nI i) = some (ansP (prs n L m i d).1, f2) ∧ DC k (prs n L m i d).2 f2 ∧ DOK (prs n L m i d).2 ∧ ∀ j, ¬ (k ≤ j ∧ j ≤ k + 7) → f2 j = f j := by
  intro m
  induction m with
  | zero => intro i fuel d f h1; exact absurd h1 (Nat.not_lt_zero _)
  | succ m ih =>
    intro i fuel d f h1 h2 h3 ok hd hT
    obtain ⟨fuel, rfl⟩ : ∃ k, fuel = k + 1 := ⟨fuel - 1, by omega⟩
    have hn := hL.1
    rw [fX3_readFrom_18, hT.1]
    unfold prs
    by_cases z : n ≤ i
    · rw [if_pos ((nI_leI (by omega) (by omega)).mpr z), if_pos z]
      exact ⟨f, rfl, hd, ok, fun _ _ => rfl⟩
    · rw [if_neg (fun y => z ((nI_leI (by omega) (by omega)).mp y)), if_neg z]
      rcases co_item hL hk (show i < n by omega) ok hd hT with ⟨e1, f2, e2, e3, e4⟩ | ⟨d', i', f2, e1, l1, l2, ok', e2, e3, e4⟩
      · rw [e1, e2, b2s, if_neg (show ¬ nI i < -4 from fun y => absurd (Int32.lt_trans y (show (-4 : Int32) < 0 by decide)) (nI_pos (by omega)))]
        exact ⟨f2, rfl, e3, ok, e4⟩
      · rw [e1, e2, b2s, if_pos ((nI_ltI (by omega) (by omega)).mpr l1)]
        obtain ⟨f3, k1, k2, k3, k4⟩ := ih i' fuel d' f2 (by omega) (by omega) l2 ok' e3 (TC_fr (e4 1 (by omega)) (e4 2 (by omega)) hT)
        exact ⟨f3, k1, k2, k3, fun j hj => by rw [k4 j hj, e4 j hj]⟩
theorem mo_prs {n : Nat} {L : Nat → Nat} (hL : TL n L) : ∀ (m i fuel : Nat) (d : DR) (f : hF), n - i < m → n - i < fuel → i ≤ n → DOK d → DM d f → TM n L f → f 146 14 = nI i →
    ∃ f2, fX8_fault_9 fuel f = some (ansP (prs n L m i d).1, f2) ∧ ((prs n L m i d).1 = none → DM (prs n L m i d).2 f2) ∧ FR f f2 := by
  intro m
  induction m with
  | zero => intro i fuel d f h1; exact absurd h1 (Nat.not_lt_zero _)
  | succ m ih =>
    intro i fuel d f h1 h2 h3 ok hd hT hat
    obtain ⟨fuel, rfl⟩ : ∃ k, fuel = k + 1 := ⟨fuel - 1, by omega⟩
    have hn := hL.1
    rw [fX8_fault_9, hT.1, hat]
    unfold prs
    by_cases z : n ≤ i
    · rw [if_pos ((nI_leI (by omega) (by omega)).mpr z), if_pos z]
      exact ⟨f, rfl, fun _ => hd, FR.refl f⟩
    · rw [if_neg (fun y => z ((nI_leI (by omega) (by omega)).mp y)), if_neg z]
      have hco := mo_item hL (show i < n by omega) ok hd hT hat
      rcases hco with ⟨e1, f2, e2, e3⟩ | ⟨d', i', f2, e1, e2, e3, e4, e5⟩
      · rw [e1, e2, b2s, if_pos rfl]
        exact ⟨f2, rfl, fun q => (by cases q), e3⟩
      · have hle : i < i' ∧ i' ≤ n ∧ DOK d' := by
          unfold item at e1
          by_cases y : nmb (L i) = 0
          · rw [if_pos y] at e1; cases e1
          · rw [if_neg y] at e1
            cases q : rdL n L (nmb (L i)) (i + 1) 0 (fun _ => 0) with
            | none => rw [q] at e1; cases e1
            | some p =>
              obtain ⟨u, i2⟩ := p
              rw [q] at e1
              have hle := rdL_le q
              have e1' : (match ent d (L i) u with | none => none | some d' => some (d', i2)) = some (d', i') := e1
              cases w : ent d (L i) u with
              | none => rw [w] at e1'; cases e1'
              | some d2 =>
                rw [w] at e1'
                cases e1'
                exact ⟨by omega, hle.2.1 (by omega), ent_ok ok (hle.2.2 (fun _ => Nat.zero_le _)) w⟩
        rw [e1, e2, b2s, if_neg (by decide)]
        obtain ⟨f3, k1, k2, k3⟩ := ih i' fuel d' f2 (by omega) (by omega) hle.2.1 hle.2.2 e3 (FR.tm e5 hT) e4
        exact ⟨f3, k1, k2, FR.trans e5 k3⟩
def d0 : DR := ((0, 0, 60, fun _ => false, fun _ => 0, fun _ => 0, fun _ => 0, fun _ => 0), fun _ => 0)
theorem d0_ok : DOK d0 := ⟨by decide, by decide, by decide, fun a ha => absurd ha (Nat.not_lt_zero a), fun a ha => absurd ha (Nat.not_lt_zero a)⟩
theorem co_read {n : Nat} {L : Nat → Nat} (hL : TL n L) {k : Nat} {f : hF} (hk : 3 ≤ k) (hT : TC n L f) : ∃ f2, fX3_readFrom k 1 f = some (ansP (prs n L (n + 1) 0 d0).1, f2) ∧ DC k (prs n L (n + 1) 0 d0).2 f2 ∧ DOK (prs n L (n + 1) 0 d0).2 ∧ ∀ j, ¬ (k ≤ j ∧ j ≤ k + 7) → f2 j = f j := by
  have hn := hL.1
  have hd : DC k d0 (st2 (st2 (st2 f k 0 0) k 1 0) k 2 60) := by
    refine ⟨?_, ?_, ?_, fun a ha => absurd ha (Nat.not_lt_zero a), fun a ha => absurd ha (Nat.not_lt_zero a)⟩
    · rw [s2_s, u_n (by decide), s2_s, u_n (by decide), s2_s, u_s]; rfl
    · rw [s2_s, u_n (by decide), s2_s, u_s]; rfl
    · rw [s2_s, u_s]; rfl
  obtain ⟨f2, a1, a2, a3, a4⟩ := co_prs hL hk (n + 1) 0 FU d0 _ (by omega) (by unfold FU; omega) (by omega) d0_ok hd (TC_fr (by rw [s2_n (by omega), s2_n (by omega), s2_n (by omega)]) (by rw [s2_n (by omega), s2_n (by omega), s2_n (by omega)]) hT)
  refine ⟨f2, ?_, a2, a3, fun j hj => by rw [a4 j hj, s2_n (by omega), s2_n (by omega), s2_n (by omega)]⟩
  unfold fX3_readFrom
  rw [lte, lte, lte]
  exact a1
theorem mo_read {n : Nat} {L : Nat → Nat} (hL : TL n L) {f : hF} (hT : TM n L f) : ∃ f2, fX8_fault f = some (ansP (prs n L (n + 1) 0 d0).1, f2) ∧ ((prs n L (n + 1) 0 d0).1 = none → DM (prs n L (n + 1) 0 d0).2 f2) ∧ FR f f2 := by
  have hn := hL.1
  have fr : FR f (st2 (st2 (st2 (st2 f 146 14 0) 146 16 0) 146 19 0) 146 21 60) := ⟨fun s s1 _ => by rw [s2_n s1, s2_n s1, s2_n s1, s2_n s1], fun s hs => by rw [s2_s, u_n (by omega), s2_s, u_n (by omega), s2_s, u_n (by omega), s2_s, u_n (by omega)]⟩
  have hd : DM d0 (st2 (st2 (st2 (st2 f 146 14 0) 146 16 0) 146 19 0) 146 21 60) := by
    refine ⟨?_, ?_, ?_, fun a ha => absurd ha (Nat.not_lt_zero a), fun a ha => absurd ha (Nat.not_lt_zero a)⟩
    · rw [s2_s, u_n (by decide), s2_s, u_n (by decide), s2_s, u_s]; rfl
    · rw [s2_s, u_n (by decide), s2_s, u_s]; rfl
    · rw [s2_s, u_s]; rfl
  obtain ⟨f2, a1, a2, a3⟩ := mo_prs hL (n + 1) 0 FU d0 _ (by omega) (by unfold FU; omega) (by omega) d0_ok hd (FR.tm fr hT) (by rw [s2_s, u_n (by decide), s2_s, u_n (by decide), s2_s, u_n (by decide), s2_s, u_s]; rfl)
  refine ⟨f2, ?_, a2, FR.trans fr a3⟩
  unfold fX8_fault fX8_clearTold
  rw [lte, lte, lte, lte, b1s]
  exact a1
theorem TX_out {f : hF} (h : TX f) : ∃ n L, TL n L ∧ TC n L f ∧ TM n L f := by
  obtain ⟨n, h1, h2, h3, h4⟩ := h
  refine ⟨n, fun i => (f 2 i).toNatClampNeg, ⟨h1, fun i hi => ?_⟩, ⟨h2, fun i hi => ?_⟩, ⟨h3, fun i hi => ?_⟩⟩
  · obtain ⟨c, c1, c2, c3, c4⟩ := h4 i hi
    show 32 ≤ (f 2 i).toNatClampNeg ∧ (f 2 i).toNatClampNeg ≤ 126
    rw [c3, nI_clamp (by omega)]; exact ⟨c1, c2⟩
  · obtain ⟨c, c1, c2, c3, c4⟩ := h4 i hi
    show f 2 i = nI (f 2 i).toNatClampNeg
    rw [c3, nI_clamp (by omega)]
  · obtain ⟨c, c1, c2, c3, c4⟩ := h4 i hi
    show f 153 i = nI (f 2 i).toNatClampNeg
    rw [c3, c4, nI_clamp (by omega)]
theorem FR.sc {f f2 : hF} (h : FR f f2) : Sc f f2 := ⟨fun j h1 h2 => h.1 j h2 (by have := scr_t h1; omega), fun i hi => h.2 i hi, fun i _ => by rw [h.1 158 (by omega) (by omega)]⟩
theorem fault_same {T : Nat} {ro : RO} {f : hF} (h : R T ro f) : Same T ro f (fun f => fX7_fault f) (fun f => fX8_fault f) := by
  obtain ⟨n, L, hL, hC, hM⟩ := TX_out h.text
  obtain ⟨f2, a1, -, -, a4⟩ := co_read (k := 11) hL (by omega) hC
  have hM2 : TM n L f2 := ⟨by rw [a4 146 (by omega)]; exact hM.1, fun i hi => by rw [a4 153 (by omega)]; exact hM.2 i hi⟩
  obtain ⟨f3, k1, -, k3⟩ := mo_read hL hM2
  refine ⟨_, f2, f3, ?_, Sc.co (fun j j1 _ => a4 j (by omega)), k1, FR.sc k3⟩
  show fX7_fault f = _
  unfold fX7_fault
  rw [a1, b2s]
