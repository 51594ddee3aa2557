/-! a day ahead of the first; child, mate, twice, count asked of both -/
theorem co_mateNeg {P T : Nat} {fm : Nat → Bool} {g : Nat → Int32} (h : VB P T fm g) (hP : P ≤ 8) (hT : T < 1000000) {k : Nat} {f f2 : hF} (hs : ST k g f f2) {a : Nat} {d : Int32} (ha : a < 8) (hd : d < 0) : fX1_mateOf (k+10) (k+1) f2 (nI a) d = some (-4) := by
  unfold fX1_mateOf
  rw [row_ok ha, b1s, if_neg (show ¬ (1 : Int32) = 0 by decide), gdk ha (by omega), ncl (by omega)]
  rcases hs.m a ha with ⟨e, -⟩ | ⟨t, ht, h1, h2, h3⟩
  · rw [show f2 (k + 10 + 1) a = -1 from e]; rfl
  · have htw := ((hs.h t ht).mp h1).1
    have hv := (vtw_th htw).1
    have hb := VB_bg h hT ht hv
    rw [show f2 (k + 10 + 1) a = nI t from h3]
    unfold fX1_mateOf_17
    rw [co_two h hs.c ht, b1s, htw, if_neg bt0, gdk ht (by omega), ncl (by omega), (hs.c.2.2.2.2 _ ht hv).1, hb.1, if_neg (Int32.not_le.mpr (Int32.lt_of_lt_of_le hd (nI_pos' (by omega))))]
theorem mo_mateNeg {P T : Nat} {fm : Nat → Bool} {f : hF} (h : VB P T fm (f 158)) (hP : P ≤ 8) (hT : T < 1000000) (hH : HS (vtw (f 158)) (vbg (f 158)) (vmn (f 158)) (vwn (f 158)) (hdB (f 158))) (h9 : ∀ t, t < 24 → f 159 t = bI (hdB (f 158) t)) {a : Nat} {d : Int32} (ha : a < 8) (hd : d < 0) : fX8_mateBy f (nI a) d = some (-4) := by
  have key : ∀ (r i n : Nat), i + r = 24 → r < n → fX8_mateBy_6 f (nI a) d n (-4) (nI i) = some (-4) := by
    intro r
    induction r with
    | zero =>
      intro i n hr hn
      obtain ⟨m, rfl⟩ : ∃ m, n = m + 1 := ⟨n - 1, by omega⟩
      obtain rfl : i = 24 := by omega
      rw [fX8_mateBy_6, if_pos (by decide)]
    | succ r ih =>
      intro i n hr hn
      obtain ⟨m, rfl⟩ : ∃ m, n = m + 1 := ⟨n - 1, by omega⟩
      have hi : i < 24 := by omega
      have e := ih (i + 1) m (by omega) (by omega)
      rw [fX8_mateBy_6, if_neg (show ¬ (24 : Int32) ≤ nI i by rw [L24, nleq (by omega) (by omega)]; omega), gdk hi (by omega), ncl (by omega), h9 i hi]
      have e2 : fX8_mateBy_37 f (nI a) d (fX8_mateBy_6 f (nI a) d m) (-4) (nI i) = some (-4) := by
        unfold fX8_mateBy_37 fX8_mateBy_38
        rw [if_pos rfl]
        unfold fX8_mateBy_64
        rw [if_pos rfl]
        unfold fX8_mateBy_88
        rw [show nI i + 1 = nI (i + 1) from nadd i 1]
        exact e
      cases q : hdB (f 158) i with
      | false => rw [if_pos bf0]; exact e2
      | true =>
        have htw := ((hH i hi).mp q).1
        have hb := VB_bg h hT hi (vtw_th htw).1
        rw [if_neg bt0, mo_beg hi, b1s, hb.1, if_pos (Int32.lt_of_lt_of_le hd (nI_pos' (by omega)))]
        exact e2
  exact key 24 0 FU rfl (by decide)
theorem mo_wom {ro : RO} {f : hF} (hr : RR ro f) {a : Nat} (ha : a < ro.P) : fX8_isWoman f (nI a) = some (bI (ro.fm a)) := by
  have := hr.ok.2.1
  unfold fX8_isWoman
  rw [L3, nmul, gdk (by omega) (by omega), ncl (by omega), (hr.ma a ha).1]
  cases ro.fm a <;> rfl
theorem mo_kind {ro : RO} {f : hF} (hr : RR ro f) {a : Nat} (ha : a < ro.P) : fX8_kindOf f (nI a) = some (nI (ro.kd a)) := by
  have := hr.ok.2.1
  unfold fX8_kindOf
  rw [L3, nmul, L1, nadd, gdk (by omega) (by omega), ncl (by omega), (hr.ma a ha).2.1]
theorem mtB_neg {P T : Nat} {fm : Nat → Bool} {g : Nat → Int32} (h : VB P T fm g) (hP : P ≤ 8) (hT : T < 1000000) (hH : HS (vtw g) (vbg g) (vmn g) (vwn g) (hdB g)) {a d : Nat} {r : Int32} (h1 : MTi g (hdB g) a d 24 r) : mtB g a d = -4 ∨ ∃ b, b < P ∧ mtB g a d = nI b :=
  (MT_ans h hP hT hH (mtB_eq h hP hT hH h1).2).imp id (fun ⟨b, h1, h2, _⟩ => ⟨b, h1, h2⟩)
theorem day9 {d : Nat} (h : d ≤ 999) : (d < 9 ∧ nI d - 9 < 0) ∨ (9 ≤ d ∧ nI d - 9 = nI (d - 9)) := by
  rcases Nat.lt_or_ge d 9 with q | q
  · left
    refine ⟨q, ?_⟩
    rcases (show d = 0 ∨ d = 1 ∨ d = 2 ∨ d = 3 ∨ d = 4 ∨ d = 5 ∨ d = 6 ∨ d = 7 ∨ d = 8 by omega) with rfl | rfl | rfl | rfl | rfl | rfl | rfl | rfl | rfl <;> decide
  · exact Or.inr ⟨q, nsub q⟩
theorem child_same {T : Nat} {ro : RO} {f : hF} (h : R T ro f) (hT : T < 1000000) (x y : Int32) : Same T ro f (fun f => fX7_child f x y) (fun f => fX8_child f x y) := by
  have hP := h.rr.ok.2.1
  cases hp : decide (0 ≤ x ∧ x < nI ro.P) with
  | false =>
    refine Same.mk' (r := -1) h ⟨f, ?_, Sc.refl f, rfl⟩ (fun f' h' _ => ⟨f', ?_, Sc.refl f'⟩)
    · show fX7_child f x y = _
      unfold fX7_child
      rw [h.rr.cper, hp]; rfl
    · show fX8_child f' x y = _
      unfold fX8_child
      rw [h'.rr.mper, hp]; rfl
  | true =>
    obtain ⟨a, ha, rfl⟩ := person_nI (by omega) hp
    cases hw : ro.fm a with
    | false =>
      refine Same.mk' (r := -1) h ⟨f, ?_, Sc.refl f, rfl⟩ (fun f' h' _ => ⟨f', ?_, Sc.refl f'⟩)
      · show fX7_child f _ y = _
        unfold fX7_child
        rw [h.rr.cper, hp, b1s, if_neg bt0, gdk (by omega) (by omega), ncl (by omega), (h.rr.ca a ha).1, hw, if_pos bf0]
      · show fX8_child f' _ y = _
        unfold fX8_child
        rw [h'.rr.mper, hp, b1s, if_neg bt0, mo_wom h'.rr ha, hw, b1s, if_pos bf0]
    | true =>
      obtain ⟨b, d1, d2, d3⟩ := day_same y
      cases b with
      | false =>
        refine Same.mk' (r := -1) h ⟨f, ?_, Sc.refl f, rfl⟩ (fun f' h' _ => ⟨f', ?_, Sc.refl f'⟩)
        · show fX7_child f _ y = _
          unfold fX7_child
          rw [h.rr.cper, hp, b1s, if_neg bt0, gdk (by omega) (by omega), ncl (by omega), (h.rr.ca a ha).1, hw, if_neg bt0, d1, b1s, if_pos bf0]
        · show fX8_child f' _ y = _
          unfold fX8_child
          rw [h'.rr.mper, hp, b1s, if_neg bt0, mo_wom h'.rr ha, hw, b1s, if_neg bt0, d2, b1s, if_pos bf0]
      | true =>
        obtain ⟨d, hd, rfl⟩ := d3 rfl
        obtain ⟨f2, c1, c2⟩ := co_set (k := 19) (r := 3) h.bk.1 hP hT h.cb
        have C : ∀ r : Int32, fX1_mateOf (19+10) (19+1) f2 (nI a) (nI d - 9) = some r → (∀ f' f5, R T ro f' → f' 149 = f 149 → AH f' f5 → VB ro.P T ro.fm (f5 158) → fX8_mateBy f5 (nI a) (nI d - 9) = some r) → (r = -4 ∨ ∃ b, b < 8 ∧ r = nI b) → Same T ro f (fun f => fX7_child f (nI a) (nI d)) (fun f => fX8_child f (nI a) (nI d)) := by
          intro r k1 k2 k3
          refine Same.mk' (r := if r = -4 then 0 else 1) h ⟨f2, ?_, c2.sc, c2.o 149 (by decide) (by decide)⟩ (fun f' h' e => ?_)
          · show fX7_child f _ _ = _
            unfold fX7_child fX2_mateBy
            rw [h.rr.cper, hp, b1s, if_neg bt0, gdk (by omega) (by omega), ncl (by omega), (h.rr.ca a ha).1, hw, if_neg bt0, d1, b1s, if_neg bt0, c1, b1s, k1, b1s, b2s]
            by_cases q : r = -4
            · rw [if_pos q, if_pos q]
            · rw [if_neg q, if_neg q]
          · obtain ⟨f5, a1, a2, a3⟩ := h'.ah hT
            refine ⟨f5, ?_, a3.s⟩
            have hV : VB ro.P T ro.fm (f5 158) := by rw [a3.b, e]; exact h.bk.1
            unfold fX8_child
            rw [h'.rr.mper, hp, b1s, if_neg bt0, mo_wom h'.rr ha, hw, b1s, if_neg bt0, d2, b1s, if_neg bt0, a1, b1s, a2, b1s, k2 f' f5 h' e a3 hV, b1s]
            rcases k3 with rfl | ⟨b, hb, rfl⟩
            · rw [if_neg (by decide), if_pos rfl]
            · rw [if_pos (nI_pos' (by omega)), if_neg (n4 (b := b) (by omega))]
        rcases day9 hd with ⟨q, qn⟩ | ⟨q, qe⟩
        · exact C (-4) (co_mateNeg h.bk.1 hP hT c2 (by omega) qn) (fun f' f5 h' e a3 hV => mo_mateNeg hV hP hT a3.h' a3.d' (by omega) qn) (Or.inl rfl)
        · rw [qe] at C
          obtain ⟨r0, q1, q2⟩ := co_mateOf h.bk.1 hP hT c2.c c2.h c2.m (show a < 8 by omega) (show d - 9 < 1000000 by omega)
          refine C (mtB (f 149) a (d - 9)) (co_mateB h.bk.1 hP hT c2 (by omega) (by omega)) (fun f' f5 h' e a3 hV => ?_) ?_
          · rw [mo_mateB hV hP hT a3.h' a3.d' (show a < 8 by omega) (show d - 9 < 1000000 by omega), a3.b, e]
          · exact (mtB_neg h.bk.1 hP hT c2.h q2).imp id (fun ⟨b, h1, h2⟩ => ⟨b, by omega, h2⟩)
theorem mate_same' {T : Nat} {ro : RO} {f : hF} (h : R T ro f) (hT : T < 1000000) (x y : Int32) : Same T ro f (fun f => fX7_mate f x y) (fun f => fX8_mate f x y) := by
  obtain ⟨r, f2, a1, a2, a3⟩ := mate_same h.rr.ok.2.1 hT h.bk.1 h.cb h.rr.c0 h.rr.m0 x y
  have s : Sc f f2 := Sc.co (fun j _ j2 => a2 j (by omega) (by omega))
  obtain ⟨f3, b1, b2⟩ := a3 f2 (fun j hj => a2 j (by omega) (by omega))
  have hV : (f3 158 = f2 158 ∨ f3 158 = f2 149) := by
    have h2 := R_sc s h
    have b1' := b1
    unfold fX8_mate at b1'
    rw [h2.rr.mper, b1s] at b1'
    by_cases q : bI (decide (0 ≤ x ∧ x < nI ro.P)) = 0
    · rw [if_pos q] at b1'
      cases b1'; exact Or.inl rfl
    · rw [if_neg q] at b1'
      obtain ⟨b, d1, d2, d3⟩ := day_same y
      rw [d2, b1s] at b1'
      cases b with
      | false => rw [if_pos bf0] at b1'; cases b1'; exact Or.inl rfl
      | true =>
        obtain ⟨f5, c1, c2, c3⟩ := h2.ah hT
        rw [if_neg bt0, c1, b1s, c2, b1s] at b1'
        cases hm : fX8_mateBy f5 x y with
        | none => rw [hm] at b1'; cases b1'
        | some v => rw [hm, b1s] at b1'; cases b1'; exact Or.inr c3.b
  refine ⟨r, f2, f3, a1, s, b1, Sc_158 (R_sc s h) (fun j j1 j2 j3 _ => b2 j j1 j2 j3) (fun i hi => ?_)⟩
  rcases hV with e | e
  · rw [e]; exact (R_sc s h).z i hi
  · rw [e]; exact (R_sc s h).bk.2.2 i hi
theorem twice_same' {T : Nat} {ro : RO} {f : hF} (h : R T ro f) (hT : T < 1000000) : Same T ro f (fun f => b1 (fX7_twice f) fun r => some (r, f)) (fun f => fX8_twice f) := by
  obtain ⟨r, a1, a3⟩ := twice_same h.rr.ok.2.1 hT h.bk.1 h.cb h.rr.c0 h.rr.m0
  obtain ⟨f3, z1, z2⟩ := a3 f (fun _ _ => rfl)
  refine ⟨r, f, f3, ?_, Sc.refl f, z1, Sc_158 h (fun j j1 _ _ _ => z2 j j1) (fun i hi => ?_)⟩
  · show b1 (fX7_twice f) _ = _
    rw [a1, b1s]
  · have key : ∀ (n : Nat) (fx : hF) (m i : Int32) (q : Int32) (fy : hF), fX8_twice_8 n fx m i = some (q, fy) → fy = fx := by
      intro n
      induction n with
      | zero => intro fx m i q fy e; cases e
      | succ n ih =>
        intro fx m i q fy e
        rw [fX8_twice_8] at e
        split at e
        · cases e; rfl
        · cases hl : fX8_linesOf fx i with
          | none => rw [hl] at e; cases e
          | some v =>
            rw [hl, b1s] at e
            unfold fX8_twice_33 at e
            split at e <;> exact ih _ _ _ _ _ e
    unfold fX8_twice at z1
    rw [h.as, b1s] at z1
    rw [key _ _ _ _ _ _ z1, sA_s]
    exact h.bk.2.2 i hi
theorem co_countB {P T : Nat} {fm : Nat → Bool} {g : Nat → Int32} (h : VB P T fm g) (hP : P ≤ 8) (hT : T < 1000000) {k ro : Nat} {f : hF} (hc : CB f (k+1) g) :
    ∃ f2, fX2_countHeld k ro f = some (nI (cnt (hdB g) 24), f2) ∧ (∀ j, j ≠ k+11 → j ≠ k+12 → f2 j = f j) := by
  obtain ⟨f2, hd, a1, a2, a3⟩ := co_count (ro := ro) h hP hT hc
  exact ⟨f2, by rw [a1, cnt_congr (fun s hs => hdB_eq a3 hs)], a2⟩
theorem count_same {T : Nat} {ro : RO} {f : hF} (h : R T ro f) (hT : T < 1000000) (x : Int32) : Same T ro f (fun f => fX7_count f x) (fun f => fX8_count f x) := by
  have hP := h.rr.ok.2.1
  rcases in_or x 0 10 (by omega) (by omega) with ⟨d, -, hd, rfl, hin⟩ | ⟨hin, hout⟩
  · have M : ∀ r : Int32, (∃ f2, fX7_count f (nI d) = some (r, f2) ∧ Sc f f2 ∧ f2 149 = f 149) → (∀ f' f5, (R T ro f' ∧ f' 47 0 = f 47 0 ∧ f' 52 1 = f 52 1 ∧ f' 126 1 = f 126 1 ∧ f' 1 1 = f 1 1) → f' 149 = f 149 → AH f' f5 → VB ro.P T ro.fm (f5 158) → f5 158 = f 149 →
        (if nI d = 0 then some ((f5 146 0), f5) else
        (if nI d = 1 then some ((f5 146 2), f5) else
        (if nI d = 2 then gd 0 111 <| some ((f5 149 (0 : Int32).toNatClampNeg), f5) else
        (if nI d = 3 then some ((f5 146 4), f5) else
        (if nI d = 4 then b1 (fX8_linesSuch f5 (0 : Int32)) fun r4 => some (r4, f5) else
        (if nI d = 5 then b1 (fX8_manyHold f5) fun r5 => some (r5, f5) else
        (if nI d = 6 then b1 (fX8_linesSuch f5 (1 : Int32)) fun r6 => some (r6, f5) else
        (if nI d = 7 then some ((f5 146 10), f5) else
        (if nI d = 8 then some ((f5 146 6), f5) else
        (if nI d = 9 then some ((f5 146 8), f5) else
        (if nI d = 10 then some ((f5 146 13), f5) else some ((-1), f5)))))))))))) = some (r, f5)) → Same T ro f (fun f => fX7_count f (nI d)) (fun f => fX8_count f (nI d)) := by
      intro r h1 h2
      obtain ⟨f2, b1, b2, b3⟩ := h1
      have h' := R_sc b2 h
      obtain ⟨f5, a1, a2, a3⟩ := h'.ah hT
      refine ⟨r, f2, f5, b1, b2, ?_, a3.s⟩
      show fX8_count f2 _ = _
      unfold fX8_count
      rw [a1, b1s, a2, b1s]
      exact h2 f2 f5 ⟨h', by rw [b2.n (j := 47) (by omega) (by omega)], by rw [b2.n (j := 52) (by omega) (by omega)], by rw [b2.n (j := 126) (by omega) (by omega)], by rw [b2.n (j := 1) (by omega) (by omega)]⟩ b3 a3 (by rw [a3.b, b3]; exact h.bk.1) (a3.b.trans b3)
    have hc5 := co_countB (k := 19) (ro := 3) h.bk.1 hP hT h.cb
    rcases (show d = 0 ∨ d = 1 ∨ d = 2 ∨ d = 3 ∨ d = 4 ∨ d = 5 ∨ d = 6 ∨ d = 7 ∨ d = 8 ∨ d = 9 ∨ d = 10 by omega) with rfl | rfl | rfl | rfl | rfl | rfl | rfl | rfl | rfl | rfl | rfl
    · refine M (nI ro.P) ⟨f, ?_, Sc.refl f, rfl⟩ (fun f' f5 h' e a3 hV eb => ?_)
      · unfold fX7_count
        rw [if_pos (by decide), h.rr.c0]
      · rw [if_pos (by decide), a3.s.m 0 (by omega), h'.1.rr.m0]
    · refine M (nI ro.Q) ⟨f, ?_, Sc.refl f, rfl⟩ (fun f' f5 h' e a3 hV eb => ?_)
      · unfold fX7_count
        rw [if_neg (by decide), if_pos (by decide), h.rr.c1]
      · rw [if_neg (by decide), if_pos (by decide), a3.s.m 2 (by omega), h'.1.rr.m1]
    · refine M (f 149 0) ⟨f, ?_, Sc.refl f, rfl⟩ (fun f' f5 h' e a3 hV eb => ?_)
      · unfold fX7_count
        rw [if_neg (by decide), if_neg (by decide), if_pos (by decide), h.cb.1]
      · rw [if_neg (by decide), if_neg (by decide), if_pos (by decide), gd0 (by decide), cl0, a3.o 149 (by decide) (by decide) (by decide), e]
    · refine M (nI ro.law) ⟨f, ?_, Sc.refl f, rfl⟩ (fun f' f5 h' e a3 hV eb => ?_)
      · unfold fX7_count
        rw [if_neg (by decide), if_neg (by decide), if_neg (by decide), if_pos (by decide), h.rr.c2]
      · rw [if_neg (by decide), if_neg (by decide), if_neg (by decide), if_pos (by decide), a3.s.m 4 (by omega), h'.1.rr.m2]
    · refine M (nI (cnt (vtw (f 149)) 24)) ⟨f, ?_, Sc.refl f, rfl⟩ (fun f' f5 h' e a3 hV eb => ?_)
      · unfold fX7_count
        rw [if_neg (by decide), if_neg (by decide), if_neg (by decide), if_neg (by decide), if_pos (by decide), co_twos h.bk.1 h.cb, b1s]
      · rw [if_neg (by decide), if_neg (by decide), if_neg (by decide), if_neg (by decide), if_pos (by decide), mo_twos hV, b1s, eb]
    · obtain ⟨f2, k1, k2⟩ := hc5
      refine M (nI (cnt (hdB (f 149)) 24)) ⟨f2, ?_, Sc.co (fun j _ j2 => k2 j (by omega) (by omega)), k2 149 (by decide) (by decide)⟩ (fun f' f5 h' e a3 hV eb => ?_)
      · unfold fX7_count
        rw [if_neg (by decide), if_neg (by decide), if_neg (by decide), if_neg (by decide), if_neg (by decide), if_pos (by decide), k1, b2s]
      · rw [if_neg (by decide), if_neg (by decide), if_neg (by decide), if_neg (by decide), if_neg (by decide), if_pos (by decide), mo_many a3.d, b1s, e]
    · refine M (nI (cnt (vbl (f 149)) 24)) ⟨f, ?_, Sc.refl f, rfl⟩ (fun f' f5 h' e a3 hV eb => ?_)
      · unfold fX7_count
        rw [if_neg (by decide), if_neg (by decide), if_neg (by decide), if_neg (by decide), if_neg (by decide), if_neg (by decide), if_pos (by decide), co_blanks h.bk.1 h.cb, b1s]
      · rw [if_neg (by decide), if_neg (by decide), if_neg (by decide), if_neg (by decide), if_neg (by decide), if_neg (by decide), if_pos (by decide), mo_blanks hV, b1s, eb]
    · refine M (f 47 0) ⟨f, ?_, Sc.refl f, rfl⟩ (fun f' f5 h' e a3 hV eb => ?_)
      · unfold fX7_count
        rw [if_neg (by decide), if_neg (by decide), if_neg (by decide), if_neg (by decide), if_neg (by decide), if_neg (by decide), if_neg (by decide), if_pos (by decide)]
      · rw [if_neg (by decide), if_neg (by decide), if_neg (by decide), if_neg (by decide), if_neg (by decide), if_neg (by decide), if_neg (by decide), if_pos (by decide), a3.s.m 10 (by omega), (h'.1.seen).choose_spec.2.2.1, ← (h'.1.seen).choose_spec.2.1, h'.2.1]
    · refine M (f 52 1) ⟨f, ?_, Sc.refl f, rfl⟩ (fun f' f5 h' e a3 hV eb => ?_)
      · unfold fX7_count
        rw [if_neg (by decide), if_neg (by decide), if_neg (by decide), if_neg (by decide), if_neg (by decide), if_neg (by decide), if_neg (by decide), if_neg (by decide), if_pos (by decide)]
      · rw [if_neg (by decide), if_neg (by decide), if_neg (by decide), if_neg (by decide), if_neg (by decide), if_neg (by decide), if_neg (by decide), if_neg (by decide), if_pos (by decide), a3.s.m 6 (by omega), (h'.1.past).choose_spec.2.2.1, ← (h'.1.past).choose_spec.2.1, h'.2.2.1]
    · refine M (f 126 1) ⟨f, ?_, Sc.refl f, rfl⟩ (fun f' f5 h' e a3 hV eb => ?_)
      · unfold fX7_count
        rw [if_neg (by decide), if_neg (by decide), if_neg (by decide), if_neg (by decide), if_neg (by decide), if_neg (by decide), if_neg (by decide), if_neg (by decide), if_neg (by decide), if_pos (by decide)]
      · rw [if_neg (by decide), if_neg (by decide), if_neg (by decide), if_neg (by decide), if_neg (by decide), if_neg (by decide), if_neg (by decide), if_neg (by decide), if_neg (by decide), if_pos (by decide), a3.s.m 8 (by omega), (h'.1.kept).choose_spec.2.2.1, ← (h'.1.kept).choose_spec.2.1, h'.2.2.2.1]
    · refine M (f 1 1) ⟨f, ?_, Sc.refl f, rfl⟩ (fun f' f5 h' e a3 hV eb => ?_)
      · unfold fX7_count
        rw [if_neg (by decide), if_neg (by decide), if_neg (by decide), if_neg (by decide), if_neg (by decide), if_neg (by decide), if_neg (by decide), if_neg (by decide), if_neg (by decide), if_neg (by decide), if_pos (by decide)]
      · rw [if_neg (by decide), if_neg (by decide), if_neg (by decide), if_neg (by decide), if_neg (by decide), if_neg (by decide), if_neg (by decide), if_neg (by decide), if_neg (by decide), if_neg (by decide), if_pos (by decide), a3.s.m 13 (by omega), (h'.1.text).choose_spec.2.2.1, ← (h'.1.text).choose_spec.2.1, h'.2.2.2.2]
  · have ne := fun d (hd : d ≤ 10) => out_ne (by omega) hout (Nat.zero_le d) hd
    obtain ⟨f5, a1, a2, a3⟩ := h.ah hT
    refine ⟨-1, f, f5, ?_, Sc.refl f, ?_, a3.s⟩
    · show fX7_count f x = _
      unfold fX7_count
      rw [if_neg (show ¬ x = (0 : Int32) from ne 0 (by omega)), if_neg (show ¬ x = (1 : Int32) from ne 1 (by omega)), if_neg (show ¬ x = (2 : Int32) from ne 2 (by omega)), if_neg (show ¬ x = (3 : Int32) from ne 3 (by omega)), if_neg (show ¬ x = (4 : Int32) from ne 4 (by omega)), if_neg (show ¬ x = (5 : Int32) from ne 5 (by omega)), if_neg (show ¬ x = (6 : Int32) from ne 6 (by omega)), if_neg (show ¬ x = (7 : Int32) from ne 7 (by omega)), if_neg (show ¬ x = (8 : Int32) from ne 8 (by omega)), if_neg (show ¬ x = (9 : Int32) from ne 9 (by omega)), if_neg (show ¬ x = (10 : Int32) from ne 10 (by omega))]
    · show fX8_count f x = _
      unfold fX8_count
      rw [a1, b1s, a2, b1s, if_neg (show ¬ x = (0 : Int32) from ne 0 (by omega)), if_neg (show ¬ x = (1 : Int32) from ne 1 (by omega)), if_neg (show ¬ x = (2 : Int32) from ne 2 (by omega)), if_neg (show ¬ x = (3 : Int32) from ne 3 (by omega)), if_neg (show ¬ x = (4 : Int32) from ne 4 (by omega)), if_neg (show ¬ x = (5 : Int32) from ne 5 (by omega)), if_neg (show ¬ x = (6 : Int32) from ne 6 (by omega)), if_neg (show ¬ x = (7 : Int32) from ne 7 (by omega)), if_neg (show ¬ x = (8 : Int32) from ne 8 (by omega)), if_neg (show ¬ x = (9 : Int32) from ne 9 (by omega)), if_neg (show ¬ x = (10 : Int32) from ne 10 (by omega))]
