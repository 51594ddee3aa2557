/-! questions: person, parson, count -/
theorem in_or (x : Int32) (lo n : Nat) (h1 : lo ≤ n) (h2 : n < 1000000) : (∃ d, lo ≤ d ∧ d ≤ n ∧ x = nI d ∧ fX8_in x (nI lo) (nI n) = some 1) ∨ (fX8_in x (nI lo) (nI n) = some 0 ∧ (x < nI lo ∨ nI n < x)) := by
  unfold fX8_in
  by_cases h0 : x < nI lo
  · rw [if_pos h0]; exact Or.inr ⟨rfl, Or.inl h0⟩
  · rw [if_neg h0]
    by_cases q : nI n < x
    · rw [if_pos q]; exact Or.inr ⟨rfl, Or.inr q⟩
    · rw [if_neg q]
      have hx : ¬ x < 0 := fun z => h0 (Int32.lt_of_lt_of_le z (nI_pos' (by omega)))
      obtain ⟨j, hj, rfl⟩ := nI_of hx
      refine Or.inl ⟨j, ?_, ?_, rfl, rfl⟩
      · have : ¬ j < lo := fun z => h0 ((nI_ltI hj (show lo < 2147483648 by omega)).mpr z)
        omega
      · have : ¬ n < j := fun z => q ((nI_ltI (show n < 2147483648 by omega) hj).mpr z)
        omega
theorem out_ne {x : Int32} {lo n d : Nat} (h2 : n < 1000000) (h : x < nI lo ∨ nI n < x) (a : lo ≤ d) (b : d ≤ n) : x ≠ nI d := by
  rintro rfl
  rcases h with h | h
  · have := (nI_ltI (by omega) (by omega)).mp h; omega
  · have := (nI_ltI (by omega) (by omega)).mp h; omega
theorem RR.mper {ro : RO} {f : hF} (h : RR ro f) (x : Int32) : fX8_isPerson f x = some (bI (decide (0 ≤ x ∧ x < nI ro.P))) := mo_person (by have := h.ok.2.1; omega) h.m0 x
theorem RR.mpar {ro : RO} {f : hF} (h : RR ro f) (x : Int32) : fX8_isParson f x = some (bI (decide (0 ≤ x ∧ x < nI ro.Q))) := mo_parson (by have := h.ok.2.2.2.1; omega) h.m1 x
theorem RR.cper {ro : RO} {f : hF} (h : RR ro f) (x : Int32) : fX3_isPerson 3 f x = some (bI (decide (0 ≤ x ∧ x < nI ro.P))) := co_person h.c0 x
theorem RR.cpar {ro : RO} {f : hF} (h : RR ro f) (x : Int32) : fX3_isParson 3 f x = some (bI (decide (0 ≤ x ∧ x < nI ro.Q))) := co_parson h.c1 x
theorem per_t {n a : Nat} (hn : n < 1000) (h : a < n) : decide (0 ≤ nI a ∧ nI a < nI n) = true := decide_eq_true ⟨nI_pos' (by omega), (nI_ltI (by omega) (by omega)).mpr h⟩
theorem bt0 : ¬ bI true = 0 := by decide
theorem bf0 : bI false = 0 := rfl
theorem gd0 {α : Type} {n : Nat} {k : Option α} (h : 0 < n) : gd (0 : Int32) n k = k := gdk (i := 0) h (by omega)
theorem cl0 : (0 : Int32).toNatClampNeg = 0 := rfl
theorem n4 {b : Nat} (h : b < 1000000) : ¬ nI b = -4 := nI_m (k := 4) (by omega) (by omega) (by omega)
theorem n1 {b : Nat} (h : b < 1000000) : ¬ nI b = -1 := nI_m (k := 1) (by omega) (by omega) (by omega)
theorem ge3 {p : Nat} (h : p < 3) : ¬ (3 : Int32) ≤ nI p := fun z => by have := (nI_leI (a := 3) (b := p) (by omega) (by omega)).mp z; omega
theorem ge8 {p : Nat} (h : p < 8) : ¬ (8 : Int32) ≤ nI p := fun z => by have := (nI_leI (a := 8) (b := p) (by omega) (by omega)).mp z; omega
/-- the mate by today -/
noncomputable def mtT (g : Nat → Int32) (a : Nat) : Int32 := mtB g a (g 0).toNatClampNeg
theorem VB_day {P T : Nat} {fm : Nat → Bool} {g : Nat → Int32} (h : VB P T fm g) (hT : T < 1000000) : g 0 = nI (g 0).toNatClampNeg ∧ (g 0).toNatClampNeg ≤ T := by
  obtain ⟨d, h1, h2⟩ := h.1
  rw [h1, nI_clamp (by omega)]
  exact ⟨rfl, h2⟩
theorem MT_ans {P T : Nat} {fm : Nat → Bool} {g : Nat → Int32} (h : VB P T fm g) (hP : P ≤ 8) (hT : T < 1000000) {hd : Nat → Bool} (hH : HS (vtw g) (vbg g) (vmn g) (vwn g) hd) {a d : Nat} {r : Int32} (hm : MTi g hd a d 24 r) : r = -4 ∨ ∃ b, b < P ∧ r = nI b ∧ fm b = !fm a := by
  rcases hm with ⟨e, -⟩ | ⟨t, ht, h1, -, h2⟩
  · exact Or.inl e
  · right
    obtain ⟨-, a1, a2, -, a3, a4, -⟩ := VB_two h hP hT ht ((hH t ht).mp h1).1
    rcases h2 with ⟨c, e⟩ | ⟨c, e⟩
    · exact ⟨_, a3, e, by rw [← c, a2, a4]; rfl⟩
    · exact ⟨_, a1, e, by rw [← c, a2, a4]; rfl⟩
def owB (ro : RO) (g : Nat → Int32) (m : Int32) (a : Nat) : Int32 :=
  if ro.fm a = true then (if m = -4 then nI (ro.db a) else 0)
  else if m = -4 then nI (ro.db a) else nI (ro.db a + (if ro.kd m.toNatClampNeg = 1 then ro.db m.toNatClampNeg / 2 else ro.db m.toNatClampNeg))
theorem co_mateT {ro : RO} {T : Nat} {g : Nat → Int32} (h : VB ro.P T ro.fm g) (hP : ro.P ≤ 8) (hT : T < 1000000) {k r : Nat} {f : hF} (hc : CB f (k+1) g) {a : Nat} (ha : a < 8) : ∃ f2, fX2_mateToday k r f (nI a) = some (mtT g a, f2) ∧ ST k g f f2 := by
  obtain ⟨f2, h1, h2⟩ := co_set (r := r) h hP hT hc
  refine ⟨f2, ?_, h2⟩
  have hd := VB_day h hT
  unfold fX2_mateToday fX2_mateBy
  rw [h1, b1s, hc.1, hd.1, co_mateB h hP hT h2 ha (by omega), b1s, b2s]
  rfl
theorem co_owes {ro : RO} {T : Nat} {g : Nat → Int32} (h : VB ro.P T ro.fm g) (hT : T < 1000000) {f : hF} (hr : RR ro f) (hc : CB f 20 g) {a : Nat} (ha : a < ro.P) : ∃ f2, fX2_owedBy 19 3 f (nI a) = some (owB ro g (mtT g a) a, f2) ∧ ST 19 g f f2 := by
  have hP := hr.ok.2.1
  obtain ⟨f2, h1, h2⟩ := co_mateT (k := 19) (r := 3) h hP hT hc (show a < 8 by omega)
  refine ⟨f2, ?_, h2⟩
  have hr2 := RR_sc h2.sc hr
  unfold fX2_owedBy
  rw [hr.cper, per_t (by omega) ha, b1s, if_neg bt0, h1, b2s, gdk (by omega) (by omega), ncl (by omega), (hr2.ca a ha).1]
  obtain ⟨r0, q1, q2⟩ := co_mateOf h hP hT h2.c h2.h h2.m (show a < 8 by omega) (show (g 0).toNatClampNeg < 1000000 by have := (VB_day h hT).2; omega)
  have q3 := MT_ans h hP hT h2.h (mtB_eq h hP hT h2.h q2).2
  change mtT g a = -4 ∨ ∃ b, b < ro.P ∧ mtT g a = nI b ∧ _ at q3
  unfold owB
  cases hf : ro.fm a with
  | true =>
    rw [if_neg bt0, if_pos rfl]
    rcases q3 with q | ⟨b, hb, q, -⟩
    · rw [q, if_pos rfl, gdk (by omega) (by omega), (hr2.ca a ha).2.2, if_pos rfl]
    · rw [q, if_neg (n4 (b := b) (by omega)), if_neg (n4 (b := b) (by omega))]
  | false =>
    rw [if_pos bf0, hr2.cper, if_neg (show ¬ false = true by decide)]
    rcases q3 with q | ⟨b, hb, q, -⟩
    · rw [q, if_pos rfl, gdk (by omega) (by omega), (hr2.ca a ha).2.2]
      rfl
    · rw [q, per_t (by omega) hb, b1s, if_neg bt0, if_neg (n4 (b := b) (by omega)), gdk (show b < 8 by omega) (by omega), gdk (show b < 8 by omega) (by omega), gdk (show b < 8 by omega) (by omega), ncl (by omega), (hr2.ca b hb).2.1, (hr2.ca b hb).2.2]
      have k2 := (hr.ok.2.2.2.2.2.1 b hb)
      unfold fX2_owedBy_108
      rw [gdk (show a < 8 by omega) (by omega), gdk (show a < 8 by omega) (by omega), ncl (by omega), (hr2.ca a ha).2.2]
      by_cases z : ro.kd b = 1
      · rw [if_pos (show nI (ro.kd b) = (1 : Int32) by rw [z]; rfl), if_pos z, L2, ndiv (by omega) (by omega) (by omega), nadd]
      · rw [if_neg (show ¬ nI (ro.kd b) = (1 : Int32) by rw [L1, neqq (by omega) (by omega)]; exact z), if_neg z, nadd]
theorem mo_owes {ro : RO} {T : Nat} {f0 f : hF} (h : VB ro.P T ro.fm (f 158)) (hT : T < 1000000) (hr : RR ro f) (hH : HS (vtw (f 158)) (vbg (f 158)) (vmn (f 158)) (vwn (f 158)) (hdB (f 158))) (h9 : ∀ t, t < 24 → f 159 t = bI (hdB (f 158) t)) {a : Nat} (ha : a < ro.P) : fX8_owes f (nI a) = some (owB ro (f 158) (mtT (f 158) a) a) := by
  have hP := hr.ok.2.1
  have hd := VB_day h hT
  obtain ⟨r0, q1, q2⟩ := mo_mateBy h hP hT hH h9 (show a < 8 by omega) (show (f 158 0).toNatClampNeg < 1000000 by omega)
  have q3 := MT_ans h hP hT hH (mtB_eq h hP hT hH q2).2
  change mtT (f 158) a = -4 ∨ ∃ b, b < ro.P ∧ mtT (f 158) a = nI b ∧ _ at q3
  have e : fX8_mateBy f (nI a) (f 158 0) = some (mtT (f 158) a) := by
    rw [hd.1, mo_mateB h hP hT hH h9 (by omega) (by omega)]; rfl
  have w : fX8_isWoman f (nI a) = some (bI (ro.fm a)) := by
    unfold fX8_isWoman
    simp (disch := omega) only [L0, L1, L2, L3, L4, L5, L6, L7, L8, L9, L10, L12, L15, L16, L20, L24, L30, L31, L32, L40, L44, L48, L50, L57, L59, L60, L64, L99, L100, L108, L109, L111, L112, L119, L126, L200, L222, L255, L256, L888, L999, L9999, gdk, ncl, nleq, nltq, neqq, neg1q, neg2q, neg3q, neg4q, neg1q', neg4q', nadd, nmul, nrem, ndiv, b1s, b2s, lte, bI0, bI1, bI_nr, bI_nar, nr0, nr1, nar0, nar1]
    rw [(hr.ma a ha).1]
    cases ro.fm a <;> rfl
  have d2 : ∀ b, b < ro.P → (f 147 (3 * nI b + 2).toNatClampNeg) = nI (ro.db b) := fun b hb => by
    rw [L3, L2, nmul, nadd, ncl (by omega), (hr.ma b hb).2.2]
  have gd2 : ∀ (b : Nat) (k : Option Int32), b < ro.P → gd (3 * nI b + 2) 24 k = k := fun b k hb => by
    rw [L3, L2, nmul, nadd, gdk (by omega) (by omega)]
  unfold fX8_owes owB
  rw [gd0 (by decide), cl0, e, b1s, w, b1s]
  cases hf : ro.fm a with
  | true =>
    rw [if_neg bt0, if_pos rfl]
    rcases q3 with q | ⟨b, hb, q, -⟩
    · rw [q, if_neg (by decide), if_pos rfl, gd2 a _ ha, d2 a ha]
    · rw [q, if_pos (nI_pos' (by omega)), if_neg (n4 (b := b) (by omega))]
  | false =>
    rw [if_pos bf0, if_neg (show ¬ false = true by decide)]
    rcases q3 with q | ⟨b, hb, q, -⟩
    · rw [q, if_neg (by decide), if_pos rfl]
      unfold fX8_owes_57
      rw [gd2 a _ ha, if_pos (by decide), d2 a ha]
      show some (nI (ro.db a) + nI 0) = _
      rw [nadd]; rfl
    · rw [q, if_pos (nI_pos' (by omega)), gd2 b _ hb, d2 b hb, if_neg (n4 (b := b) (by omega))]
      unfold fX8_owes_57 fX8_kindOf
      have k2 := (hr.ok.2.2.2.2.2.1 b hb)
      have kk : f 147 (3 * nI b + 1).toNatClampNeg = nI (ro.kd b) := by rw [L3, L1, nmul, nadd, ncl (by omega), (hr.ma b hb).2.1]
      have kg : ∀ k : Option Int32, gd (3 * nI b + 1) 24 k = k := fun k => by rw [L3, L1, nmul, nadd, gdk (by omega) (by omega)]
      rw [gd2 a _ ha, if_neg (nI_pos (by omega)), kg, kk, b1s, d2 a ha, ncl (by omega)]
      by_cases z : ro.kd b = 1
      · rw [if_pos (show nI (ro.kd b) = (1 : Int32) by rw [z]; rfl), if_pos z, L2, ndiv (by omega) (by omega) (by omega), nadd]
      · rw [if_neg (show ¬ nI (ro.kd b) = (1 : Int32) by rw [L1, neqq (by omega) (by omega)]; exact z), if_neg z, nadd]
theorem AH.rr {ro : RO} {f f5 : hF} (h : AH f f5) (hr : RR ro f) : RR ro f5 := RR_sc h.s hr
theorem AH.d' {f f5 : hF} (h : AH f f5) : ∀ t, t < 24 → f5 159 t = bI (hdB (f5 158) t) := fun t ht => by rw [h.b]; exact h.d t ht
theorem AH.h' {f f5 : hF} (h : AH f f5) : HS (vtw (f5 158)) (vbg (f5 158)) (vmn (f5 158)) (vwn (f5 158)) (hdB (f5 158)) := by rw [h.b]; exact h.h
theorem person_same {T : Nat} {ro : RO} {f : hF} (h : R T ro f) (hT : T < 1000000) (x y : Int32) : Same T ro f (fun f => fX7_person f x y) (fun f => fX8_person f x y) := by
  have hP := h.rr.ok.2.1
  cases hp : decide (0 ≤ x ∧ x < nI ro.P) with
  | false =>
    refine Same.mk' (r := -1) h ⟨f, ?_, Sc.refl f, rfl⟩ (fun f' h' _ => ⟨f', ?_, Sc.refl f'⟩)
    · show fX7_person f x y = _
      unfold fX7_person
      rw [h.rr.cper, hp]; rfl
    · show fX8_person f' x y = _
      unfold fX8_person
      rw [h'.rr.mper, hp]; rfl
  | true =>
    obtain ⟨a, ha, rfl⟩ := person_nI (by omega) hp
    rcases in_or y 0 6 (by omega) (by omega) with ⟨d, -, hd, rfl, hin⟩ | ⟨hin, hout⟩
    · have M : ∀ (r : Int32), (∀ f' f5, R T ro f' → f' 149 = f 149 → AH f' f5 → (if (3 : Int32) ≤ nI d then
        (if nI d = 3 then gd (1 + nI a) 111 <| some ((f5 149 (1 + nI a).toNatClampNeg), f5)
        else (if nI d = 4 then gd 0 111 <| b1 (fX8_mateBy f5 (nI a) (f5 149 (0 : Int32).toNatClampNeg)) fun r14 => some (r14, f5)
          else (if nI d = 5 then b1 (fX8_owes f5 (nI a)) fun r12 => some (r12, f5) else b1 (fX8_linesOf f5 (nI a)) fun r11 => some (r11, f5))))
        else gd ((3 * nI a) + nI d) 24 <| some ((f5 147 ((3 * nI a) + nI d).toNatClampNeg), f5)) = some (r, f5)) → ∀ f', R T ro f' → f' 149 = f 149 → ∃ f3, fX8_person f' (nI a) (nI d) = some (r, f3) ∧ Sc f' f3 := by
        intro r hb f' h' e
        obtain ⟨f5, a1, a2, a3⟩ := h'.ah hT
        refine ⟨f5, ?_, a3.s⟩
        have := hb f' f5 h' e a3
        unfold fX8_person
        rw [h'.rr.mper, hp, b1s, if_neg bt0, show fX8_in (nI d) (0 : Int32) (6 : Int32) = some 1 from hin, b1s, if_neg (by decide), a1, b1s, a2, b1s]
        exact this
      rcases (show d = 0 ∨ d = 1 ∨ d = 2 ∨ d = 3 ∨ d = 4 ∨ d = 5 ∨ d = 6 by omega) with rfl | rfl | rfl | rfl | rfl | rfl | rfl
      · refine Same.mk' (r := bI (ro.fm a)) h ⟨f, ?_, Sc.refl f, rfl⟩ (M _ (fun f' f5 h' e a3 => ?_))
        · show fX7_person f _ _ = _
          unfold fX7_person
          rw [h.rr.cper, hp, b1s, if_neg bt0, if_pos (by decide), gdk (by omega) (by omega), ncl (by omega), (h.rr.ca a ha).1]
          cases ro.fm a <;> rfl
        · rw [if_neg (by decide), L3, nmul, nadd, gdk (by omega) (by omega), ncl (by omega), Nat.add_zero, ((a3.rr h'.rr).ma a ha).1]
      · refine Same.mk' (r := nI (ro.kd a)) h ⟨f, ?_, Sc.refl f, rfl⟩ (M _ (fun f' f5 h' e a3 => ?_))
        · show fX7_person f _ _ = _
          unfold fX7_person
          rw [h.rr.cper, hp, b1s, if_neg bt0, if_neg (by decide), if_pos (by decide), gdk (by omega) (by omega), ncl (by omega), (h.rr.ca a ha).2.1]
        · rw [if_neg (by decide), L3, nmul, nadd, gdk (by omega) (by omega), ncl (by omega), ((a3.rr h'.rr).ma a ha).2.1]
      · refine Same.mk' (r := nI (ro.db a)) h ⟨f, ?_, Sc.refl f, rfl⟩ (M _ (fun f' f5 h' e a3 => ?_))
        · show fX7_person f _ _ = _
          unfold fX7_person
          rw [h.rr.cper, hp, b1s, if_neg bt0, if_neg (by decide), if_neg (by decide), if_pos (by decide), gdk (by omega) (by omega), ncl (by omega), (h.rr.ca a ha).2.2]
        · rw [if_neg (by decide), L3, nmul, nadd, gdk (by omega) (by omega), ncl (by omega), ((a3.rr h'.rr).ma a ha).2.2]
      · refine Same.mk' (r := f 149 (1 + a)) h ⟨f, ?_, Sc.refl f, rfl⟩ (M _ (fun f' f5 h' e a3 => ?_))
        · show fX7_person f _ _ = _
          unfold fX7_person
          rw [h.rr.cper, hp, b1s, if_neg bt0, if_neg (by decide), if_neg (by decide), if_neg (by decide), if_pos (by decide), gdk (by omega) (by omega), ncl (by omega), ← h.cb.2.1 a (by omega)]
        · rw [if_pos (by decide), if_pos (by decide), L1, nadd, gdk (by omega) (by omega), ncl (by omega), a3.o 149 (by decide) (by decide) (by decide), e]
      · obtain ⟨f2, c1, c2⟩ := co_mateT (k := 19) (r := 3) h.bk.1 hP hT h.cb (show a < 8 by omega)
        refine Same.mk' (r := mtT (f 149) a) h ⟨f2, ?_, c2.sc, c2.o 149 (by decide) (by decide)⟩ (M _ (fun f' f5 h' e a3 => ?_))
        · show fX7_person f _ _ = _
          unfold fX7_person
          rw [h.rr.cper, hp, b1s, if_neg bt0, if_neg (by decide), if_neg (by decide), if_neg (by decide), if_neg (by decide), if_pos (by decide), c1, b2s]
        · have hd := VB_day h.bk.1 hT
          have hV : VB ro.P T ro.fm (f5 158) := by rw [a3.b, e]; exact h.bk.1
          have k := mo_mateB hV hP hT a3.h' a3.d' (show a < 8 by omega) (show (f 149 0).toNatClampNeg < 1000000 by omega)
          rw [← hd.1, a3.b, e] at k
          rw [if_pos (by decide), if_neg (by decide), if_pos (by decide), gd0 (by decide), cl0, a3.o 149 (by decide) (by decide) (by decide), e, k, b1s]
          rfl
      · obtain ⟨f2, c1, c2⟩ := co_owes h.bk.1 hT h.rr h.cb ha
        refine Same.mk' (r := owB ro (f 149) (mtT (f 149) a) a) h ⟨f2, ?_, c2.sc, c2.o 149 (by decide) (by decide)⟩ (M _ (fun f' f5 h' e a3 => ?_))
        · show fX7_person f _ _ = _
          unfold fX7_person
          rw [h.rr.cper, hp, b1s, if_neg bt0, if_neg (by decide), if_neg (by decide), if_neg (by decide), if_neg (by decide), if_neg (by decide), if_pos (by decide), c1, b2s]
        · have hV : VB ro.P T ro.fm (f5 158) := by rw [a3.b, e]; exact h.bk.1
          have k := mo_owes (f0 := f) hV hT (a3.rr h'.rr) a3.h' a3.d' ha
          rw [a3.b, e] at k
          rw [if_pos (by decide), if_neg (by decide), if_neg (by decide), if_pos (by decide), k, b1s]
      · refine Same.mk' (r := nI (cnt (wth (f 149) a) 24)) h ⟨f, ?_, Sc.refl f, rfl⟩ (M _ (fun f' f5 h' e a3 => ?_))
        · show fX7_person f _ _ = _
          unfold fX7_person
          rw [h.rr.cper, hp, b1s, if_neg bt0, if_neg (by decide), if_neg (by decide), if_neg (by decide), if_neg (by decide), if_neg (by decide), if_neg (by decide), if_pos (by decide), co_lines h.bk.1 hP hT h.cb (show a < 8 by omega), b1s]
        · have hV : VB ro.P T ro.fm (f5 158) := by rw [a3.b, e]; exact h.bk.1
          have k := mo_lines hV hP hT (show a < 8 by omega)
          rw [a3.b, e] at k
          rw [if_pos (by decide), if_neg (by decide), if_neg (by decide), if_neg (by decide), k, b1s]
    · have ne := fun d (hd : d ≤ 6) => out_ne (by omega) hout (Nat.zero_le d) hd
      refine Same.mk' (r := -1) h ⟨f, ?_, Sc.refl f, rfl⟩ (fun f' h' _ => ⟨f', ?_, Sc.refl f'⟩)
      · show fX7_person f _ _ = _
        unfold fX7_person
        rw [h.rr.cper, hp, b1s, if_neg bt0, if_neg (show ¬ y = (0 : Int32) from ne 0 (by omega)), if_neg (show ¬ y = (1 : Int32) from ne 1 (by omega)), if_neg (show ¬ y = (2 : Int32) from ne 2 (by omega)), if_neg (show ¬ y = (3 : Int32) from ne 3 (by omega)), if_neg (show ¬ y = (4 : Int32) from ne 4 (by omega)), if_neg (show ¬ y = (5 : Int32) from ne 5 (by omega)), if_neg (show ¬ y = (6 : Int32) from ne 6 (by omega))]
      · show fX8_person f' _ _ = _
        unfold fX8_person
        rw [h'.rr.mper, hp, b1s, if_neg bt0, show fX8_in y (0 : Int32) (6 : Int32) = some 0 from hin, b1s, if_pos rfl]
