/-! a line struck in thought; trueBy by both -/
def stk (g : Nat → Int32) (i : Nat) : Nat → Int32 := upd g (16 + 4 * i) (-2)
theorem stk_vth {g : Nat → Int32} {i s : Nat} (hs : s < 24) : vth (stk g i) s = vth g s := by
  unfold vth vln stk
  rw [u_n (by omega)]
theorem stk_two {g : Nat → Int32} {i s : Nat} (hi : i < 24) (hs : s < 24) : two' g (nI i) s = vtw (stk g i) s := by
  unfold two' vtw
  rw [stk_vth hs]
  unfold stk
  by_cases e : s = i
  · rw [e, u_s, decide_eq_false m2_neg, decide_eq_true rfl, Bool.and_false]; simp
  · rw [u_n (by omega), decide_eq_false (show ¬ nI s = nI i from fun z => e ((nI_eq (by omega) (by omega)).mp z))]; simp
theorem stk_v {g : Nat → Int32} {i s : Nat} (h : s ≠ i) : vbg (stk g i) s = vbg g s ∧ vmn (stk g i) s = vmn g s ∧ vwn (stk g i) s = vwn g s := by
  unfold vbg vmn vwn stk
  rw [u_n (by omega), u_n (by omega), u_n (by omega)]
  exact ⟨rfl, rfl, rfl⟩
theorem two_ne {g : Nat → Int32} {i s : Nat} (h : two' g (nI i) s = true) : s ≠ i := by
  rintro rfl
  unfold two' at h
  rw [decide_eq_true rfl] at h
  simp at h
theorem co_mateX {ro : RO} {T : Nat} {g : Nat → Int32} (h : BK ro T g) (hP : ro.P ≤ 8) (hT : T < 1000000) {k bk i : Nat} (hkb : bk + 8 < k) (hi : i < 24) {f : hF} (hc : CB f bk g) {hd : Nat → Bool} (hH : HS (two' g (nI i)) (vbg g) (vmn g) (vwn g) hd) (hM : HM g hd (f (k+1))) {a d : Nat} (ha : a < 8) (hd9 : d < 1000000) :
    fX1_mateOf k bk f (nI a) (nI d) = some (mtB (stk g i) a d) := by
  have hne : ∀ t, t < 24 → hd t = true → t ≠ i := fun t ht q => two_ne ((hH t ht).mp q).1
  have e : fX1_mateOf k bk f (nI a) (nI d) = fX1_mateOf k bk (st2 f (bk + 4) i 2) (nI a) (nI d) := by
    unfold fX1_mateOf
    rw [row_ok ha, b1s, b1s, if_neg (show ¬ (1 : Int32) = 0 by decide), if_neg (show ¬ (1 : Int32) = 0 by decide), gdk ha (by omega), gdk ha (by omega), ncl (by omega), s2_n (j := k + 1) (by omega)]
    rcases hM a ha with ⟨q, -⟩ | ⟨t, ht, h1, -, h3⟩
    · rw [q]
      unfold fX1_mateOf_17
      rw [co_two_m1, co_two_m1, b1s, b1s, if_pos rfl, if_pos rfl]
    · have := hne t ht h1
      rw [h3]
      unfold fX1_mateOf_17 fX0_isOfTwo fX0_isLine
      simp only [s2_n (show bk + 3 ≠ bk + 4 by omega), s2_n (show bk + 5 ≠ bk + 4 by omega), s2_n (show bk + 6 ≠ bk + 4 by omega), s2_n (show bk + 7 ≠ bk + 4 by omega), s2_s, ncl (show t < 2147483648 by omega), u_n this]
  have hc' := CB_strike hi hc
  have hB' := BK_strike (s := i) hi h
  have hH' : HS (vtw (stk g i)) (vbg (stk g i)) (vmn (stk g i)) (vwn (stk g i)) hd := HS_congr (fun s hs => stk_two hi hs) (fun s hs q => by
    obtain ⟨q1, q2, q3⟩ := stk_v (g := g) (two_ne q)
    exact ⟨q1.symm, q2.symm, q3.symm⟩) hH
  have hM' : HM (stk g i) hd (st2 f (bk + 4) i 2 (k+1)) := by
    rw [s2_n (by omega)]
    intro p hp
    rcases hM p hp with ⟨q, w⟩ | ⟨t, ht, h1, h2, h3⟩
    · refine Or.inl ⟨q, fun t ht h1 => ?_⟩
      rw [(stk_v (hne t ht h1)).2.1, (stk_v (hne t ht h1)).2.2]; exact w t ht h1
    · refine Or.inr ⟨t, ht, h1, ?_, h3⟩
      rw [(stk_v (hne t ht h1)).2.1, (stk_v (hne t ht h1)).2.2]; exact h2
  have eh : ∀ s, s < 24 → hd s = hdB (stk g i) s := fun s hs => hdB_eq hH' hs
  have hM2 : HM (stk g i) (hdB (stk g i)) (st2 f (bk + 4) i 2 (k+1)) := by
    intro p hp
    rcases hM' p hp with ⟨q, w⟩ | ⟨t, ht, h1, h2, h3⟩
    · exact Or.inl ⟨q, fun t ht h1 => w t ht (by rw [eh t ht]; exact h1)⟩
    · exact Or.inr ⟨t, ht, by rw [← eh t ht]; exact h1, h2, h3⟩
  obtain ⟨r, r1, r2⟩ := co_mateOf hB'.1 hP hT hc' (hdB_HS hH') hM2 ha hd9
  rw [e, r1, (mtB_eq hB'.1 hP hT (hdB_HS hH') r2).1]
  rfl
def allB (h : Nat → Bool) : Nat → Bool
  | 0 => true
  | n+1 => allB h n && h n
theorem allB_f {h : Nat → Bool} {i : Nat} (hi : h i = false) : ∀ n, i < n → allB h n = false := by
  intro n
  induction n with
  | zero => intro q; exact absurd q (Nat.not_lt_zero i)
  | succ n ih =>
    intro q
    show (allB h n && h n) = false
    by_cases e : i = n
    · rw [← e, hi, Bool.and_false]
    · rw [ih (by omega), Bool.false_and]
noncomputable def so1B (f : hF) (g : Nat → Int32) (i : Nat) : Bool := decide ((if mtB g (f 48 i).toNatClampNeg (f 50 i).toNatClampNeg = f 49 i then (1 : Int32) else 0) = f 51 i)
/-- the sights told as they lie, m of them -/
def SF (P m : Nat) (f : hF) : Prop := ∀ i, i < m → ∃ a b d v, a < P ∧ b < P ∧ d ≤ 99 ∧ f 48 i = nI a ∧ f 49 i = nI b ∧ f 50 i = nI d ∧ f 51 i = bI v ∧ f 152 (4 * i) = nI a ∧ f 152 (4 * i + 1) = nI b ∧ f 152 (4 * i + 2) = nI d ∧ f 152 (4 * i + 3) = bI v
theorem co_areSo {P m k bk : Nat} (hP : P ≤ 8) (hm : m ≤ 6) {f f0 : hF} {g : Nat → Int32} (hs : SF P m f) (h0 : f 47 0 = nI m) (e0 : ∀ j, 48 ≤ j → j ≤ 51 → f0 j = f j) (hq : ∀ a d, a < 8 → d < 1000000 → fX1_mateOf k bk f (nI a) (nI d) = some (mtB g a d)) : fX6_areSo 47 k bk f = some (bI (allB (so1B f0 g) m)) := by
  have key : ∀ (r i n : Nat), i + r = m → r < n → allB (so1B f0 g) i = true → fX6_areSo_2 47 k bk f n (nI i) = some (bI (allB (so1B f0 g) m)) := by
    intro r
    induction r with
    | zero =>
      intro i n hr hn ha
      obtain ⟨n, rfl⟩ : ∃ k, n = k + 1 := ⟨n - 1, by omega⟩
      obtain rfl : i = m := by omega
      rw [fX6_areSo_2, h0, if_pos (show nI i ≤ nI i from Int32.le_refl _), ha, ite_self]; rfl
    | succ r ih =>
      intro i n hr hn ha
      obtain ⟨n, rfl⟩ : ∃ k, n = k + 1 := ⟨n - 1, by omega⟩
      obtain ⟨a, b, d, v, ha8, hb8, hd9, w1, w2, w3, w4, -⟩ := hs i (by omega)
      have es : so1B f0 g i = decide ((if mtB g a d = nI b then (1 : Int32) else 0) = bI v) := by
        unfold so1B
        rw [e0 48 (by omega) (by omega), e0 49 (by omega) (by omega), e0 50 (by omega) (by omega), e0 51 (by omega) (by omega), w1, w2, w3, w4, ncl (by omega), ncl (by omega)]
      rw [fX6_areSo_2, if_neg (show ¬ (6 : Int32) ≤ nI i from fun z => by have := (nI_leI (a := 6) (by omega) (by omega)).mp z; omega), h0, if_neg (show ¬ nI m ≤ nI i from fun z => by have := (nI_leI (by omega) (by omega)).mp z; omega), gdk (show i < 6 by omega) (by omega), gdk (show i < 6 by omega) (by omega), ncl (by omega), w1, w3, hq a d (by omega) (by omega), b1s, gdk (show i < 6 by omega) (by omega), w2]
      have e46 : ∀ s, fX6_areSo_46 47 k bk f (fX6_areSo_2 47 k bk f n) (nI i) s = if s = bI v then fX6_areSo_2 47 k bk f n (nI (i + 1)) else some 0 := fun s => by
        unfold fX6_areSo_46
        rw [gdk (show i < 6 by omega) (by omega), ncl (by omega), w4, show nI i + 1 = nI (i + 1) from nadd i 1]
      have fin : ∀ s : Int32, (if mtB g a d = nI b then (1 : Int32) else 0) = s → (if s = bI v then fX6_areSo_2 47 k bk f n (nI (i + 1)) else some 0) = some (bI (allB (so1B f0 g) m)) := by
        intro s hs
        rw [hs] at es
        by_cases q : s = bI v
        · rw [if_pos q]
          exact ih (i + 1) n (by omega) (by omega) (by show (allB (so1B f0 g) i && so1B f0 g i) = true; rw [ha, es, decide_eq_true q]; rfl)
        · rw [if_neg q, allB_f (i := i) (by rw [es, decide_eq_false q]) m (by omega)]; rfl
      by_cases z : mtB g a d = nI b
      · rw [if_pos z, e46]; exact fin 1 (if_pos z)
      · rw [if_neg z, e46]; exact fin 0 (if_neg z)
  exact key m 0 FU (by omega) (by unfold FU; omega) rfl
theorem mo_isSo {ro : RO} {T m : Nat} (hP : ro.P ≤ 8) (hT : T < 1000000) (hm : m ≤ 6) {f f0 : hF} (h : BK ro T (f 158)) (hs : SF ro.P m f0) (e0 : f 152 = f0 152) (h0 : f 146 10 = nI m) : ∃ f2, fX8_isSo f = some (bI (allB (so1B f0 (f 158)) m), f2) ∧ ∀ j, j ≠ 159 → j ≠ 160 → f2 j = f j := by
  obtain ⟨f2, a1, a2, a3, a4⟩ := mo_find h.1 hP hT
  refine ⟨f2, ?_, a2⟩
  have e158 : f2 158 = f 158 := a2 158 (by decide) (by decide)
  have e152 : f2 152 = f0 152 := (a2 152 (by decide) (by decide)).trans e0
  have key : ∀ (r i n : Nat), i + r = m → r < n → fX8_isSo_8 n f2 (bI (allB (so1B f0 (f 158)) i)) (nI i) = some (bI (allB (so1B f0 (f 158)) m), f2) := by
    intro r
    induction r with
    | zero =>
      intro i n hr hn
      obtain ⟨n, rfl⟩ : ∃ k, n = k + 1 := ⟨n - 1, by omega⟩
      obtain rfl : i = m := by omega
      rw [fX8_isSo_8, a2 146 (by decide) (by decide), h0, if_pos (show nI i ≤ nI i from Int32.le_refl _), bI_nr]
    | succ r ih =>
      intro i n hr hn
      obtain ⟨n, rfl⟩ : ∃ k, n = k + 1 := ⟨n - 1, by omega⟩
      obtain ⟨a, b, d, v, ha8, hb8, hd9, w1, w2, w3, w4, u1, u2, u3, u4⟩ := hs i (by omega)
      have es : so1B f0 (f 158) i = decide ((if mtB (f 158) a d = nI b then (1 : Int32) else 0) = bI v) := by
        unfold so1B
        rw [w1, w2, w3, w4, ncl (by omega), ncl (by omega)]
      have e := ih (i + 1) n (by omega) (by omega)
      rw [show allB (so1B f0 (f 158)) (i + 1) = (allB (so1B f0 (f 158)) i && so1B f0 (f 158) i) from rfl, es] at e
      have hmt : fX8_mateBy f2 (nI a) (nI d) = some (mtB (f 158) a d) := by
        rw [mo_mateB (f := f2) (by rw [e158]; exact h.1) hP hT (by rw [e158]; exact a4) (by rw [e158]; exact a3) (show a < 8 by omega) (show d < 1000000 by omega), e158]
      rw [fX8_isSo_8, a2 146 (by decide) (by decide), h0, if_neg (show ¬ nI m ≤ nI i from fun z => by have := (nI_leI (by omega) (by omega)).mp z; omega), show (4 : Int32) * nI i = nI (4 * i) from nmul 4 i, show nI (4 * i) + 2 = nI (4 * i + 2) from nadd _ 2, show nI (4 * i) + 1 = nI (4 * i + 1) from nadd _ 1, gdk (show 4 * i < 24 by omega) (by omega), gdk (show 4 * i + 2 < 24 by omega) (by omega), ncl (by omega), ncl (by omega), e152, u1, u3, hmt, b1s, gdk (show 4 * i + 1 < 24 by omega) (by omega), ncl (by omega), u2]
      have e88 : fX8_isSo_88 (fX8_isSo_8 n) f2 (nI i) = fX8_isSo_8 n f2 0 (nI (i + 1)) := by
        unfold fX8_isSo_88
        rw [show nI i + 1 = nI (i + 1) from nadd i 1]
      have e56 : ∀ s : Bool, fX8_isSo_56 (fX8_isSo_8 n) f2 (bI (allB (so1B f0 (f 158)) i)) (nI i) (bI s) = fX8_isSo_8 n f2 (bI (allB (so1B f0 (f 158)) i && decide (bI s = bI v))) (nI (i + 1)) := fun s => by
        unfold fX8_isSo_56 fX8_isSo_81
        rw [e88, show (4 : Int32) * nI i = nI (4 * i) from nmul 4 i, show nI (4 * i) + 3 = nI (4 * i + 3) from nadd _ 3, gdk (show 4 * i + 3 < 24 by omega) (by omega), ncl (by omega), e152, u4, show nI i + 1 = nI (i + 1) from nadd i 1]
        cases allB (so1B f0 (f 158)) i <;> cases s <;> cases v <;> rfl
      by_cases z : mtB (f 158) a d = nI b
      · rw [if_pos z] at e
        rw [if_pos z]
        exact (e56 true).trans e
      · rw [if_neg z] at e
        rw [if_neg z]
        exact (e56 false).trans e
  unfold fX8_isSo
  rw [a1, b1s]
  exact key m 0 FU (by omega) (by unfold FU; omega)
def fst1 (h : Nat → Bool) : Nat → Int32
  | 0 => -4
  | i+1 => if h i = true ∧ fst1 h i = -4 then nI (10 * (i / 8) + i % 8) else fst1 h i
theorem fst1_or (h : Nat → Bool) : ∀ i, i ≤ 24 → fst1 h i = -4 ∨ ∃ v, v < 1000 ∧ fst1 h i = nI v
  | 0, _ => Or.inl rfl
  | i+1, hi => by
    show (if h i = true ∧ fst1 h i = -4 then nI (10 * (i / 8) + i % 8) else fst1 h i) = -4 ∨ ∃ v, v < 1000 ∧ (if h i = true ∧ fst1 h i = -4 then nI (10 * (i / 8) + i % 8) else fst1 h i) = nI v
    by_cases z : h i = true ∧ fst1 h i = -4
    · rw [if_pos z]; exact Or.inr ⟨_, by omega, rfl⟩
    · rw [if_neg z]; exact fst1_or h i (by omega)
noncomputable def tb (f : hF) (g : Nat → Int32) (m i : Nat) : Bool := vtw g i && allB (so1B f (stk g i)) m
theorem so1_ext {f : hF} {g g' : Nat → Int32} (e : g = g') (m : Nat) : allB (so1B f g) m = allB (so1B f g') m := by rw [e]
theorem line10 {i : Nat} (hi : i < 24) : (10 : Int32) * (nI i / 8) + (nI i - nI i / 8 * 8) = nI (10 * (i / 8) + i % 8) := by
  rw [L8, nrem (by omega) (by omega) (by omega), ndiv (by omega) (by omega) (by omega), L10, nmul, nadd]
theorem trueBy_same {T : Nat} {ro : RO} {f : hF} (h : R T ro f) (hT : T < 1000000) (x : Int32) : Same T ro f (fun f => fX7_trueBy f x) (fun f => fX8_trueBy f x) := by
  have hP := h.rr.ok.2.1
  rcases in_or x 0 1 (by omega) (by omega) with ⟨w, -, hw, rfl, hin⟩ | ⟨hin, hout⟩
  · have hpart : fX7_isPart (nI w) = some 1 := by
      unfold fX7_isPart
      rcases (show w = 0 ∨ w = 1 by omega) with rfl | rfl <;> rfl
    obtain ⟨m, hm, s1, s2, s3⟩ := h.seen
    have hS : SF ro.P m f := s3
    have hg := h.bk
    generalize hgg : f 149 = g at hg
    have hcb : CB f 20 g := by rw [← hgg]; exact h.cb
    have co : ∀ (r i n : Nat) (f' : hF), i + r = 24 → r < n → (∀ j, j ≠ 30 → j ≠ 31 → f' j = f j) → ∃ f2, fX7_trueBy_17 (nI w) n f' (nI (cnt (tb f g m) i)) (fst1 (tb f g m) i) (nI i) = some (if w = 1 then fst1 (tb f g m) 24 else nI (cnt (tb f g m) 24 + if allB (so1B f g) m then 256 else 0), f2) ∧ ∀ j, j ≠ 30 → j ≠ 31 → f2 j = f j := by
      intro r
      induction r with
      | zero =>
        intro i n f' hr hn e
        obtain ⟨n, rfl⟩ : ∃ k, n = k + 1 := ⟨n - 1, by omega⟩
        obtain rfl : i = 24 := by omega
        rw [fX7_trueBy_17, if_pos (by decide)]
        have hc' : CB f' 20 g := CB_frame (fun t t1 t2 => e t (by omega) (by omega)) hcb
        obtain ⟨f2, hd, a1, a2, a3, a4⟩ := co_settle hg.1 hP hT (x := -1) (k := 29) (bk := 20) (by omega) hc'
        have e2 : ∀ j, j ≠ 30 → j ≠ 31 → f2 j = f j := fun j j1 j2 => (a2 j j1 j2).trans (e j j1 j2)
        have a3' : HS (vtw g) (vbg g) (vmn g) (vwn g) hd := HS_congr two'_m1 (fun _ _ _ => ⟨rfl, rfl, rfl⟩) a3
        have a4' : HM g (hdB g) (f2 30) := by
          intro p hp
          rcases a4 p hp with ⟨q, w⟩ | ⟨t, ht, h1, h2, h3⟩
          · exact Or.inl ⟨q, fun t ht h1 => w t ht (by rw [hdB_eq a3' ht]; exact h1)⟩
          · exact Or.inr ⟨t, ht, by rw [← hdB_eq a3' ht]; exact h1, h2, h3⟩
        have hS2 : SF ro.P m f2 := by
          unfold SF at hS ⊢
          rw [e2 48 (by omega) (by omega), e2 49 (by omega) (by omega), e2 50 (by omega) (by omega), e2 51 (by omega) (by omega), e2 152 (by omega) (by omega)]
          exact hS
        have ha := co_areSo (k := 29) (bk := 20) (f0 := f) hP hm hS2 (by rw [e2 47 (by omega) (by omega)]; exact s1) (fun j j1 j2 => (e2 j (by omega) (by omega)).symm) (fun a d ha hd9 => by
          obtain ⟨r, r1, r2⟩ := co_mateOf hg.1 hP hT (CB_frame (fun t t1 t2 => e2 t (by omega) (by omega)) hcb) (hdB_HS a3') a4' ha hd9
          rw [r1, (mtB_eq hg.1 hP hT (hdB_HS a3') r2).1])
        rcases (show w = 0 ∨ w = 1 by omega) with rfl | rfl
        · refine ⟨f2, ?_, e2⟩
          rw [if_neg (by decide), if_neg (by decide)]
          unfold fX7_isSeenWithout
          rw [a1, b1s, ha, b1s, bI_nr, b2s, bi_if]
          cases allB (so1B f g) m with
          | false => rfl
          | true => rw [if_pos rfl, if_pos rfl, show nI (cnt (tb f g m) 24) + 256 = nI (cnt (tb f g m) 24 + 256) from nadd _ 256]
        · exact ⟨f', by rw [if_pos (by decide), if_pos rfl], e⟩
      | succ r ih =>
        intro i n f' hr hn e
        obtain ⟨n, rfl⟩ : ∃ k, n = k + 1 := ⟨n - 1, by omega⟩
        have hi : i < 24 := by omega
        have hc' : CB f' 20 g := CB_frame (fun t t1 t2 => e t (by omega) (by omega)) hcb
        have no : ∀ f'', tb f g m i = false → (∀ j, j ≠ 30 → j ≠ 31 → f'' j = f j) → ∃ f2, fX7_trueBy_17 (nI w) n f'' (nI (cnt (tb f g m) i)) (fst1 (tb f g m) i) (nI i + 1) = some (if w = 1 then fst1 (tb f g m) 24 else nI (cnt (tb f g m) 24 + if allB (so1B f g) m then 256 else 0), f2) ∧ ∀ j, j ≠ 30 → j ≠ 31 → f2 j = f j := fun f'' q e' => by
          have := ih (i + 1) n f'' (by omega) (by omega) e'
          rw [cnt_s, show fst1 (tb f g m) (i + 1) = if tb f g m i = true ∧ fst1 (tb f g m) i = -4 then nI (10 * (i / 8) + i % 8) else fst1 (tb f g m) i from rfl, q] at this
          rw [show nI i + 1 = nI (i + 1) from nadd i 1]
          exact this
        rw [fX7_trueBy_17, if_neg (show ¬ (24 : Int32) ≤ nI i by rw [L24, nleq (by omega) (by omega)]; omega), co_two hg.1 hc' hi, b1s, bi_if]
        cases htw : vtw g i with
        | false =>
          rw [if_neg (by decide)]
          exact no f' (by unfold tb; rw [htw]; rfl) e
        | true =>
          obtain ⟨f2, hd, a1, a2, a3, a4⟩ := co_settle hg.1 hP hT (x := nI i) (k := 29) (bk := 20) (by omega) hc'
          have e2 : ∀ j, j ≠ 30 → j ≠ 31 → f2 j = f j := fun j j1 j2 => (a2 j j1 j2).trans (e j j1 j2)
          have hS2 : SF ro.P m f2 := by
            unfold SF at hS ⊢
            rw [e2 48 (by omega) (by omega), e2 49 (by omega) (by omega), e2 50 (by omega) (by omega), e2 51 (by omega) (by omega), e2 152 (by omega) (by omega)]
            exact hS
          have ha := co_areSo (k := 29) (bk := 20) (f0 := f) (g := stk g i) hP hm hS2 (by rw [e2 47 (by omega) (by omega)]; exact s1) (fun j j1 j2 => (e2 j (by omega) (by omega)).symm) (fun a d ha hd9 => co_mateX hg hP hT (k := 29) (bk := 20) (by omega) hi (CB_frame (fun t t1 t2 => e2 t (by omega) (by omega)) hcb) a3 a4 ha hd9)
          have et : tb f g m i = allB (so1B f (stk g i)) m := by unfold tb; rw [htw]; rfl
          rw [if_pos rfl]
          unfold fX7_isSeenWithout
          rw [a1, b1s, ha, b1s, bI_nr, b2s, bi_if, ← et]
          cases q : tb f g m i with
          | false =>
            rw [if_neg (by decide)]
            exact no f2 q e2
          | true =>
            have := ih (i + 1) n f2 (by omega) (by omega) e2
            rw [cnt_s, show fst1 (tb f g m) (i + 1) = if tb f g m i = true ∧ fst1 (tb f g m) i = -4 then nI (10 * (i / 8) + i % 8) else fst1 (tb f g m) i from rfl, q] at this
            rw [if_pos rfl, line10 hi, show nI i + 1 = nI (i + 1) from nadd i 1, show nI (cnt (tb f g m) i) + 1 = nI (cnt (tb f g m) i + 1) from nadd _ 1]
            by_cases z : fst1 (tb f g m) i = -4
            · rw [if_pos z]
              rw [if_pos rfl, if_pos ⟨rfl, z⟩] at this
              exact this
            · rw [if_neg z]
              rw [if_pos rfl, if_neg (show ¬ (true = true ∧ fst1 (tb f g m) i = -4) from fun y => z y.2)] at this
              exact this
    have mo : ∀ (base r i n : Nat) (f5 f' : hF), i + r = 24 → r < n → (∀ j, j ≠ 159 → j ≠ 160 → f' j = f5 j) → f5 158 = g → f5 152 = f 152 → f5 146 10 = nI m → ∃ f2, fX8_trueBy_36 (nI w) n f' (nI (base + cnt (tb f g m) i)) (fst1 (tb f g m) i) (nI i) = some (if w = 1 then fst1 (tb f g m) 24 else nI (cnt (tb f g m) 24 + base), f2) ∧ ∀ j, j ≠ 159 → j ≠ 160 → f2 j = f5 j := by
      intro base r
      induction r with
      | zero =>
        intro i n f5 f' hr hn e g5 m5 z5
        obtain ⟨n, rfl⟩ : ∃ k, n = k + 1 := ⟨n - 1, by omega⟩
        obtain rfl : i = 24 := by omega
        refine ⟨f', ?_, e⟩
        rw [fX8_trueBy_36, if_pos (by decide), Nat.add_comm base]
        rcases (show w = 0 ∨ w = 1 by omega) with rfl | rfl <;> rfl
      | succ r ih =>
        intro i n f5 f' hr hn e g5 m5 z5
        obtain ⟨n, rfl⟩ : ∃ k, n = k + 1 := ⟨n - 1, by omega⟩
        have hi : i < 24 := by omega
        have g' : f' 158 = g := (e 158 (by decide) (by decide)).trans g5
        have no : ∀ f'', tb f g m i = false → (∀ j, j ≠ 159 → j ≠ 160 → f'' j = f5 j) → ∃ f2, fX8_trueBy_36 (nI w) n f'' (nI (base + cnt (tb f g m) i)) (fst1 (tb f g m) i) (nI i + 1) = some (if w = 1 then fst1 (tb f g m) 24 else nI (cnt (tb f g m) 24 + base), f2) ∧ ∀ j, j ≠ 159 → j ≠ 160 → f2 j = f5 j := fun f'' q e' => by
          have := ih (i + 1) n f5 f'' (by omega) (by omega) e' g5 m5 z5
          rw [cnt_s, show fst1 (tb f g m) (i + 1) = if tb f g m i = true ∧ fst1 (tb f g m) i = -4 then nI (10 * (i / 8) + i % 8) else fst1 (tb f g m) i from rfl, q] at this
          rw [show nI i + 1 = nI (i + 1) from nadd i 1]
          exact this
        rw [fX8_trueBy_36, if_neg (show ¬ (24 : Int32) ≤ nI i by rw [L24, nleq (by omega) (by omega)]; omega), mo_two (by rw [g']; exact hg.1) hi, b1s, bi_if, g']
        cases htw : vtw g i with
        | false =>
          rw [if_neg (by decide)]
          exact no f' (by unfold tb; rw [htw]; rfl) e
        | true =>
          have hst : st2 f' 158 (16 + 4 * i) (-2) 158 = stk g i := by rw [s2_s, g']; rfl
          obtain ⟨f9, k1, k2⟩ := mo_isSo (f := st2 f' 158 (16 + 4 * i) (-2)) (f0 := f) hP hT hm (by rw [hst]; exact BK_strike hi hg) hS (by rw [s2_n (by decide), e 152 (by decide) (by decide)]; exact m5) (by rw [s2_n (by decide), e 146 (by decide) (by decide)]; exact z5)
          rw [hst] at k1
          have et : tb f g m i = allB (so1B f (stk g i)) m := by unfold tb; rw [htw]; rfl
          have e11 : ∀ j, j ≠ 159 → j ≠ 160 → st2 f9 158 (16 + 4 * i) (g (16 + 4 * i)) j = f5 j := fun j j1 j2 => by
            by_cases z : j = 158
            · rw [z, s2_s, k2 158 (by decide) (by decide), hst, g5]
              funext t
              unfold stk
              by_cases y : t = 16 + 4 * i
              · rw [y, u_s]
              · rw [u_n y, u_n y]
            · rw [s2_n z, k2 j j1 j2, s2_n z, e j j1 j2]
          rw [if_pos rfl, mo_man hi, b1s, g', show (4 : Int32) * nI i = nI (4 * i) from nmul 4 i, show (15 : Int32) + nI (4 * i) = nI (15 + 4 * i) from nadd 15 _, show nI (15 + 4 * i) + 1 = nI (15 + 4 * i + 1) from nadd _ 1, gdk (by omega) (by omega), lte, ncl (by omega), show 15 + 4 * i + 1 = 16 + 4 * i by omega, k1, b2s, gdk (by omega) (by omega), lte, ← et, bi_if]
          unfold fX8_trueBy_109 fX8_trueBy_137
          rw [line10 hi]
          cases q : tb f g m i with
          | false =>
            rw [if_neg (by decide), if_pos bf0, show nI (base + cnt (tb f g m) i) + 0 = nI (base + cnt (tb f g m) i) from nadd _ 0]
            exact no _ q e11
          | true =>
            have := ih (i + 1) n f5 _ (by omega) (by omega) e11 g5 m5 z5
            rw [cnt_s, show fst1 (tb f g m) (i + 1) = if tb f g m i = true ∧ fst1 (tb f g m) i = -4 then nI (10 * (i / 8) + i % 8) else fst1 (tb f g m) i from rfl, q] at this
            rw [if_pos rfl, if_neg bt0, show nI i + 1 = nI (i + 1) from nadd i 1, show nI (base + cnt (tb f g m) i) + 1 = nI (base + (cnt (tb f g m) i + 1)) from nadd _ 1]
            rcases fst1_or (tb f g m) i (by omega) with z | ⟨u, u1, z⟩
            · rw [if_neg (show ¬ (0 : Int32) ≤ fst1 (tb f g m) i by rw [z]; decide)]
              rw [if_pos rfl, if_pos ⟨rfl, z⟩] at this
              exact this
            · rw [if_pos (show (0 : Int32) ≤ fst1 (tb f g m) i by rw [z]; exact nI_pos' (by omega))]
              rw [if_pos rfl, if_neg (show ¬ (true = true ∧ fst1 (tb f g m) i = -4) from fun y => by rw [z] at y; exact n4 (b := u) (by omega) y.2)] at this
              exact this
    obtain ⟨f2, c1, c2⟩ := co 24 0 FU f rfl (by decide) (fun _ _ _ => rfl)
    have z0 : cnt (tb f g m) 0 = 0 := rfl
    have z1 : fst1 (tb f g m) 0 = -4 := rfl
    have z2 : nI 0 = (0 : Int32) := rfl
    have z3 : nI 256 = (256 : Int32) := rfl
    rw [z0, z1, z2] at c1
    have s02 : Sc f f2 := Sc.co (fun j _ j2 => c2 j (by omega) (by omega))
    have h2 := R_sc s02 h
    have g2 : f2 149 = g := by rw [c2 149 (by decide) (by decide)]; exact hgg
    have hA : stA f2 158 (f2 149) 158 = g := by rw [sA_s]; exact g2
    obtain ⟨f5, k1, k2⟩ := mo_isSo (f := stA f2 158 (f2 149)) (f0 := f) hP hT hm (by rw [hA]; exact hg) hS (by rw [sA_n (by decide), c2 152 (by decide) (by decide)]) (by rw [sA_n (by decide), c2 146 (by decide) (by decide)]; exact s2)
    rw [hA] at k1
    obtain ⟨f6, l1, l2⟩ := mo (if allB (so1B f g) m then 256 else 0) 24 0 FU f5 f5 rfl (by decide) (fun _ _ _ => rfl) (by rw [k2 158 (by decide) (by decide)]; exact hA) (by rw [k2 152 (by decide) (by decide), sA_n (by decide), c2 152 (by decide) (by decide)]) (by rw [k2 146 (by decide) (by decide), sA_n (by decide), c2 146 (by decide) (by decide)]; exact s2)
    have e6 : ∀ j, j ≠ 158 → j ≠ 159 → j ≠ 160 → j ≠ 161 → f6 j = f2 j := fun j j1 j2 j3 _ => by rw [l2 j j2 j3, k2 j j2 j3, sA_n j1]
    refine ⟨if w = 1 then fst1 (tb f g m) 24 else nI (cnt (tb f g m) 24 + if allB (so1B f g) m then 256 else 0), f2, f6, ?_, s02, ?_, Sc_158 h2 e6 (fun i hi => by rw [l2 158 (by decide) (by decide), k2 158 (by decide) (by decide), hA]; exact hg.2.2 i hi)⟩
    · show fX7_trueBy f _ = _
      unfold fX7_trueBy
      rw [hpart, b1s, if_neg (by decide)]
      exact c1
    · show fX8_trueBy f2 _ = _
      unfold fX8_trueBy
      rw [show fX8_in (nI w) (0 : Int32) (1 : Int32) = some 1 from hin, b1s, if_neg (by decide), h2.as, b1s, k1, b2s, bi_if]
      unfold fX8_trueBy_29
      rw [z0, z1, z2, Nat.add_zero] at l1
      cases q : allB (so1B f g) m with
      | false =>
        rw [q, if_neg (show ¬ false = true by decide), z2] at l1
        rw [if_neg (show ¬ false = true by decide), if_neg (show ¬ false = true by decide)]
        exact l1
      | true =>
        rw [q, if_pos rfl, z3] at l1
        rw [if_pos rfl, if_pos rfl]
        exact l1
  · have ne := fun d (hd : d ≤ 1) => out_ne (by omega) hout (Nat.zero_le d) hd
    refine Same.mk' (r := -1) h ⟨f, ?_, Sc.refl f, rfl⟩ (fun f' h' e => ⟨f', ?_, Sc.refl f'⟩)
    · show fX7_trueBy f x = _
      unfold fX7_trueBy fX7_isPart
      rw [if_neg (show ¬ x = (0 : Int32) from ne 0 (by omega)), if_neg (show ¬ x = (1 : Int32) from ne 1 (by omega)), b1s, if_pos rfl]
    · unfold fX8_trueBy
      rw [show fX8_in x (0 : Int32) (1 : Int32) = some 0 from hin, b1s, if_pos rfl]
