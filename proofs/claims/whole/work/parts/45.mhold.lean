/-! eight persons as bits; which lines hold, by the reference -/
def ibit (x : Int32) (p : Nat) : Bool := x.toBitVec.getLsbD p
theorem ibit_or (x y : Int32) (p : Nat) : ibit (x ||| y) p = (ibit x p || ibit y p) := by simp [ibit]
theorem ibit_0 (p : Nat) : ibit 0 p = false := by simp [ibit]
theorem ibit_and0 {x y : Int32} : (x &&& y = 0) ↔ ∀ p, p < 32 → ¬ (ibit x p = true ∧ ibit y p = true) := by
  constructor
  · rintro h p - ⟨a, b⟩
    have h1 := congrArg (fun z => ibit z p) h
    simp only [ibit_0] at h1
    unfold ibit at h1 a b
    rw [Int32.toBitVec_and, BitVec.getLsbD_and, a, b] at h1
    cases h1
  · intro h
    apply Int32.toBitVec_inj.mp
    apply BitVec.eq_of_getLsbD_eq
    intro p hp
    have h1 := h p hp
    unfold ibit at h1
    rw [Int32.toBitVec_and, BitVec.getLsbD_and]
    have h0 : (0 : Int32).toBitVec.getLsbD p = false := ibit_0 p
    rw [h0]
    cases a : x.toBitVec.getLsbD p with
    | false => rfl
    | true =>
      cases b : y.toBitVec.getLsbD p with
      | false => rfl
      | true => exact absurd ⟨a, b⟩ h1
def i2 (m w : Nat) : Int32 := ((1 : Int32) <<< (nI m &&& 31)) ||| (1 <<< (nI w &&& 31))
theorem ibit_i2 : ∀ m, m < 8 → ∀ w, w < 8 → ∀ p, p < 32 → ibit (i2 m w) p = (p == m || p == w) := by decide +kernel
def up1 (h : Nat → Bool) (k : Nat) (v : Bool) : Nat → Bool := fun s => if s = k then v else h s
theorem up1_s (h : Nat → Bool) (k : Nat) (v : Bool) : up1 h k v k = v := if_pos rfl
theorem up1_n {h : Nat → Bool} {k t : Nat} {v : Bool} (e : t ≠ k) : up1 h k v t = h t := if_neg e
/-- in the middle of going through: 159 says what holds, 160 what has been gone through, mask who is in what holds -/
def FH (g0 : Nat → Int32) (f : hF) (mask : Int32) (hd L : Nat → Bool) : Prop :=
  (∀ t, t < 24 → f 159 t = bI (hd t)) ∧ (∀ t, t < 24 → (L t = true ↔ f 160 t ≠ 0)) ∧ HSon (vtw g0) (vbg g0) (vmn g0) (vwn g0) L hd ∧
  ∀ p, p < 32 → (ibit mask p = true ↔ ∃ t, t < 24 ∧ hd t = true ∧ (vmn g0 t = p ∨ vwn g0 t = p))
theorem FH_free {P T : Nat} {fm : Nat → Bool} {g0 : Nat → Int32} (h : VB P T fm g0) (hP : P ≤ 8) (hT : T < 1000000) {f : hF} {mask : Int32} {hd L : Nat → Bool} (hI : FH g0 f mask hd L) {k : Nat} (hk : k < 24) (htw : vtw g0 k = true) :
    mask &&& i2 (vmn g0 k) (vwn g0 k) = 0 ↔ ∀ t, t < 24 → hd t = true → ¬ shr (vmn g0) (vwn g0) t k := by
  obtain ⟨-, a2, -, -, a4, -, -⟩ := VB_two h hP hT hk htw
  rw [ibit_and0]
  constructor
  · intro h1 t ht hht hs
    rcases hs with hs | hs
    · refine h1 (vmn g0 k) (by omega) ⟨(hI.2.2.2 _ (by omega)).mpr ⟨t, ht, hht, Or.inl hs⟩, ?_⟩
      rw [ibit_i2 _ (by omega) _ (by omega) _ (by omega)]; simp
    · refine h1 (vwn g0 k) (by omega) ⟨(hI.2.2.2 _ (by omega)).mpr ⟨t, ht, hht, Or.inr hs⟩, ?_⟩
      rw [ibit_i2 _ (by omega) _ (by omega) _ (by omega)]; simp
  · rintro h1 p hp ⟨b1, b2⟩
    rw [ibit_i2 _ (by omega) _ (by omega) _ hp] at b2
    obtain ⟨t, ht, hht, hs⟩ := (hI.2.2.2 p hp).mp b1
    have hw := (VB_two h hP hT ht (hI.2.2.1.2.1 t ht hht).2)
    have hw2 := (VB_two h hP hT hk htw)
    simp only [Bool.or_eq_true, beq_iff_eq] at b2
    refine h1 t ht hht ?_
    unfold shr
    rcases b2 with b2 | b2 <;> rcases hs with hs | hs
    · exact Or.inl (hs.trans b2)
    · have e : vwn g0 t = vmn g0 k := hs.trans b2
      have q1 := hw.2.2.2.2.2.1
      rw [e, hw2.2.2.1] at q1; cases q1
    · have e : vmn g0 t = vwn g0 k := hs.trans b2
      have q1 := hw.2.2.1
      rw [e, hw2.2.2.2.2.2.1] at q1; cases q1
    · exact Or.inr (hs.trans b2)
theorem fh_loop {P T : Nat} {fm : Nat → Bool} {g0 : Nat → Int32} (h : VB P T fm g0) (hP : P ≤ 8) (hT : T < 1000000) : ∀ (r : Nat) (f : hF) (mask b : Int32) (n : Nat) (hd L : Nat → Bool), f 158 = g0 → (List.range 24).countP (fun t => vtw g0 t && decide (f 160 t = 0)) < r → r ≤ n → FH g0 f mask hd L → nlI f 24 b →
    ∃ g, fX8_findHolds_35 n f mask b = some g ∧ (∀ j, j ≠ 159 → j ≠ 160 → g j = f j) ∧ ∃ hd, (∀ t, t < 24 → g 159 t = bI (hd t)) ∧ HS (vtw g0) (vbg g0) (vmn g0) (vwn g0) hd := by
  intro r
  induction r with
  | zero => intro f mask b n hd L _ hc; exact absurd hc (Nat.not_lt_zero _)
  | succ r ih =>
    intro f mask b n hd L hf hc hn hI hb
    obtain ⟨m, rfl⟩ : ∃ m, n = m + 1 := ⟨n - 1, by omega⟩
    rw [fX8_findHolds_35]
    rcases hb with ⟨hb, hx⟩ | ⟨k, hk, hb, h1, h2, h3⟩
    · rw [hb, if_pos (by decide)]
      exact ⟨f, rfl, fun _ _ _ => rfl, hd, hI.1, HSon_all hI.2.2.1 (fun s hs htw => (hI.2.1 s hs).mpr (hx s hs (by rw [hf]; exact htw)))⟩
    · rw [hf] at h1 h3
      have hf3 : (st2 f 160 k (vp_nar .boolean 1)) 158 = g0 := by rw [s2_n (by decide)]; exact hf
      obtain ⟨a1, a2, -, a3, a4, -, -⟩ := VB_two h hP hT hk h1
      have hLk : L k = false := by
        cases q : L k with
        | false => rfl
        | true => exact absurd h2 ((hI.2.1 k hk).mp q)
      have hdk : hd k = false := by
        cases q : hd k with
        | false => rfl
        | true => rw [(hI.2.2.1.2.1 k hk q).1] at hLk; cases hLk
      have key : ∀ v : Bool, (v = true ↔ ∀ t, t < 24 → hd t = true → ¬ shr (vmn g0) (vwn g0) t k) →
          ∃ g, fX8_findHolds_78 (fX8_findHolds_35 m) (st2 f 160 k (vp_nar .boolean 1)) mask (nI k) (i2 (vmn g0 k) (vwn g0 k)) (nI k) (bI v) = some g ∧ (∀ j, j ≠ 159 → j ≠ 160 → g j = f j) ∧ ∃ hd, (∀ t, t < 24 → g 159 t = bI (hd t)) ∧ HS (vtw g0) (vbg g0) (vmn g0) (vwn g0) hd := by
        intro v hv
        unfold fX8_findHolds_78
        rw [gdk (show k < 24 from hk) (by omega), lte, ncl (by omega), bI_nar, gdk (show k < 24 from hk) (by omega), nar1]
        have hf2 : (st2 (st2 f 160 k (bI true)) 159 k (bI v)) 158 = g0 := by rw [s2_n (by decide), s2_n (by decide)]; exact hf
        have h159 : (st2 (st2 f 160 k (bI true)) 159 k (bI v)) 159 = upd (f 159) k (bI v) := by rw [s2_s, s2_n (by decide)]
        have h160 : (st2 (st2 f 160 k (bI true)) 159 k (bI v)) 160 = upd (f 160) k (bI true) := by rw [s2_n (by decide), s2_s]
        have hfr2 : ∀ j, j ≠ 159 → j ≠ 160 → (st2 (st2 f 160 k (bI true)) 159 k (bI v)) j = f j := fun j j1 j2 => by rw [s2_n j1, s2_n j2]
        have hbr : (if (st2 (st2 f 160 k (bI true)) 159 k (bI v)) 159 k = 0 then fX8_findHolds_94 (fX8_findHolds_35 m) (st2 (st2 f 160 k (bI true)) 159 k (bI v)) mask 0 else fX8_findHolds_94 (fX8_findHolds_35 m) (st2 (st2 f 160 k (bI true)) 159 k (bI v)) mask (i2 (vmn g0 k) (vwn g0 k))) = fX8_findHolds_94 (fX8_findHolds_35 m) (st2 (st2 f 160 k (bI true)) 159 k (bI v)) mask (if v then i2 (vmn g0 k) (vwn g0 k) else 0) := by
          rw [h159, u_s]
          cases v <;> rfl
        rw [hbr]
        generalize st2 (st2 f 160 k (bI true)) 159 k (bI v) = f2 at *
        unfold fX8_findHolds_94
        obtain ⟨b', hb', hI'⟩ := mo_next (f := f2) (by rw [hf2]; exact h) hT
        rw [hb', b1s]
        have hcnt : (List.range 24).countP (fun t => vtw g0 t && decide (f2 160 t = 0)) < (List.range 24).countP (fun t => vtw g0 t && decide (f 160 t = 0)) := by
          refine cn_lt (fun t _ ht => ?_) ⟨k, List.mem_range.mpr hk, by rw [h1, h2]; rfl, by rw [h160, u_s, h1]; rfl⟩
          by_cases e : t = k
          · subst e; rw [h1, h2]; rfl
          · rw [h160, u_n e] at ht; exact ht
        have hFH : FH g0 f2 (mask ||| if v then i2 (vmn g0 k) (vwn g0 k) else 0) (up1 hd k v) (up1 L k true) := by
          refine ⟨fun t ht => ?_, fun t ht => ?_, HSon_next hI.2.2.1 hk hLk h1 (fun t ht htw hp => ?_) hv, fun p hp => ?_⟩
          · rw [h159]
            by_cases e : t = k
            · subst e; rw [u_s, up1_s]
            · rw [u_n e, up1_n e]; exact hI.1 t ht
          · rw [h160]
            by_cases e : t = k
            · subst e; rw [u_s, up1_s]; exact ⟨fun _ => by decide, fun _ => rfl⟩
            · rw [u_n e, up1_n e]; exact hI.2.1 t ht
          · by_cases q : f 160 t = 0
            · have hne : t ≠ k := fun e => by subst e; exact prec_irr hp
              exact absurd (prec_trans hp (h3 t ht htw q hne)) prec_irr
            · exact (hI.2.1 t ht).mpr q
          · rw [ibit_or, Bool.or_eq_true, hI.2.2.2 p hp]
            constructor
            · rintro (⟨t, ht, hht, hs⟩ | q)
              · refine ⟨t, ht, ?_, hs⟩
                have e : t ≠ k := fun e => by rw [e, hdk] at hht; cases hht
                rw [up1_n e]; exact hht
              · cases v with
                | false => rw [if_neg (by decide), ibit_0] at q; cases q
                | true =>
                  rw [if_pos rfl, ibit_i2 _ (by omega) _ (by omega) _ hp] at q
                  simp only [Bool.or_eq_true, beq_iff_eq] at q
                  exact ⟨k, hk, up1_s _ _ _, by omega⟩
            · rintro ⟨t, ht, hht, hs⟩
              by_cases e : t = k
              · rw [e, up1_s] at hht
                right
                rw [if_pos hht, ibit_i2 _ (by omega) _ (by omega) _ hp]
                rw [e] at hs
                simp only [Bool.or_eq_true, beq_iff_eq]
                omega
              · rw [up1_n e] at hht
                exact Or.inl ⟨t, ht, hht, hs⟩
        obtain ⟨g, hg, hfr, hh⟩ := ih f2 _ b' m _ _ hf2 (by omega) (by omega) hFH hI'
        exact ⟨g, hg, fun j j1 j2 => (hfr j j1 j2).trans (hfr2 j j1 j2), hh⟩
      rw [hb, if_neg (nI_pos (by omega)), gdk (show k < 24 from hk) (by omega), lte, ncl (by omega), mo_man hk, b1s, mo_woman hk, b1s, hf3, a1, a3]
      have hfree := FH_free h hP hT hI hk h1
      by_cases q : mask &&& i2 (vmn g0 k) (vwn g0 k) = 0
      · have q' := q
        unfold i2 at q'
        rw [if_pos q']
        exact key true ⟨fun _ => hfree.mp q, fun _ => rfl⟩
      · have q' := q
        unfold i2 at q'
        rw [if_neg q']
        exact key false ⟨fun z => (by cases z), fun z => absurd (hfree.mpr z) q⟩
theorem fh_clear : ∀ (r i : Nat) (f : hF) (n : Nat), i + r = 24 → r < n → (∀ t, t < i → f 159 t = 0 ∧ f 160 t = 0) →
    ∃ g, fX8_findHolds_2 n f (nI i) = b1 (fX8_nextLine g) (fun r2 => fX8_findHolds_35 FU g 0 r2) ∧ (∀ j, j ≠ 159 → j ≠ 160 → g j = f j) ∧ ∀ t, t < 24 → g 159 t = 0 ∧ g 160 t = 0 := by
  intro r
  induction r with
  | zero =>
    intro i f n hr hn h0
    obtain ⟨m, rfl⟩ : ∃ m, n = m + 1 := ⟨n - 1, by omega⟩
    obtain rfl : i = 24 := by omega
    refine ⟨f, ?_, fun _ _ _ => rfl, h0⟩
    rw [fX8_findHolds_2, if_pos (by decide)]
  | succ r ih =>
    intro i f n hr hn h0
    obtain ⟨m, rfl⟩ : ∃ m, n = m + 1 := ⟨n - 1, by omega⟩
    rw [fX8_findHolds_2, if_neg (show ¬ (24 : Int32) ≤ nI i by rw [L24, nleq (by omega) (by omega)]; omega), gdk (show i < 24 by omega) (by omega), lte, ncl (by omega), gdk (show i < 24 by omega) (by omega), lte,
      show nI i + 1 = nI (i + 1) from nadd i 1]
    obtain ⟨g, hg, hfr, h1⟩ := ih (i + 1) (st2 (st2 f 159 i (vp_nar .boolean 0)) 160 i (vp_nar .boolean 0)) m (by omega) (by omega) (fun t ht => by
      rw [s2_s, s2_n (show 159 ≠ 160 by decide), s2_s, s2_n (show 160 ≠ 159 by decide)]
      by_cases e : t = i
      · subst e; rw [u_s, u_s]; exact ⟨rfl, rfl⟩
      · rw [u_n e, u_n e]; exact h0 t (by omega))
    exact ⟨g, hg, fun j j1 j2 => (hfr j j1 j2).trans (by rw [s2_n j2, s2_n j1]), h1⟩
/-- findHolds lays into 159 which lines hold, and changes nothing but that and 160 -/
theorem mo_holds {P T : Nat} {fm : Nat → Bool} {f : hF} (h : VB P T fm (f 158)) (hP : P ≤ 8) (hT : T < 1000000) :
    ∃ g, fX8_findHolds f = some g ∧ (∀ j, j ≠ 159 → j ≠ 160 → g j = f j) ∧ ∃ hd, (∀ t, t < 24 → g 159 t = bI (hd t)) ∧ HS (vtw (f 158)) (vbg (f 158)) (vmn (f 158)) (vwn (f 158)) hd := by
  obtain ⟨g1, e1, fr1, z1⟩ := fh_clear 24 0 f FU rfl (by decide) (fun t ht => absurd ht (Nat.not_lt_zero t))
  have e8 : g1 158 = f 158 := fr1 158 (by decide) (by decide)
  obtain ⟨b, hb, hI⟩ := mo_next (f := g1) (by rw [e8]; exact h) hT
  have hFH : FH (f 158) g1 0 (fun _ => false) (fun _ => false) := by
    refine ⟨fun t ht => (z1 t ht).1, fun t ht => ⟨fun q => (by cases q), fun q => absurd (z1 t ht).2 q⟩, HSon_0, fun p _ => ?_⟩
    rw [ibit_0]
    exact ⟨fun q => (by cases q), fun ⟨t, _, q, _⟩ => (by cases q)⟩
  obtain ⟨g, hg, fr, hh⟩ := fh_loop h hP hT 25 g1 0 b FU _ _ e8 (Nat.lt_succ_of_le (Nat.le_trans List.countP_le_length (by simp))) (by decide) hFH hI
  refine ⟨g, ?_, fun j j1 j2 => (fr j j1 j2).trans (fr1 j j1 j2), hh⟩
  show fX8_findHolds_2 FU f (nI 0) = some g
  rw [e1, hb, b1s, hg]
