/-! the roll; what both sides have in common; what counts for nothing -/
abbrev RO := Nat × Nat × Nat × (Nat → Bool) × (Nat → Nat) × (Nat → Nat) × (Nat → Nat) × (Nat → Nat)
def RO.P (r : RO) : Nat := r.1
def RO.Q (r : RO) : Nat := r.2.1
def RO.law (r : RO) : Nat := r.2.2.1
def RO.fm (r : RO) : Nat → Bool := r.2.2.2.1
def RO.kd (r : RO) : Nat → Nat := r.2.2.2.2.1
def RO.db (r : RO) : Nat → Nat := r.2.2.2.2.2.1
def RO.tr (r : RO) : Nat → Nat := r.2.2.2.2.2.2.1
def RO.pr (r : RO) : Nat → Nat := r.2.2.2.2.2.2.2
def ROk (ro : RO) : Prop := 1 ≤ ro.P ∧ ro.P ≤ 8 ∧ 1 ≤ ro.Q ∧ ro.Q ≤ 3 ∧ ro.law ≤ 99 ∧ (∀ a, a < ro.P → ro.kd a ≤ 2 ∧ ro.db a ≤ 60) ∧ ∀ p, p < ro.Q → ro.tr p ≤ 2 ∧ ro.pr p ≤ 20
def RR (ro : RO) (f : hF) : Prop := (ROk ro) ∧ (f 3 0 = nI ro.P) ∧ (f 3 1 = nI ro.Q) ∧ (f 3 2 = nI ro.law) ∧ (∀ a, a < ro.P → f 4 a = bI (ro.fm a) ∧ f 5 a = nI (ro.kd a) ∧ f 6 a = nI (ro.db a)) ∧ (∀ p, p < ro.Q → f 8 p = nI (ro.tr p) ∧ f 9 p = nI (ro.pr p)) ∧ (f 146 0 = nI ro.P) ∧ (f 146 2 = nI ro.Q) ∧ (f 146 4 = nI ro.law) ∧ (∀ a, a < ro.P → f 147 (3 * a) = bI (ro.fm a) ∧ f 147 (3 * a + 1) = nI (ro.kd a) ∧ f 147 (3 * a + 2) = nI (ro.db a)) ∧ (∀ p, p < ro.Q → f 148 (2 * p) = nI (ro.tr p) ∧ f 148 (2 * p + 1) = nI (ro.pr p))
theorem RR.ok {ro : RO} {f : hF} (h : RR ro f) : ROk ro := h.1
theorem RR.c0 {ro : RO} {f : hF} (h : RR ro f) : f 3 0 = nI ro.P := h.2.1
theorem RR.c1 {ro : RO} {f : hF} (h : RR ro f) : f 3 1 = nI ro.Q := h.2.2.1
theorem RR.c2 {ro : RO} {f : hF} (h : RR ro f) : f 3 2 = nI ro.law := h.2.2.2.1
theorem RR.ca {ro : RO} {f : hF} (h : RR ro f) : ∀ a, a < ro.P → f 4 a = bI (ro.fm a) ∧ f 5 a = nI (ro.kd a) ∧ f 6 a = nI (ro.db a) := h.2.2.2.2.1
theorem RR.cp {ro : RO} {f : hF} (h : RR ro f) : ∀ p, p < ro.Q → f 8 p = nI (ro.tr p) ∧ f 9 p = nI (ro.pr p) := h.2.2.2.2.2.1
theorem RR.m0 {ro : RO} {f : hF} (h : RR ro f) : f 146 0 = nI ro.P := h.2.2.2.2.2.2.1
theorem RR.m1 {ro : RO} {f : hF} (h : RR ro f) : f 146 2 = nI ro.Q := h.2.2.2.2.2.2.2.1
theorem RR.m2 {ro : RO} {f : hF} (h : RR ro f) : f 146 4 = nI ro.law := h.2.2.2.2.2.2.2.2.1
theorem RR.ma {ro : RO} {f : hF} (h : RR ro f) : ∀ a, a < ro.P → f 147 (3 * a) = bI (ro.fm a) ∧ f 147 (3 * a + 1) = nI (ro.kd a) ∧ f 147 (3 * a + 2) = nI (ro.db a) := h.2.2.2.2.2.2.2.2.2.1
theorem RR.mp {ro : RO} {f : hF} (h : RR ro f) : ∀ p, p < ro.Q → f 148 (2 * p) = nI (ro.tr p) ∧ f 148 (2 * p + 1) = nI (ro.pr p) := h.2.2.2.2.2.2.2.2.2.2
def BK (ro : RO) (T : Nat) (g : Nat → Int32) : Prop := VB ro.P T ro.fm g ∧ (∀ p, ro.Q ≤ p → p < 3 → g (12 + p) = 0) ∧ ∀ i, 111 ≤ i → g i = 0
def row (f : hF) (a j : Nat) : Nat → Int32 := fun t => if t < 111 then f a (111 * j + t) else 0
def SH (ro : RO) (T k w a i : Nat) (f : hF) : Prop :=
  ∃ n, n ≤ w ∧ f k 1 = nI n ∧ f 146 i = nI n ∧ ∃ nd : Nat → Nat, (∀ j, j < w → f (k+1) j = nI (k + 2 + 9 * nd j) ∧ nd j < w) ∧ (∀ i j, i < w → j < w → nd i = nd j → i = j) ∧
    ∀ j, j < n → BK ro T (row f a j) ∧ CB f (k + 2 + 9 * nd j) (row f a j)
def SE (ro : RO) (f : hF) : Prop :=
  ∃ m, m ≤ 6 ∧ f 47 0 = nI m ∧ f 146 10 = nI m ∧ ∀ i, i < m → ∃ a b d v, a < ro.P ∧ b < ro.P ∧ d ≤ 99 ∧ f 48 i = nI a ∧ f 49 i = nI b ∧ f 50 i = nI d ∧ f 51 i = bI v ∧
    f 152 (4 * i) = nI a ∧ f 152 (4 * i + 1) = nI b ∧ f 152 (4 * i + 2) = nI d ∧ f 152 (4 * i + 3) = bI v
def TX (f : hF) : Prop := ∃ n, n ≤ 200 ∧ f 1 1 = nI n ∧ f 146 13 = nI n ∧ ∀ i, i < n → ∃ c, 32 ≤ c ∧ c ≤ 126 ∧ f 2 i = nI c ∧ f 153 i = nI c
def R (T : Nat) (ro : RO) (f : hF) : Prop := (RR ro f) ∧ (BK ro T (f 149)) ∧ (CB f 20 (f 149)) ∧ (∀ i, 111 ≤ i → f 158 i = 0) ∧ (SH ro T 52 8 150 6 f) ∧ (SH ro T 126 2 151 8 f) ∧ (SE ro f) ∧ (TX f)
theorem R.rr {T : Nat} {ro : RO} {f : hF} (h : R T ro f) : RR ro f := h.1
theorem R.bk {T : Nat} {ro : RO} {f : hF} (h : R T ro f) : BK ro T (f 149) := h.2.1
theorem R.cb {T : Nat} {ro : RO} {f : hF} (h : R T ro f) : CB f 20 (f 149) := h.2.2.1
theorem R.z {T : Nat} {ro : RO} {f : hF} (h : R T ro f) : ∀ i, 111 ≤ i → f 158 i = 0 := h.2.2.2.1
theorem R.past {T : Nat} {ro : RO} {f : hF} (h : R T ro f) : SH ro T 52 8 150 6 f := h.2.2.2.2.1
theorem R.kept {T : Nat} {ro : RO} {f : hF} (h : R T ro f) : SH ro T 126 2 151 8 f := h.2.2.2.2.2.1
theorem R.seen {T : Nat} {ro : RO} {f : hF} (h : R T ro f) : SE ro f := h.2.2.2.2.2.2.1
theorem R.text {T : Nat} {ro : RO} {f : hF} (h : R T ro f) : TX f := h.2.2.2.2.2.2.2
def scr (j : Nat) : Bool := decide (11 ≤ j ∧ j ≤ 18) || decide (30 ≤ j ∧ j ≤ 46) || decide (154 ≤ j ∧ j ≤ 161)
theorem scr_f {j : Nat} (h : ¬ (11 ≤ j ∧ j ≤ 18) ∧ ¬ (30 ≤ j ∧ j ≤ 46) ∧ ¬ (154 ≤ j ∧ j ≤ 161)) : scr j = false := by
  unfold scr
  rw [decide_eq_false h.1, decide_eq_false h.2.1, decide_eq_false h.2.2]; rfl
theorem scr_t {j : Nat} (h : scr j = false) : ¬ (11 ≤ j ∧ j ≤ 18) ∧ ¬ (30 ≤ j ∧ j ≤ 46) ∧ ¬ (154 ≤ j ∧ j ≤ 161) := by
  unfold scr at h
  simp only [Bool.or_eq_false_iff, decide_eq_false_iff_not] at h
  exact ⟨h.1.1, h.1.2, h.2⟩
/-- f' is f but for what counts for nothing -/
def Sc (f f' : hF) : Prop := (∀ j, scr j = false → j ≠ 146 → f' j = f j) ∧ (∀ i, i ≤ 13 → f' 146 i = f 146 i) ∧ (∀ i, 111 ≤ i → f' 158 i = f 158 i)
theorem Sc.o {f f' : hF} (h : Sc f f') : ∀ j, scr j = false → j ≠ 146 → f' j = f j := h.1
theorem Sc.m {f f' : hF} (h : Sc f f') : ∀ i, i ≤ 13 → f' 146 i = f 146 i := h.2.1
theorem Sc.t {f f' : hF} (h : Sc f f') : ∀ i, 111 ≤ i → f' 158 i = f 158 i := h.2.2
theorem Sc.refl (f : hF) : Sc f f := ⟨fun _ _ _ => rfl, fun _ _ => rfl, fun _ _ => rfl⟩
theorem Sc.trans {f g h : hF} (a : Sc f g) (b : Sc g h) : Sc f h :=
  ⟨fun j h1 h2 => (b.o j h1 h2).trans (a.o j h1 h2), fun i h => (b.m i h).trans (a.m i h), fun i h => (b.t i h).trans (a.t i h)⟩
/-- the component's scratch alone -/
theorem Sc.co {f f' : hF} (h : ∀ j, ¬ (11 ≤ j ∧ j ≤ 18) → ¬ (30 ≤ j ∧ j ≤ 46) → f' j = f j) : Sc f f' :=
  ⟨fun j h1 _ => h j (scr_t h1).1 (scr_t h1).2.1, fun i _ => by rw [h 146 (by omega) (by omega)], fun i _ => by rw [h 158 (by omega) (by omega)]⟩
theorem Sc.mo {f f' : hF} (h : ∀ j, ¬ (154 ≤ j ∧ j ≤ 161) → f' j = f j) (t : ∀ i, 111 ≤ i → f' 158 i = f 158 i) : Sc f f' :=
  ⟨fun j h1 _ => h j (scr_t h1).2.2, fun i _ => by rw [h 146 (by omega)], t⟩
theorem Sc.n {f f' : hF} (h : Sc f f') {j : Nat} (hj : ¬ (11 ≤ j ∧ j ≤ 18) ∧ ¬ (30 ≤ j ∧ j ≤ 46) ∧ ¬ (154 ≤ j ∧ j ≤ 161)) (h2 : j ≠ 146) : f' j = f j := h.o j (scr_f hj) h2
theorem RR_sc {ro : RO} {f f' : hF} (s : Sc f f') (h : RR ro f) : RR ro f' := by
  have e3 := s.n (j := 3) (by omega) (by omega)
  have e147 := s.n (j := 147) (by omega) (by omega)
  have e148 := s.n (j := 148) (by omega) (by omega)
  refine ⟨h.ok, by rw [e3]; exact h.c0, by rw [e3]; exact h.c1, by rw [e3]; exact h.c2, ?_, ?_, by rw [s.m 0 (by omega)]; exact h.m0, by rw [s.m 2 (by omega)]; exact h.m1, by rw [s.m 4 (by omega)]; exact h.m2, by rw [e147]; exact h.ma, by rw [e148]; exact h.mp⟩
  · rw [s.n (j := 4) (by omega) (by omega), s.n (j := 5) (by omega) (by omega), s.n (j := 6) (by omega) (by omega)]; exact h.ca
  · rw [s.n (j := 8) (by omega) (by omega), s.n (j := 9) (by omega) (by omega)]; exact h.cp
theorem SH_sc {ro : RO} {T k w a i : Nat} {f f' : hF} (s : Sc f f') (hk : 47 ≤ k) (hk2 : k + 2 + 9 * w ≤ 146) (ha : 147 ≤ a) (ha2 : a ≤ 153) (hi : i ≤ 13) (h : SH ro T k w a i f) : SH ro T k w a i f' := by
  obtain ⟨n, h1, h2, h3, nd, h4, h5, h6⟩ := h
  have ea : row f' a = row f a := by unfold row; rw [s.n (j := a) (by omega) (by omega)]
  by_cases hw : w = 0
  · subst hw
    refine ⟨0, by omega, ?_, ?_, nd, fun j hj => (by omega), fun i j hi => (by omega), fun j hj => (by omega)⟩
    · rw [s.n (j := k) (by omega) (by omega), h2]; congr 1; omega
    · rw [s.m i hi, h3]; congr 1; omega
  refine ⟨n, h1, by rw [s.n (j := k) (by omega) (by omega)]; exact h2, by rw [s.m i hi]; exact h3, nd, fun j hj => ?_, h5, fun j hj => ?_⟩
  · rw [s.n (j := k + 1) (by omega) (by omega)]; exact h4 j hj
  · have hn := (h4 j (by omega)).2
    rw [ea]
    exact ⟨(h6 j hj).1, CB_frame (fun t t1 t2 => s.n (by omega) (by omega)) (h6 j hj).2⟩
theorem R_sc {T : Nat} {ro : RO} {f f' : hF} (s : Sc f f') (h : R T ro f) : R T ro f' := by
  have e149 := s.n (j := 149) (by omega) (by omega)
  refine ⟨RR_sc s h.rr, by rw [e149]; exact h.bk, by rw [e149]; exact CB_frame (fun j j1 j2 => s.n (by omega) (by omega)) h.cb, fun i hi => by rw [s.t i hi]; exact h.z i hi, SH_sc s (by omega) (by omega) (by omega) (by omega) (by omega) h.past, SH_sc s (by omega) (by omega) (by omega) (by omega) (by omega) h.kept, ?_, ?_⟩
  · have h := h.seen
    unfold SE at h ⊢
    rw [s.n (j := 47) (by omega) (by omega), s.m 10 (by omega), s.n (j := 48) (by omega) (by omega), s.n (j := 49) (by omega) (by omega), s.n (j := 50) (by omega) (by omega), s.n (j := 51) (by omega) (by omega), s.n (j := 152) (by omega) (by omega)]
    exact h
  · have h := h.text
    unfold TX at h ⊢
    rw [s.n (j := 1) (by omega) (by omega), s.m 13 (by omega), s.n (j := 2) (by omega) (by omega), s.n (j := 153) (by omega) (by omega)]
    exact h
theorem VB_mono {P T T' : Nat} {fm : Nat → Bool} {g : Nat → Int32} (hT : T ≤ T') (h : VB P T fm g) : VB P T' fm g := by
  obtain ⟨⟨d, h1, h2⟩, h3, h4, h5⟩ := h
  refine ⟨⟨d, h1, by omega⟩, h3, fun s hs hv => ?_, h5⟩
  obtain ⟨⟨d, a1, a2, a3⟩, b⟩ := h4 s hs hv
  refine ⟨⟨d, a1, a2, by omega⟩, ?_⟩
  rcases b with b | b | ⟨b, c, d, e1, e2⟩
  · exact Or.inl b
  · exact Or.inr (Or.inl b)
  · exact Or.inr (Or.inr ⟨b, c, d, e1, by omega⟩)
theorem BK_mono {ro : RO} {T T' : Nat} {g : Nat → Int32} (hT : T ≤ T') (h : BK ro T g) : BK ro T' g := ⟨VB_mono hT h.1, h.2⟩
theorem SH_mono {ro : RO} {T T' k w a i : Nat} {f : hF} (hT : T ≤ T') (h : SH ro T k w a i f) : SH ro T' k w a i f := by
  obtain ⟨n, h1, h2, h3, nd, h4, h5, h6⟩ := h
  exact ⟨n, h1, h2, h3, nd, h4, h5, fun j hj => ⟨BK_mono hT (h6 j hj).1, (h6 j hj).2⟩⟩
theorem R_mono {T T' : Nat} {ro : RO} {f : hF} (hT : T ≤ T') (h : R T ro f) : R T' ro f :=
  ⟨h.rr, BK_mono hT h.bk, h.cb, h.z, SH_mono hT h.past, SH_mono hT h.kept, h.seen, h.text⟩
/-! which lines hold, whose mate: as answers -/
theorem HS_h {tw : Nat → Bool} {bg mn wn : Nat → Nat} {h h' : Nat → Bool} (e : ∀ s, s < 24 → h s = h' s) (hh : HS tw bg mn wn h) : HS tw bg mn wn h' := by
  intro s hs
  rw [← e s hs, hh s hs]
  constructor
  · rintro ⟨a, b⟩
    exact ⟨a, fun t ht hp hht => b t ht hp ((e t ht).trans hht)⟩
  · rintro ⟨a, b⟩
    exact ⟨a, fun t ht hp hht => b t ht hp ((e t ht).symm.trans hht)⟩
noncomputable def hdB (g : Nat → Int32) (s : Nat) : Bool := @decide (∃ h, HS (vtw g) (vbg g) (vmn g) (vwn g) h ∧ h s = true) (Classical.propDecidable _)
theorem hdB_eq {g : Nat → Int32} {h : Nat → Bool} (hh : HS (vtw g) (vbg g) (vmn g) (vwn g) h) {s : Nat} (hs : s < 24) : h s = hdB g s := by
  cases q : h s with
  | true => exact (@decide_eq_true _ (Classical.propDecidable _) ⟨h, hh, q⟩).symm
  | false =>
    refine (@decide_eq_false _ (Classical.propDecidable _) ?_).symm
    rintro ⟨h2, hh2, e⟩
    rw [← HS_uniq hh hh2 s hs, q] at e; cases e
theorem hdB_HS {g : Nat → Int32} {h : Nat → Bool} (hh : HS (vtw g) (vbg g) (vmn g) (vwn g) h) : HS (vtw g) (vbg g) (vmn g) (vwn g) (hdB g) := HS_h (fun _ hs => hdB_eq hh hs) hh
noncomputable def mtB (g : Nat → Int32) (a d : Nat) : Int32 := Classical.epsilon (MTi g (hdB g) a d 24)
theorem mtB_eq {P T : Nat} {fm : Nat → Bool} {g : Nat → Int32} (h : VB P T fm g) (hP : P ≤ 8) (hT : T < 1000000) (hH : HS (vtw g) (vbg g) (vmn g) (vwn g) (hdB g)) {a d : Nat} {r : Int32} (h1 : MTi g (hdB g) a d 24 r) : r = mtB g a d ∧ MTi g (hdB g) a d 24 (mtB g a d) := by
  have := Classical.epsilon_spec (p := MTi g (hdB g) a d 24) ⟨r, h1⟩
  exact ⟨MT_uniq h hP hT hH h1 this, this⟩
/-! the reference: as it is, with which hold -/
theorem mo_as {f : hF} (h1 : ∀ i, 111 ≤ i → f 149 i = 0) (h2 : ∀ i, 111 ≤ i → f 158 i = 0) : fX8_asItIs f = some (stA f 158 (f 149)) := by
  unfold fX8_asItIs
  have h := mo_copies (f := f) (a0 := 158) (n0 := 111) (a2 := 149) (n2 := 111) (u := 0) (v := 0) (c := 111) (by decide) (by decide) (by decide) (by decide) (by decide)
  rw [show fX8_copies 158 111 149 111 f (0 : Int32) (0 : Int32) (111 : Int32) = some (stA f 158 (cpf f 158 149 0 0 111)) from h]
  have : cpf f 158 149 0 0 111 = f 149 := by
    funext t
    unfold cpf
    by_cases q : t < 111
    · rw [if_pos (by omega), show 0 + (t - 0) = t by omega]
    · rw [if_neg (by omega), h1 t (by omega), h2 t (by omega)]
  rw [this]
  rfl
theorem mo_find {P T : Nat} {fm : Nat → Bool} {f : hF} (h : VB P T fm (f 158)) (hP : P ≤ 8) (hT : T < 1000000) :
    ∃ g, fX8_findHolds f = some g ∧ (∀ j, j ≠ 159 → j ≠ 160 → g j = f j) ∧ (∀ t, t < 24 → g 159 t = bI (hdB (f 158) t)) ∧ HS (vtw (f 158)) (vbg (f 158)) (vmn (f 158)) (vwn (f 158)) (hdB (f 158)) := by
  obtain ⟨g, h1, h2, hd, h3, h4⟩ := mo_holds h hP hT
  exact ⟨g, h1, h2, fun t ht => by rw [h3 t ht, hdB_eq h4 ht], hdB_HS h4⟩
theorem Sc_158 {T : Nat} {ro : RO} {f f5 : hF} (h : R T ro f) (e : ∀ j, j ≠ 158 → j ≠ 159 → j ≠ 160 → j ≠ 161 → f5 j = f j) (e2 : ∀ i, 111 ≤ i → f5 158 i = 0) : Sc f f5 :=
  Sc.mo (fun j hj => e j (by omega) (by omega) (by omega) (by omega)) (fun i hi => by rw [e2 i hi, h.z i hi])
def AH (f f5 : hF) : Prop := (f5 158 = f 149) ∧ (∀ j, j ≠ 158 → j ≠ 159 → j ≠ 160 → f5 j = f j) ∧ (∀ t, t < 24 → f5 159 t = bI (hdB (f 149) t)) ∧ (Sc f f5) ∧ (HS (vtw (f 149)) (vbg (f 149)) (vmn (f 149)) (vwn (f 149)) (hdB (f 149)))
theorem AH.b {f f5 : hF} (h : AH f f5) : f5 158 = f 149 := h.1
theorem AH.o {f f5 : hF} (h : AH f f5) : ∀ j, j ≠ 158 → j ≠ 159 → j ≠ 160 → f5 j = f j := h.2.1
theorem AH.d {f f5 : hF} (h : AH f f5) : ∀ t, t < 24 → f5 159 t = bI (hdB (f 149) t) := h.2.2.1
theorem AH.s {f f5 : hF} (h : AH f f5) : Sc f f5 := h.2.2.2.1
theorem AH.h {f f5 : hF} (h : AH f f5) : HS (vtw (f 149)) (vbg (f 149)) (vmn (f 149)) (vwn (f 149)) (hdB (f 149)) := h.2.2.2.2
theorem R.as {T : Nat} {ro : RO} {f : hF} (h : R T ro f) : fX8_asItIs f = some (stA f 158 (f 149)) := mo_as h.bk.2.2 h.z
theorem R.sc1 {T : Nat} {ro : RO} {f : hF} (h : R T ro f) : Sc f (stA f 158 (f 149)) :=
  Sc_158 h (fun j j1 _ _ _ => sA_n j1) (fun i hi => by rw [sA_s]; exact h.bk.2.2 i hi)
theorem R.ah {T : Nat} {ro : RO} {f : hF} (h : R T ro f) (hT : T < 1000000) : ∃ f5, fX8_asItIs f = some (stA f 158 (f 149)) ∧ fX8_findHolds (stA f 158 (f 149)) = some f5 ∧ AH f f5 := by
  have hV : VB ro.P T ro.fm (stA f 158 (f 149) 158) := by rw [sA_s]; exact h.bk.1
  obtain ⟨g, h1, h2, h3, h4⟩ := mo_find hV h.rr.ok.2.1 hT
  rw [sA_s] at h3 h4
  have e : g 158 = f 149 := by rw [h2 158 (by decide) (by decide), sA_s]
  have o : ∀ j, j ≠ 158 → j ≠ 159 → j ≠ 160 → g j = f j := fun j j1 j2 j3 => (h2 j j2 j3).trans (sA_n j1)
  exact ⟨g, h.as, h1, e, o, h3, Sc_158 h (fun j j1 j2 j3 _ => o j j1 j2 j3) (fun i hi => by rw [e]; exact h.bk.2.2 i hi), h4⟩
/-! the component: settled at k (19, 33) -/
def ST (k : Nat) (g : Nat → Int32) (f f2 : hF) : Prop := (∀ j, j ≠ k + 11 → j ≠ k + 12 → f2 j = f j) ∧ (CB f2 (k + 1) g) ∧ (HS (vtw g) (vbg g) (vmn g) (vwn g) (hdB g)) ∧ (HM g (hdB g) (f2 (k + 11)))
theorem ST.o {k : Nat} {g : Nat → Int32} {f f2 : hF} (h : ST k g f f2) : ∀ j, j ≠ k + 11 → j ≠ k + 12 → f2 j = f j := h.1
theorem ST.c {k : Nat} {g : Nat → Int32} {f f2 : hF} (h : ST k g f f2) : CB f2 (k + 1) g := h.2.1
theorem ST.h {k : Nat} {g : Nat → Int32} {f f2 : hF} (h : ST k g f f2) : HS (vtw g) (vbg g) (vmn g) (vwn g) (hdB g) := h.2.2.1
theorem ST.m {k : Nat} {g : Nat → Int32} {f f2 : hF} (h : ST k g f f2) : HM g (hdB g) (f2 (k + 11)) := h.2.2.2
theorem co_set {P T : Nat} {fm : Nat → Bool} {g : Nat → Int32} (h : VB P T fm g) (hP : P ≤ 8) (hT : T < 1000000) {k r : Nat} {f : hF} (hc : CB f (k+1) g) : ∃ f2, fX2_settle k r f = some f2 ∧ ST k g f f2 := by
  obtain ⟨f2, hd, a1, a2, a3, a4⟩ := co_settle h hP hT (x := -1) (k := k+10) (bk := k+1) (by omega) hc
  have a3' : HS (vtw g) (vbg g) (vmn g) (vwn g) hd := HS_congr two'_m1 (fun _ _ _ => ⟨rfl, rfl, rfl⟩) a3
  have e : ∀ s, s < 24 → hd s = hdB g s := fun s hs => hdB_eq a3' hs
  refine ⟨f2, ?_, a2, CB_frame (fun j j1 j2 => a2 j (by omega) (by omega)) hc, hdB_HS a3', fun p hp => ?_⟩
  · unfold fX2_settle
    rw [a1, b1s]
  · rcases a4 p hp with ⟨b1, b2⟩ | ⟨t, ht, b1, b2, b3⟩
    · exact Or.inl ⟨b1, fun t ht q => b2 t ht (by rw [e t ht]; exact q)⟩
    · exact Or.inr ⟨t, ht, by rw [← e t ht]; exact b1, b2, b3⟩
theorem co_heldB {P T : Nat} {fm : Nat → Bool} {g : Nat → Int32} (h : VB P T fm g) (hP : P ≤ 8) (hT : T < 1000000) {k : Nat} {f f2 : hF} (hs : ST k g f f2) {s : Nat} (h24 : s < 24) : fX1_isHeld (k+10) (k+1) f2 (nI s) = some (bI (hdB g s)) :=
  co_held h hP hT hs.c (HS_congr (fun s hs => (two'_m1 s hs).symm) (fun _ _ _ => ⟨rfl, rfl, rfl⟩) hs.h) hs.m h24
theorem co_mateB {P T : Nat} {fm : Nat → Bool} {g : Nat → Int32} (h : VB P T fm g) (hP : P ≤ 8) (hT : T < 1000000) {k : Nat} {f f2 : hF} (hs : ST k g f f2) {a d : Nat} (ha : a < 8) (hd : d < 1000000) : fX1_mateOf (k+10) (k+1) f2 (nI a) (nI d) = some (mtB g a d) := by
  obtain ⟨r, h1, h2⟩ := co_mateOf h hP hT hs.c hs.h hs.m ha hd
  rw [h1, (mtB_eq h hP hT hs.h h2).1]
theorem mo_mateB {P T : Nat} {fm : Nat → Bool} {f : hF} (h : VB P T fm (f 158)) (hP : P ≤ 8) (hT : T < 1000000) (hH : HS (vtw (f 158)) (vbg (f 158)) (vmn (f 158)) (vwn (f 158)) (hdB (f 158))) (h9 : ∀ t, t < 24 → f 159 t = bI (hdB (f 158) t)) {a d : Nat} (ha : a < 8) (hd : d < 1000000) : fX8_mateBy f (nI a) (nI d) = some (mtB (f 158) a d) := by
  obtain ⟨r, h1, h2⟩ := mo_mateBy h hP hT hH h9 ha hd
  rw [h1, (mtB_eq h hP hT hH h2).1]
theorem ST.sc {g : Nat → Int32} {f f2 : hF} (h : ST 19 g f f2) : Sc f f2 := Sc.co (fun j _ j2 => h.o j (by omega) (by omega))
theorem ST.sc3 {g : Nat → Int32} {f f2 : hF} (h : ST 33 g f f2) : Sc f f2 := Sc.co (fun j _ j2 => h.o j (by omega) (by omega))
/-! one answer on both sides, nothing changed that counts -/
def Same (T : Nat) (ro : RO) (f : hF) (A B : hF → Option (Int32 × hF)) : Prop := ∃ r f2 f3, A f = some (r, f2) ∧ Sc f f2 ∧ B f2 = some (r, f3) ∧ Sc f2 f3
theorem Same.mk' {T : Nat} {ro : RO} {f : hF} {A B : hF → Option (Int32 × hF)} {r : Int32} (h : R T ro f) (h1 : ∃ f2, A f = some (r, f2) ∧ Sc f f2 ∧ f2 149 = f 149) (h2 : ∀ f', R T ro f' → f' 149 = f 149 → ∃ f3, B f' = some (r, f3) ∧ Sc f' f3) : Same T ro f A B := by
  obtain ⟨f2, a1, a2, a3⟩ := h1
  obtain ⟨f3, b1, b2⟩ := h2 f2 (R_sc a2 h) a3
  exact ⟨r, f2, f3, a1, a2, b1, b2⟩
