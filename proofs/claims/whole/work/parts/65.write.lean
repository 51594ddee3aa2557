/-! the book changed: paid, begun, written, struck, a day later -/
theorem RR_of {ro : RO} {f f' : hF} (e : ∀ j, (3 ≤ j ∧ j ≤ 9) ∨ (146 ≤ j ∧ j ≤ 148) → f' j = f j) (h : RR ro f) : RR ro f' := by
  refine ⟨h.ok, by rw [e 3 (by omega)]; exact h.c0, by rw [e 3 (by omega)]; exact h.c1, by rw [e 3 (by omega)]; exact h.c2, ?_, ?_, by rw [e 146 (by omega)]; exact h.m0, by rw [e 146 (by omega)]; exact h.m1, by rw [e 146 (by omega)]; exact h.m2, by rw [e 147 (by omega)]; exact h.ma, by rw [e 148 (by omega)]; exact h.mp⟩
  · rw [e 4 (by omega), e 5 (by omega), e 6 (by omega)]; exact h.ca
  · rw [e 8 (by omega), e 9 (by omega)]; exact h.cp
def pyM (g : Nat → Int32) (m : Nat) (c : Int32) : Int32 := if c < g (1 + m) then c else g (1 + m)
def gPay (g : Nat → Int32) (m w p : Nat) (c : Int32) : Nat → Int32 := upd (upd (upd g (1 + m) (g (1 + m) - pyM g m c)) (1 + w) (g (1 + w) - (c - pyM g m c))) (9 + p) (g (9 + p) + c)
def gBegin (g : Nat → Int32) (p : Nat) : Nat → Int32 := upd (upd (upd g (15 + 4 * (8 * p + vln g p)) (g 0)) (16 + 4 * (8 * p + vln g p)) (-1)) (12 + p) (nI (vln g p + 1))
def gWrite (g : Nat → Int32) (s m w : Nat) : Nat → Int32 := upd (upd (upd g (16 + 4 * s) (nI m)) (17 + 4 * s) (nI w)) (18 + 4 * s) (g 0)
theorem gPay_n {g : Nat → Int32} {m w p i : Nat} {c : Int32} (h1 : i ≠ 1 + m) (h2 : i ≠ 1 + w) (h3 : i ≠ 9 + p) : gPay g m w p c i = g i := by
  unfold gPay
  rw [u_n h3, u_n h2, u_n h1]
theorem gBegin_n {g : Nat → Int32} {p i : Nat} (h1 : i ≠ 15 + 4 * (8 * p + vln g p)) (h2 : i ≠ 16 + 4 * (8 * p + vln g p)) (h3 : i ≠ 12 + p) : gBegin g p i = g i := by
  unfold gBegin
  rw [u_n h3, u_n h2, u_n h1]
theorem gWrite_n {g : Nat → Int32} {s m w i : Nat} (h1 : i ≠ 16 + 4 * s) (h2 : i ≠ 17 + 4 * s) (h3 : i ≠ 18 + 4 * s) : gWrite g s m w i = g i := by
  unfold gWrite
  rw [u_n h3, u_n h2, u_n h1]
/-- orders kept where the coins alone have changed -/
theorem VB_eq2 {P T : Nat} {fm : Nat → Bool} {g g' : Nat → Int32} (e0 : g' 0 = g 0) (e : ∀ i, 12 ≤ i → i < 111 → g' i = g i) (h : VB P T fm g) : VB P T fm g' := by
  have el : ∀ p, p < 3 → vln g' p = vln g p := fun p hp => by unfold vln; rw [e _ (by omega) (by omega)]
  have et : ∀ s, s < 24 → vth g' s = vth g s := fun s hs => by unfold vth; rw [el _ (by omega)]
  refine ⟨by rw [e0]; exact h.1, fun p hp => by rw [e _ (by omega) (by omega)]; exact h.2.1 p hp, fun s hs hv => ?_, fun s t hs ht h1 h2 hv => ?_⟩
  · rw [et s hs] at hv
    rw [e0, e (15 + 4 * s) (by omega) (by omega), e (16 + 4 * s) (by omega) (by omega), e (17 + 4 * s) (by omega) (by omega), e (18 + 4 * s) (by omega) (by omega)]
    exact h.2.2.1 s hs hv
  · rw [et t ht] at hv
    unfold vbg
    rw [e _ (by omega) (by omega), e _ (by omega) (by omega)]
    exact h.2.2.2 s t hs ht h1 h2 hv
theorem BK_pay {ro : RO} {T : Nat} {g : Nat → Int32} {m w p : Nat} {c : Int32} (hm : m < 8) (hw : w < 8) (hp : p < 3) (h : BK ro T g) : BK ro T (gPay g m w p c) :=
  ⟨VB_eq2 (gPay_n (by omega) (by omega) (by omega)) (fun i h1 h2 => gPay_n (by omega) (by omega) (by omega)) h.1, fun q h1 h2 => by rw [gPay_n (by omega) (by omega) (by omega)]; exact h.2.1 q h1 h2, fun i hi => by rw [gPay_n (by omega) (by omega) (by omega)]; exact h.2.2 i hi⟩
theorem vln_w {g : Nat → Int32} {s m w q : Nat} (hq : q < 3) : vln (gWrite g s m w) q = vln g q := by
  unfold vln
  rw [gWrite_n (by omega) (by omega) (by omega)]
theorem vth_w {g : Nat → Int32} {s m w t : Nat} (ht : t < 24) : vth (gWrite g s m w) t = vth g t := by
  unfold vth
  rw [vln_w (by omega)]
theorem BK_write {ro : RO} {T : Nat} {g : Nat → Int32} {s m w : Nat} (hs : s < 24) (hm : m < ro.P) (hw : w < ro.P) (fm : ro.fm m = false) (fw : ro.fm w = true) (h : BK ro T g) : BK ro T (gWrite g s m w) := by
  obtain ⟨⟨h1, h2, h3, h4⟩, h5, h6⟩ := h
  refine ⟨⟨?_, fun q hq => ?_, fun t ht hv => ?_, fun t u ht hu e1 e2 hv => ?_⟩, fun q q1 q2 => ?_, fun i hi => ?_⟩
  · rw [gWrite_n (by omega) (by omega) (by omega)]; exact h1
  · rw [gWrite_n (by omega) (by omega) (by omega)]; exact h2 q hq
  · rw [vth_w ht] at hv
    obtain ⟨a, b⟩ := h3 t ht hv
    rw [gWrite_n (i := 15 + 4 * t) (by omega) (by omega) (by omega), gWrite_n (i := 0) (by omega) (by omega) (by omega)]
    refine ⟨a, ?_⟩
    by_cases e : t = s
    · subst e
      obtain ⟨d, d1, d2⟩ := h1
      refine Or.inr (Or.inr ⟨⟨m, hm, ?_, fm⟩, ⟨w, hw, ?_, fw⟩, d, ?_, d2⟩)
      · unfold gWrite; rw [u_n (by omega), u_n (by omega), u_s]
      · unfold gWrite; rw [u_n (by omega), u_s]
      · unfold gWrite; rw [u_s]; exact d1
    · rw [gWrite_n (i := 16 + 4 * t) (by omega) (by omega) (by omega), gWrite_n (i := 17 + 4 * t) (by omega) (by omega) (by omega), gWrite_n (i := 18 + 4 * t) (by omega) (by omega) (by omega)]
      exact b
  · rw [vth_w hu] at hv
    unfold vbg
    rw [gWrite_n (by omega) (by omega) (by omega), gWrite_n (by omega) (by omega) (by omega)]
    exact h4 t u ht hu e1 e2 hv
  · rw [gWrite_n (by omega) (by omega) (by omega)]; exact h5 q q1 q2
  · rw [gWrite_n (by omega) (by omega) (by omega)]; exact h6 i hi
theorem vln_b {g : Nat → Int32} {p q : Nat} (hp : p < 3) (hl : vln g p < 8) (hq : q < 3) : vln (gBegin g p) q = if q = p then vln g p + 1 else vln g q := by
  by_cases e : q = p
  · subst e
    rw [if_pos rfl]
    have : gBegin g q (12 + q) = nI (vln g q + 1) := by unfold gBegin; rw [u_s]
    show (gBegin g q (12 + q)).toNatClampNeg = _
    rw [this, nI_clamp (by omega)]
  · rw [if_neg e]
    show (gBegin g p (12 + q)).toNatClampNeg = (g (12 + q)).toNatClampNeg
    rw [gBegin_n (by omega) (by omega) (by omega)]
theorem vth_b {g : Nat → Int32} {p t : Nat} (hp : p < 3) (hl : vln g p < 8) (ht : t < 24) : vth (gBegin g p) t = if t = 8 * p + vln g p then true else vth g t := by
  unfold vth
  rw [vln_b hp hl (by omega)]
  by_cases e : t = 8 * p + vln g p
  · rw [if_pos e, if_pos (by omega), decide_eq_true (by omega)]
  · rw [if_neg e]
    by_cases e2 : t / 8 = p
    · rw [if_pos e2, e2]
      by_cases z : t % 8 < vln g p
      · rw [decide_eq_true (by omega), decide_eq_true z]
      · rw [decide_eq_false (by omega), decide_eq_false z]
    · rw [if_neg e2]
theorem BK_begin {ro : RO} {T : Nat} {g : Nat → Int32} {p : Nat} (hT : T < 1000000) (hQ : ro.Q ≤ 3) (hp : p < ro.Q) (hl : vln g p < 8) (h : BK ro T g) : BK ro T (gBegin g p) := by
  obtain ⟨⟨h1, h2, h3, h4⟩, h5, h6⟩ := h
  have e0 : gBegin g p 0 = g 0 := gBegin_n (by omega) (by omega) (by omega)
  have eb : ∀ t, t < 24 → t ≠ 8 * p + vln g p → gBegin g p (15 + 4 * t) = g (15 + 4 * t) := fun t ht e => gBegin_n (by omega) (by omega) (by omega)
  have es : gBegin g p (15 + 4 * (8 * p + vln g p)) = g 0 := by unfold gBegin; rw [u_n (by omega), u_n (by omega), u_s]
  refine ⟨⟨by rw [e0]; exact h1, fun q hq => ?_, fun t ht hv => ?_, fun t u ht hu e1 e2 hv => ?_⟩, fun q q1 q2 => ?_, fun i hi => ?_⟩
  · by_cases e : q = p
    · subst e
      exact ⟨vln g q + 1, by omega, by unfold gBegin; rw [u_s]⟩
    · rw [gBegin_n (by omega) (by omega) (by omega)]; exact h2 q hq
  · rw [vth_b (by omega) hl ht] at hv
    by_cases e : t = 8 * p + vln g p
    · subst e
      obtain ⟨d, d1, d2⟩ := h1
      refine ⟨⟨d, ?_, ?_, d2⟩, Or.inl ?_⟩
      · rw [es]; exact d1
      · rw [e0, d1]; exact Int32.le_refl _
      · unfold gBegin; rw [u_n (by omega), u_s]
    · rw [if_neg e] at hv
      rw [eb t ht e, e0, gBegin_n (i := 16 + 4 * t) (by omega) (by omega) (by omega), gBegin_n (i := 17 + 4 * t) (by omega) (by omega) (by omega), gBegin_n (i := 18 + 4 * t) (by omega) (by omega) (by omega)]
      exact h3 t ht hv
  · rw [vth_b (by omega) hl hu] at hv
    by_cases e : u = 8 * p + vln g p
    · by_cases e3 : t = u
      · rw [e3]; exact Nat.le_refl _
      · have hv2 : vth g t = true := by
          unfold vth
          rw [show t / 8 = p by omega]
          exact decide_eq_true (by omega)
        unfold vbg
        rw [eb t ht (by omega), e, es]
        obtain ⟨⟨d, d1, d2, d3⟩, -⟩ := h3 t ht hv2
        obtain ⟨c, c1, c2⟩ := h1
        rw [d1, c1, nI_clamp (by omega), nI_clamp (by omega)]
        rw [c1] at d2
        exact (nI_leI (by omega) (by omega)).mp d2
    · rw [if_neg e] at hv
      have e3 : t ≠ 8 * p + vln g p := fun q => by
        unfold vth at hv
        have := of_decide_eq_true hv
        rw [show u / 8 = p by omega] at this
        omega
      unfold vbg
      rw [eb t ht e3, eb u hu e]
      exact h4 t u ht hu e1 e2 hv
  · rw [gBegin_n (by omega) (by omega) (by omega)]; exact h5 q q1 q2
  · rw [gBegin_n (by omega) (by omega) (by omega)]; exact h6 i hi
theorem BK_strike {ro : RO} {T : Nat} {g : Nat → Int32} {s : Nat} (hs : s < 24) (h : BK ro T g) : BK ro T (upd g (16 + 4 * s) (-2)) := by
  obtain ⟨⟨h1, h2, h3, h4⟩, h5, h6⟩ := h
  have el : ∀ q, q < 3 → vln (upd g (16 + 4 * s) (-2)) q = vln g q := fun q hq => by unfold vln; rw [u_n (by omega)]
  have et : ∀ t, t < 24 → vth (upd g (16 + 4 * s) (-2)) t = vth g t := fun t ht => by unfold vth; rw [el _ (by omega)]
  refine ⟨⟨?_, fun q hq => ?_, fun t ht hv => ?_, fun t u ht hu e1 e2 hv => ?_⟩, fun q q1 q2 => ?_, fun i hi => ?_⟩
  · rw [u_n (by omega)]; exact h1
  · rw [u_n (by omega)]; exact h2 q hq
  · rw [et t ht] at hv
    obtain ⟨a, b⟩ := h3 t ht hv
    rw [u_n (j := 15 + 4 * t) (by omega), u_n (j := 0) (by omega)]
    refine ⟨a, ?_⟩
    by_cases e : t = s
    · subst e
      exact Or.inr (Or.inl (u_s _ _ _))
    · rw [u_n (j := 16 + 4 * t) (by omega), u_n (j := 17 + 4 * t) (by omega), u_n (j := 18 + 4 * t) (by omega)]; exact b
  · rw [et u hu] at hv
    unfold vbg
    rw [u_n (by omega), u_n (by omega)]
    exact h4 t u ht hu e1 e2 hv
  · rw [u_n (by omega)]; exact h5 q q1 q2
  · rw [u_n (by omega)]; exact h6 i hi
theorem BK_pass {ro : RO} {T n : Nat} {g : Nat → Int32} (hT : T < 1000000) (hn : n ≤ 30) (h : BK ro T g) : BK ro (T + n) (upd g 0 (g 0 + nI n)) := by
  obtain ⟨⟨h1, h2, h3, h4⟩, h5, h6⟩ := h
  have el : ∀ q, q < 3 → vln (upd g 0 (g 0 + nI n)) q = vln g q := fun q hq => by unfold vln; rw [u_n (by omega)]
  have et : ∀ t, t < 24 → vth (upd g 0 (g 0 + nI n)) t = vth g t := fun t ht => by unfold vth; rw [el _ (by omega)]
  obtain ⟨d, d1, d2⟩ := h1
  refine ⟨⟨⟨d + n, by rw [u_s, d1, nadd], by omega⟩, fun q hq => ?_, fun t ht hv => ?_, fun t u ht hu e1 e2 hv => ?_⟩, fun q q1 q2 => ?_, fun i hi => ?_⟩
  · rw [u_n (by omega)]; exact h2 q hq
  · rw [et t ht] at hv
    obtain ⟨⟨c, c1, c2, c3⟩, b⟩ := h3 t ht hv
    rw [u_n (j := 15 + 4 * t) (by omega), u_s, u_n (j := 16 + 4 * t) (by omega), u_n (j := 17 + 4 * t) (by omega), u_n (j := 18 + 4 * t) (by omega)]
    rw [d1] at c2
    have := (nI_leI (by omega) (by omega)).mp c2
    refine ⟨⟨c, c1, ?_, by omega⟩, ?_⟩
    · rw [d1, nadd]; exact (nI_leI (by omega) (by omega)).mpr (by omega)
    · rcases b with b | b | ⟨b, c, w, e1, e2⟩
      · exact Or.inl b
      · exact Or.inr (Or.inl b)
      · exact Or.inr (Or.inr ⟨b, c, w, e1, by omega⟩)
  · rw [et u hu] at hv
    unfold vbg
    rw [u_n (by omega), u_n (by omega)]
    exact h4 t u ht hu e1 e2 hv
  · rw [u_n (by omega)]; exact h5 q q1 q2
  · rw [u_n (by omega)]; exact h6 i hi
theorem gBegin_gPay {g : Nat → Int32} {m w p : Nat} {c : Int32} (hm : m < 8) (hw : w < 8) (hp : p < 3) : gPay (gBegin g p) m w p c = gBegin (gPay g m w p c) p := by
  have ev : vln (gPay g m w p c) p = vln g p := by unfold vln; rw [gPay_n (by omega) (by omega) (by omega)]
  have e1 : ∀ x, x < 8 → gBegin g p (1 + x) = g (1 + x) := fun x hx => gBegin_n (by omega) (by omega) (by omega)
  have e2 : gBegin g p (9 + p) = g (9 + p) := gBegin_n (by omega) (by omega) (by omega)
  have e3 : pyM (gBegin g p) m c = pyM g m c := by unfold pyM; rw [e1 m hm]
  have e4 : gPay g m w p c 0 = g 0 := gPay_n (by omega) (by omega) (by omega)
  funext i
  unfold gPay gBegin
  change upd (upd (upd (gBegin g p) _ (gBegin g p _ - pyM (gBegin g p) m c)) _ (gBegin g p _ - (c - pyM (gBegin g p) m c))) _ (gBegin g p _ + c) i = upd (upd (upd (gPay g m w p c) (15 + 4 * (8 * p + vln (gPay g m w p c) p)) (gPay g m w p c 0)) (16 + 4 * (8 * p + vln (gPay g m w p c) p)) (-1)) (12 + p) (nI (vln (gPay g m w p c) p + 1)) i
  rw [ev, e4, e1 m hm, e1 w hw, e2, e3]
  by_cases c1 : i < 12
  · rw [u_n (f := upd (upd (gPay g m w p c) _ _) _ _) (by omega), u_n (f := upd (gPay g m w p c) _ _) (by omega), u_n (f := gPay g m w p c) (by omega)]
    unfold gPay
    by_cases k3 : i = 9 + p
    · rw [k3, u_s, u_s]
    · rw [u_n k3, u_n k3]
      by_cases k2 : i = 1 + w
      · rw [k2, u_s, u_s]
      · rw [u_n k2, u_n k2]
        by_cases k1 : i = 1 + m
        · rw [k1, u_s, u_s]
        · rw [u_n k1, u_n k1, gBegin_n (by omega) (by omega) (by omega)]
  · rw [u_n (k := 9 + p) (by omega), u_n (k := 1 + w) (by omega), u_n (k := 1 + m) (by omega)]
    unfold gBegin
    by_cases k3 : i = 12 + p
    · rw [k3, u_s, u_s]
    · rw [u_n k3, u_n k3]
      by_cases k2 : i = 16 + 4 * (8 * p + vln g p)
      · rw [k2, u_s, u_s]
      · rw [u_n k2, u_n k2]
        by_cases k1 : i = 15 + 4 * (8 * p + vln g p)
        · rw [k1, u_s, u_s]
        · rw [u_n k1, u_n k1, gPay_n (by omega) (by omega) (by omega)]
