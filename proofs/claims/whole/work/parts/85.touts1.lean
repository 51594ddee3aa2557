/-! touts: who has a mate today; what a wedding of two without one changes -/
noncomputable def mtdB (g : Nat → Int32) (a : Nat) : Bool := anyB (fun t => hdB g t && (decide (vmn g t = a) || decide (vwn g t = a))) 24
theorem mtdB_t {g : Nat → Int32} {a : Nat} : mtdB g a = true ↔ ∃ t, t < 24 ∧ hdB g t = true ∧ (vmn g t = a ∨ vwn g t = a) := by
  unfold mtdB
  rw [anyB_t]
  constructor
  · rintro ⟨t, a, b⟩
    simp only [Bool.and_eq_true, Bool.or_eq_true, decide_eq_true_eq] at b
    exact ⟨t, a, b.1, b.2⟩
  · rintro ⟨t, a, b, c⟩
    refine ⟨t, a, ?_⟩
    simp only [Bool.and_eq_true, Bool.or_eq_true, decide_eq_true_eq]
    exact ⟨b, c⟩
theorem mtT_n4 {P T : Nat} {fm : Nat → Bool} {g : Nat → Int32} (h : VB P T fm g) (hP : P ≤ 8) (hT : T < 1000000) (hH : HS (vtw g) (vbg g) (vmn g) (vwn g) (hdB g)) {a : Nat} {r : Int32} (hm : MTi g (hdB g) a (g 0).toNatClampNeg 24 r) : (mtT g a = -4 ∧ mtdB g a = false) ∨ (∃ b, b < P ∧ mtT g a = nI b) ∧ mtdB g a = true := by
  have e := mtB_eq h hP hT hH hm
  have hi : MTi g (hdB g) a (g 0).toNatClampNeg 24 (mtT g a) := e.2
  have hle : ∀ t, t < 24 → hdB g t = true → vbg g t ≤ (g 0).toNatClampNeg := fun t ht q => by
    have hv := (vtw_th ((hH t ht).mp q).1).1
    have hd := VB_day h hT
    obtain ⟨⟨d, e1, e2, e3⟩, -⟩ := h.2.2.1 t ht hv
    have : vbg g t = d := by unfold vbg; rw [e1]; exact nI_clamp (by omega)
    rw [this]
    rw [hd.1] at e2
    exact (nI_leI (by omega) (by omega)).mp e2
  rcases hi with ⟨e1, e2⟩ | ⟨t, ht, h1, h2, h3⟩
  · left
    refine ⟨e1, ?_⟩
    cases q : mtdB g a with
    | false => rfl
    | true =>
      obtain ⟨t, ht, h1, h2⟩ := mtdB_t.mp q
      have := e2 t ht h1 (hle t ht h1)
      rcases h2 with h2 | h2
      · exact absurd h2 this.1
      · exact absurd h2 this.2
  · right
    obtain ⟨-, a1, -, -, a3, -, -⟩ := VB_two h hP hT ht ((hH t ht).mp h1).1
    rcases h3 with ⟨c, e⟩ | ⟨c, e⟩
    · exact ⟨⟨_, a3, e⟩, mtdB_t.mpr ⟨t, ht, h1, Or.inl c⟩⟩
    · exact ⟨⟨_, a1, e⟩, mtdB_t.mpr ⟨t, ht, h1, Or.inr c⟩⟩
/-- the book with a wedding more -/
theorem wed_vals {ro : RO} {g : Nat → Int32} {m w : Nat} (hm : m < 8) (hw : w < 8) (fm : ro.fm m = false) (hl : vln g 0 < 8) :
    gWed ro g 0 m w 0 = g 0 ∧ vln (gWed ro g 0 m w) 0 = vln g 0 + 1 ∧ (∀ i, i < 8 → i ≠ m → i ≠ w → gWed ro g 0 m w (1 + i) = g (1 + i)) ∧
    (∀ t, t < 24 → vtw (gWed ro g 0 m w) t = if t = vln g 0 then true else vtw g t) ∧ (vbg (gWed ro g 0 m w) (vln g 0) = (g 0).toNatClampNeg ∧ vmn (gWed ro g 0 m w) (vln g 0) = m ∧ vwn (gWed ro g 0 m w) (vln g 0) = w) ∧
    ∀ t, t < 24 → t ≠ vln g 0 → vbg (gWed ro g 0 m w) t = vbg g t ∧ vmn (gWed ro g 0 m w) t = vmn g t ∧ vwn (gWed ro g 0 m w) t = vwn g t := by
  have e1 : mnW ro m w = m := by unfold mnW; rw [if_neg (by rw [fm]; decide)]
  have e2 : wmW ro m w = w := by unfold wmW; rw [if_neg (by rw [fm]; decide)]
  obtain ⟨g1, hg1⟩ : ∃ g1, gPay g m w 0 (nI (ro.pr 0)) = g1 := ⟨_, rfl⟩
  have p0 : ∀ i, i = 0 ∨ 12 ≤ i → g1 i = g i := fun i hi => by rw [← hg1]; exact gPay_n (by omega) (by omega) (by omega)
  have pv : vln g1 0 = vln g 0 := by unfold vln; rw [p0 _ (by omega)]
  have hv : gWed ro g 0 m w = gWrite (gBegin g1 0) (vln g 0) m w := by
    unfold gWed
    rw [e1, e2, hg1, Nat.mul_zero, Nat.zero_add]
  rw [hv]
  have s0 : 8 * 0 + vln g1 0 = vln g 0 := by rw [pv]; omega
  have bn : ∀ i, i ≠ 15 + 4 * vln g 0 → i ≠ 16 + 4 * vln g 0 → i ≠ 12 → gBegin g1 0 i = g1 i := fun i h1 h2 h3 => gBegin_n (by rw [s0]; exact h1) (by rw [s0]; exact h2) (by omega)
  have b15 : gBegin g1 0 (15 + 4 * vln g 0) = g 0 := by
    unfold gBegin
    rw [s0, u_n (by omega), u_n (by omega), u_s, p0 0 (Or.inl rfl)]
  have b0 : gBegin g1 0 0 = g 0 := by rw [bn 0 (by omega) (by omega) (by omega), p0 0 (Or.inl rfl)]
  have hth : ∀ t, t < 24 → vth (gWrite (gBegin g1 0) (vln g 0) m w) t = if t = vln g 0 then true else vth g t := fun t ht => by
    rw [vth_w ht, vth_b (by omega) (by rw [pv]; exact hl) ht, s0]
    by_cases y : t = vln g 0
    · rw [if_pos y, if_pos y]
    · rw [if_neg y, if_neg y]
      unfold vth vln
      rw [p0 _ (by omega)]
  have w16 : gWrite (gBegin g1 0) (vln g 0) m w (16 + 4 * vln g 0) = nI m := by unfold gWrite; rw [u_n (by omega), u_n (by omega), u_s]
  refine ⟨?_, ?_, fun i hi h1 h2 => ?_, fun t ht => ?_, ⟨?_, ?_, ?_⟩, fun t ht hne => ⟨?_, ?_, ?_⟩⟩
  · rw [gWrite_n (by omega) (by omega) (by omega)]; exact b0
  · rw [vln_w (by omega), vln_b (by omega) (by rw [pv]; exact hl) (by omega), if_pos rfl, pv]
  · rw [gWrite_n (by omega) (by omega) (by omega), bn _ (by omega) (by omega) (by omega), ← hg1, gPay_n (by omega) (by omega) (by omega)]
  · unfold vtw
    rw [hth t ht]
    by_cases y : t = vln g 0
    · rw [if_pos y, if_pos y, y, w16, decide_eq_true (nI_pos' (by omega))]; rfl
    · rw [if_neg y, if_neg y, gWrite_n (by omega) (by omega) (by omega), bn _ (by omega) (by omega) (by omega), p0 _ (by omega)]
  · unfold vbg
    rw [gWrite_n (by omega) (by omega) (by omega), b15]
  · unfold vmn
    rw [w16, nI_clamp (by omega)]
  · unfold vwn gWrite
    rw [u_n (by omega), u_s, nI_clamp (by omega)]
  · unfold vbg
    rw [gWrite_n (by omega) (by omega) (by omega), bn _ (by omega) (by omega) (by omega), p0 _ (by omega)]
  · unfold vmn
    rw [gWrite_n (by omega) (by omega) (by omega), bn _ (by omega) (by omega) (by omega), p0 _ (by omega)]
  · unfold vwn
    rw [gWrite_n (by omega) (by omega) (by omega), bn _ (by omega) (by omega) (by omega), p0 _ (by omega)]
theorem wed_holds {ro : RO} {T : Nat} {g : Nat → Int32} {m w : Nat} (h : VB ro.P T ro.fm g) (hT : T < 1000000) (hH : HS (vtw g) (vbg g) (vmn g) (vwn g) (hdB g)) (hm : m < 8) (hw : w < 8) (fm : ro.fm m = false) (hl : vln g 0 < 8) (um : mtdB g m = false) (uw : mtdB g w = false) :
    ∀ t, t < 24 → hdB (gWed ro g 0 m w) t = if t = vln g 0 then true else hdB g t := by
  obtain ⟨-, -, -, v4, ⟨v5, v6, v7⟩, v8⟩ := wed_vals hm hw fm hl
  have free : ∀ t, t < 24 → hdB g t = true → vmn g t ≠ m ∧ vwn g t ≠ m ∧ vmn g t ≠ w ∧ vwn g t ≠ w := fun t ht q => by
    have n1 : ∀ a, mtdB g a = false → vmn g t ≠ a ∧ vwn g t ≠ a := fun a ha => by
      refine ⟨fun z => ?_, fun z => ?_⟩
      · rw [mtdB_t.mpr ⟨t, ht, q, Or.inl z⟩] at ha; cases ha
      · rw [mtdB_t.mpr ⟨t, ht, q, Or.inr z⟩] at ha; cases ha
    exact ⟨(n1 m um).1, (n1 m um).2, (n1 w uw).1, (n1 w uw).2⟩
  have nH0 : hdB g (vln g 0) = false := by
    cases q : hdB g (vln g 0) with
    | false => rfl
    | true =>
      have := (vtw_th ((hH _ (by omega)).mp q).1).1
      unfold vth at this
      have := of_decide_eq_true this
      rw [show vln g 0 / 8 = 0 by omega] at this
      omega
  have key : HS (vtw (gWed ro g 0 m w)) (vbg (gWed ro g 0 m w)) (vmn (gWed ro g 0 m w)) (vwn (gWed ro g 0 m w)) (fun t => if t = vln g 0 then true else hdB g t) := by
    intro s hs
    rw [v4 s hs]
    show (if s = vln g 0 then true else hdB g s) = true ↔ (if s = vln g 0 then true else vtw g s) = true ∧ ∀ t, t < 24 → prec (vbg (gWed ro g 0 m w)) t s → (if t = vln g 0 then true else hdB g t) = true → ¬ shr (vmn (gWed ro g 0 m w)) (vwn (gWed ro g 0 m w)) t s
    by_cases y : s = vln g 0
    · rw [if_pos y, if_pos y]
      refine ⟨fun _ => ⟨rfl, fun t ht hp hh => ?_⟩, fun _ => rfl⟩
      by_cases z : t = vln g 0
      · rw [z, y] at hp; exact absurd hp prec_irr
      · rw [if_neg z] at hh
        have hf := free t ht hh
        unfold shr
        rw [y, v6, v7, (v8 t ht z).2.1, (v8 t ht z).2.2]
        rintro (q | q)
        · exact hf.1 q
        · exact hf.2.2.2 q
    · rw [if_neg y, if_neg y, hH s hs]
      obtain ⟨s1, s2, s3⟩ := v8 s hs y
      constructor
      · rintro ⟨a, b⟩
        refine ⟨a, fun t ht hp hh => ?_⟩
        by_cases z : t = vln g 0
        · have hs' : hdB g s = true := (hH s hs).mpr ⟨a, b⟩
          have hf := free s hs hs'
          unfold shr
          rw [z, v6, v7, s2, s3]
          rintro (q | q)
          · exact hf.1 q.symm
          · exact hf.2.2.2 q.symm
        · rw [if_neg z] at hh
          obtain ⟨t1, t2, t3⟩ := v8 t ht z
          have := b t ht (by unfold prec at hp ⊢; rw [t1, s1] at hp; exact hp) hh
          unfold shr at this ⊢
          rw [t2, t3, s2, s3]; exact this
      · rintro ⟨a, b⟩
        refine ⟨a, fun t ht hp hh => ?_⟩
        have z : t ≠ vln g 0 := fun z => by rw [z, nH0] at hh; cases hh
        obtain ⟨t1, t2, t3⟩ := v8 t ht z
        have := b t ht (by unfold prec at hp ⊢; rw [t1, s1]; exact hp) (by rw [if_neg z]; exact hh)
        unfold shr at this ⊢
        rw [t2, t3, s2, s3] at this; exact this
  intro t ht
  exact (hdB_eq key ht).symm
theorem wed_mated {ro : RO} {T : Nat} {g : Nat → Int32} {m w : Nat} (h : VB ro.P T ro.fm g) (hT : T < 1000000) (hH : HS (vtw g) (vbg g) (vmn g) (vwn g) (hdB g)) (hm : m < 8) (hw : w < 8) (fm : ro.fm m = false) (hl : vln g 0 < 8) (um : mtdB g m = false) (uw : mtdB g w = false) (a : Nat) :
    mtdB (gWed ro g 0 m w) a = (mtdB g a || decide (a = m) || decide (a = w)) := by
  have hh := wed_holds h hT hH hm hw fm hl um uw
  obtain ⟨-, -, -, v4, ⟨v5, v6, v7⟩, v8⟩ := wed_vals hm hw fm hl
  rw [Bool.eq_iff_iff, mtdB_t, Bool.or_eq_true, Bool.or_eq_true, mtdB_t, decide_eq_true_eq, decide_eq_true_eq]
  constructor
  · rintro ⟨t, ht, h1, h2⟩
    rw [hh t ht] at h1
    by_cases y : t = vln g 0
    · rw [y, v6, v7] at h2
      rcases h2 with h2 | h2
      · exact Or.inl (Or.inr h2.symm)
      · exact Or.inr h2.symm
    · rw [if_neg y] at h1
      rw [(v8 t ht y).2.1, (v8 t ht y).2.2] at h2
      exact Or.inl (Or.inl ⟨t, ht, h1, h2⟩)
  · rintro ((⟨t, ht, h1, h2⟩ | h2) | h2)
    · by_cases y : t = vln g 0
      · exfalso
        have := (vtw_th ((hH _ ht).mp h1).1).1
        unfold vth at this
        have := of_decide_eq_true this
        rw [y, show vln g 0 / 8 = 0 by omega] at this
        omega
      · exact ⟨t, ht, by rw [hh t ht, if_neg y]; exact h1, by rw [(v8 t ht y).2.1, (v8 t ht y).2.2]; exact h2⟩
    · exact ⟨vln g 0, by omega, by rw [hh _ (by omega), if_pos rfl], Or.inl (by rw [v6]; exact h2.symm)⟩
    · exact ⟨vln g 0, by omega, by rw [hh _ (by omega), if_pos rfl], Or.inr (by rw [v7]; exact h2.symm)⟩
theorem cnt_put {h h' : Nat → Bool} {p : Nat} : ∀ {n : Nat}, p < n → (∀ i, i < n → h' i = (h i || decide (i = p))) → h p = false → cnt h' n = cnt h n + 1
  | 0, hp, _, _ => absurd hp (Nat.not_lt_zero p)
  | n+1, hp, e, h0 => by
    rw [cnt_s, cnt_s, e n (by omega)]
    by_cases y : n = p
    · rw [y, h0, decide_eq_true rfl, cnt_congr (h := h') (g := h) (fun i hi => by rw [e i (by omega), decide_eq_false (by omega), Bool.or_false])]
      rfl
    · rw [decide_eq_false y, Bool.or_false, cnt_put (h := h) (h' := h') (n := n) (by omega) (fun i hi => e i (by omega)) h0]
      omega
/-- as many women have a mate as lines hold -/
theorem women_lines {P T : Nat} {fm : Nat → Bool} {g : Nat → Int32} (h : VB P T fm g) (hP : P ≤ 8) (hT : T < 1000000) (hH : HS (vtw g) (vbg g) (vmn g) (vwn g) (hdB g)) : cnt (fun i => fm i && mtdB g i) P = cnt (hdB g) 24 := by
  have key : ∀ n, n ≤ 24 → cnt (fun i => anyB (fun t => hdB g t && decide (vwn g t = i)) n) P = cnt (hdB g) n := by
    intro n
    induction n with
    | zero => intro _; exact List.countP_eq_zero.mpr (fun x _ => by show ¬ (false = true); decide)
    | succ n ih =>
      intro hn
      rw [cnt_s]
      cases q : hdB g n with
      | false =>
        rw [if_neg (by decide), ← ih (by omega)]
        refine cnt_congr (fun i _ => ?_)
        show (anyB _ n || (hdB g n && _)) = _
        rw [q, Bool.false_and, Bool.or_false]
      | true =>
        obtain ⟨-, -, -, -, a4, -, -⟩ := VB_two h hP hT (show n < 24 by omega) ((hH n (by omega)).mp q).1
        rw [if_pos rfl, ← ih (by omega)]
        refine cnt_put (p := vwn g n) a4 (fun i _ => ?_) ?_
        · show (anyB _ n || (hdB g n && decide (vwn g n = i))) = _
          rw [q, Bool.true_and]
          by_cases y : i = vwn g n
          · rw [decide_eq_true y, decide_eq_true y.symm]
          · rw [decide_eq_false y, decide_eq_false (fun z => y z.symm)]
        · refine anyB_f (fun t ht => ?_)
          cases z : hdB g t with
          | false => rfl
          | true =>
            rw [Bool.true_and]
            refine decide_eq_false (fun y => ?_)
            exact HS_apart hH (show t < 24 by omega) (show n < 24 by omega) z q (by omega) (Or.inr y)
  rw [← key 24 (Nat.le_refl _)]
  refine cnt_congr (fun i hi => ?_)
  rw [Bool.eq_iff_iff, Bool.and_eq_true, mtdB_t, anyB_t]
  constructor
  · rintro ⟨f1, t, ht, h1, h2⟩
    refine ⟨t, ht, ?_⟩
    obtain ⟨-, -, a2, -, -, -, -⟩ := VB_two h hP hT ht ((hH t ht).mp h1).1
    rcases h2 with h2 | h2
    · rw [h2, f1] at a2; cases a2
    · rw [h1, Bool.true_and]; exact decide_eq_true h2
  · rintro ⟨t, ht, h1⟩
    simp only [Bool.and_eq_true, decide_eq_true_eq] at h1
    obtain ⟨-, -, -, -, -, a4', -⟩ := VB_two h hP hT ht ((hH t ht).mp h1.1).1
    exact ⟨by rw [← h1.2]; exact a4', t, ht, h1.1, Or.inr h1.2⟩
