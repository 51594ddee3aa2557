/-! look, see, forget by both -/
def mkb (b : Nat → Bool) : Nat → Int32
  | 0 => 0
  | p+1 => if b p then mkb b p ||| bt p else mkb b p
theorem mkb_s (b : Nat → Bool) (p : Nat) : mkb b (p+1) = if b p then mkb b p ||| bt p else mkb b p := rfl
theorem mkb_bits : ∀ b0 b1 b2 : Bool, fJ6_bitCount_0f7a4 ((if b2 then (if b1 then (if b0 then 0 ||| bt 0 else 0) ||| bt 1 else (if b0 then 0 ||| bt 0 else 0)) ||| bt 2 else (if b1 then (if b0 then 0 ||| bt 0 else 0) ||| bt 1 else (if b0 then 0 ||| bt 0 else 0)))) = some (nI ((if b0 then 1 else 0) + (if b1 then 1 else 0) + (if b2 then 1 else 0))) := by decide +kernel
theorem mkb_count (b : Nat → Bool) : fJ6_bitCount_0f7a4 (mkb b 3) = some (nI (cnt b 3)) := by
  have := mkb_bits (b 0) (b 1) (b 2)
  have e : cnt b 3 = (if b 0 then 1 else 0) + (if b 1 then 1 else 0) + (if b 2 then 1 else 0) := by
    rw [cnt_s, cnt_s, cnt_s]
    show cnt b 0 + _ + _ + _ = _
    have : cnt b 0 = 0 := rfl
    omega
  rw [e]
  exact this
def anyB (h : Nat → Bool) : Nat → Bool
  | 0 => false
  | i+1 => anyB h i || h i
def bkB (h : Nat → Bool) (p : Nat) : Bool := anyB (fun l => h (8 * p + l)) 8
theorem anyB_f {h : Nat → Bool} : ∀ {n : Nat}, (∀ i, i < n → h i = false) → anyB h n = false
  | 0, _ => rfl
  | n+1, e => by
    show (anyB h n || h n) = false
    rw [anyB_f (fun i hi => e i (by omega)), e n (by omega)]; rfl
theorem co_look {k : Nat} {ro : Nat} {f : hF} {h : Nat → Bool} (hh : ∀ s, s < 24 → fX1_isHeld (k+10) (k+1) f (nI s) = some (bI (h s))) : fX2_booksThatHold_8 k ro FU f 0 0 = some (mkb (bkB h) 3, f) := by
  have key : ∀ (r p l n : Nat), 8 * p + l + r = 24 → l < 8 ∨ (l = 8 ∧ p = 2) → p < 3 → r < n → fX2_booksThatHold_8 k ro n f (if anyB (fun l => h (8 * p + l)) l then mkb (bkB h) p ||| bt p else mkb (bkB h) p) (nI (8 * p + l)) = some (mkb (bkB h) 3, f) := by
    intro r
    induction r with
    | zero =>
      intro p l n hr hl hp hn
      obtain ⟨m, rfl⟩ : ∃ m, n = m + 1 := ⟨n - 1, by omega⟩
      obtain ⟨rfl, rfl⟩ : l = 8 ∧ p = 2 := by omega
      rw [fX2_booksThatHold_8, if_pos (by decide)]
      rfl
    | succ r ih =>
      intro p l n hr hl hp hn
      obtain ⟨m, rfl⟩ : ∃ m, n = m + 1 := ⟨n - 1, by omega⟩
      have hl8 : l < 8 := by omega
      have h24 : 8 * p + l < 24 := by omega
      have step : ∀ v, v = (if anyB (fun l => h (8 * p + l)) (l + 1) then mkb (bkB h) p ||| bt p else mkb (bkB h) p) → fX2_booksThatHold_8 k ro m f v (nI (8 * p + l) + 1) = some (mkb (bkB h) 3, f) := by
        intro v hv
        rw [show nI (8 * p + l) + 1 = nI (8 * p + l + 1) from nadd _ 1, hv]
        by_cases e : l = 7 ∧ p < 2
        · obtain ⟨rfl, hp2⟩ := e
          have := ih (p + 1) 0 m (by omega) (by omega) (by omega) (by omega)
          rw [show 8 * (p + 1) + 0 = 8 * p + 7 + 1 by omega] at this
          exact this
        · exact ih p (l + 1) m (by omega) (by omega) hp (by omega)
      rw [fX2_booksThatHold_8, if_neg (show ¬ (24 : Int32) ≤ nI (8 * p + l) by rw [L24, nleq (by omega) (by omega)]; omega), hh _ h24, b1s, bi_if, L8, ndiv (by omega) (by omega) (by omega), show (8 * p + l) / 8 = p by omega]
      have e : anyB (fun l => h (8 * p + l)) (l + 1) = (anyB (fun l => h (8 * p + l)) l || h (8 * p + l)) := rfl
      cases q : h (8 * p + l) with
      | false =>
        rw [if_neg (by decide)]
        exact step _ (by rw [e, q, Bool.or_false])
      | true =>
        rw [if_pos rfl]
        refine step _ ?_
        rw [e, q, Bool.or_true, if_pos rfl]
        show _ ||| bt p = _
        cases anyB (fun l => h (8 * p + l)) l
        · rfl
        · exact or_or _ _
  exact key 24 0 0 FU rfl (Or.inl (by omega)) (by omega) (by decide)
theorem mo_look {f5 : hF} {h : Nat → Bool} {Q : Nat} (hQ : Q ≤ 3) (hf : f5 146 2 = nI Q) (hd : ∀ t, t < 24 → f5 159 t = bI (h t)) (x : Int32) : ∀ (r p n : Nat), p + r = Q → r < n → fX8_look_26 x n f5 (nI (cnt (bkB h) p)) (mkb (bkB h) p) (nI p) = if x = 0 then some (nI (cnt (bkB h) Q), f5) else some (mkb (bkB h) Q, f5) := by
  intro r
  induction r with
  | zero =>
    intro p n hr hn
    obtain ⟨m, rfl⟩ : ∃ m, n = m + 1 := ⟨n - 1, by omega⟩
    obtain rfl : p = Q := by omega
    rw [fX8_look_26, hf, if_pos (Int32.le_refl _)]
  | succ r ih =>
    intro p n hr hn
    obtain ⟨m, rfl⟩ : ∃ m, n = m + 1 := ⟨n - 1, by omega⟩
    have inner : ∀ (r l n : Nat), l + r = 8 → r < n → fX8_look_41 x (fX8_look_26 x m) n f5 (nI (cnt (bkB h) p)) (mkb (bkB h) p) (nI p) (bI (anyB (fun l => h (8 * p + l)) l)) (nI l) = fX8_look_26 x m f5 (nI (cnt (bkB h) (p + 1))) (mkb (bkB h) (p + 1)) (nI (p + 1)) := by
      intro r
      induction r with
      | zero =>
        intro l n hr hn
        obtain ⟨n, rfl⟩ : ∃ m, n = m + 1 := ⟨n - 1, by omega⟩
        obtain rfl : l = 8 := by omega
        rw [fX8_look_41, if_pos (by decide), cnt_s, mkb_s]
        unfold fX8_look_93 fX8_look_109
        rw [show nI p + 1 = nI (p + 1) from nadd p 1]
        show (if bI (bkB h p) = 0 then _ else _) = _
        cases q : bkB h p with
        | false =>
          rw [show anyB (fun l => h (8 * p + l)) 8 = false from q, if_pos bf0, if_pos bf0, or_0, show nI (cnt (bkB h) p) + 0 = nI (cnt (bkB h) p + 0) from nadd _ 0]
          rfl
        | true =>
          rw [show anyB (fun l => h (8 * p + l)) 8 = true from q, if_neg bt0, if_neg bt0, show nI (cnt (bkB h) p) + 1 = nI (cnt (bkB h) p + 1) from nadd _ 1]
          rfl
      | succ r ih2 =>
        intro l n hr hn
        obtain ⟨n, rfl⟩ : ∃ m, n = m + 1 := ⟨n - 1, by omega⟩
        have e := ih2 (l + 1) n (by omega) (by omega)
        have ea : anyB (fun l => h (8 * p + l)) (l + 1) = (anyB (fun l => h (8 * p + l)) l || h (8 * p + l)) := rfl
        rw [ea] at e
        rw [fX8_look_41, if_neg (ge8 (p := l) (by omega)), show (8 : Int32) * nI p = nI (8 * p) from nmul 8 p, nadd, gdk (show 8 * p + l < 24 by omega) (by omega), ncl (by omega), hd _ (by omega)]
        unfold fX8_look_69
        rw [show nI l + 1 = nI (l + 1) from nadd l 1]
        cases q : anyB (fun l => h (8 * p + l)) l with
        | true =>
          rw [q, Bool.true_or] at e
          rw [if_neg bt0]
          exact e
        | false =>
          rw [q, Bool.false_or] at e
          rw [if_pos bf0]
          cases w : h (8 * p + l) with
          | false => rw [w] at e; rw [if_pos bf0]; exact e
          | true => rw [w] at e; rw [if_neg bt0]; exact e
    have i0 := inner 8 0 FU rfl (by decide)
    rw [fX8_look_26, hf, if_neg (show ¬ nI Q ≤ nI p from fun z => by have := (nI_leI (by omega) (by omega)).mp z; omega)]
    rw [show fX8_look_41 x (fX8_look_26 x m) FU f5 (nI (cnt (bkB h) p)) (mkb (bkB h) p) (nI p) 0 0 = _ from i0]
    exact ih (p + 1) m (by omega) (by omega)
theorem mkb_ge {b : Nat → Bool} {Q : Nat} (h : ∀ p, Q ≤ p → p < 3 → b p = false) : ∀ n, n ≤ 3 → Q ≤ n → mkb b n = mkb b Q ∧ cnt b n = cnt b Q := by
  intro n
  induction n with
  | zero => intro _ h2; obtain rfl : Q = 0 := by omega
            exact ⟨rfl, rfl⟩
  | succ n ih =>
    intro h1 h2
    by_cases e : Q = n + 1
    · rw [e]; exact ⟨rfl, rfl⟩
    · have := ih (by omega) (by omega)
      rw [mkb_s, cnt_s, h n (by omega) (by omega)]
      exact this
theorem look_same {T : Nat} {ro : RO} {f : hF} (h : R T ro f) (hT : T < 1000000) (x : Int32) : Same T ro f (fun f => fX7_look f x) (fun f => fX8_look f x) := by
  have hP := h.rr.ok.2.1
  have hQ := h.rr.ok.2.2.2.1
  rcases in_or x 0 1 (by omega) (by omega) with ⟨w, -, hw, rfl, hin⟩ | ⟨hin, hout⟩
  · have hpart : fX7_isPart (nI w) = some 1 := by
      unfold fX7_isPart
      rcases (show w = 0 ∨ w = 1 by omega) with rfl | rfl <;> rfl
    obtain ⟨f2, c1, c2⟩ := co_set (k := 19) (r := 3) h.bk.1 hP hT h.cb
    have hno : ∀ p, ro.Q ≤ p → p < 3 → bkB (hdB (f 149)) p = false := fun p h1 h2 => anyB_f (fun l hl => by
      cases q : hdB (f 149) (8 * p + l) with
      | false => rfl
      | true =>
        have := (vtw_th (((c2.h _ (show 8 * p + l < 24 by omega)).mp q).1)).1
        rw [vth_in hl] at this
        have := of_decide_eq_true this
        have e0 : vln (f 149) p = 0 := by unfold vln; rw [h.bk.2.1 p h1 h2]; rfl
        omega)
    obtain ⟨e1, e2⟩ := mkb_ge hno 3 (by omega) hQ
    refine Same.mk' (r := if nI w = 0 then nI (cnt (bkB (hdB (f 149))) 3) else mkb (bkB (hdB (f 149))) 3) h ⟨f2, ?_, c2.sc, c2.o 149 (by decide) (by decide)⟩ (fun f' h' e => ?_)
    · show fX7_look f _ = _
      unfold fX7_look fX2_booksThatHold
      rw [hpart, b1s, if_neg (by decide), c1, b1s, co_look (fun s hs => co_heldB h.bk.1 hP hT c2 hs), b2s, mkb_count, b1s]
      rcases (show w = 0 ∨ w = 1 by omega) with rfl | rfl <;> rfl
    · obtain ⟨f5, a1, a2, a3⟩ := h'.ah hT
      refine ⟨f5, ?_, a3.s⟩
      unfold fX8_look
      rw [show fX8_in (nI w) (0 : Int32) (1 : Int32) = some 1 from hin, b1s, if_neg (by decide), a1, b1s, a2, b1s]
      have := mo_look hQ (a3.rr h'.rr).m1 a3.d (nI w) ro.Q 0 FU (by omega) (by unfold FU; omega)
      rw [show fX8_look_26 (nI w) FU f5 0 0 0 = _ from this, e, e1, e2]
      rcases (show w = 0 ∨ w = 1 by omega) with rfl | rfl <;> rfl
  · have ne := fun d (hd : d ≤ 1) => out_ne (by omega) hout (Nat.zero_le d) hd
    refine Same.mk' (r := -1) h ⟨f, ?_, Sc.refl f, rfl⟩ (fun f' h' e => ⟨f', ?_, Sc.refl f'⟩)
    · show fX7_look f x = _
      unfold fX7_look fX7_isPart
      rw [if_neg (show ¬ x = (0 : Int32) from ne 0 (by omega)), if_neg (show ¬ x = (1 : Int32) from ne 1 (by omega)), b1s, if_pos rfl]
    · unfold fX8_look
      rw [show fX8_in x (0 : Int32) (1 : Int32) = some 0 from hin, b1s, if_pos rfl]
/-- what is changed is but the sights -/
theorem R_seen {T : Nat} {ro : RO} {f f3 : hF} (h : R T ro f) (e : ∀ j, ¬ (47 ≤ j ∧ j ≤ 51) → j ≠ 146 → j ≠ 152 → f3 j = f j) (e2 : ∀ i, i ≠ 10 → f3 146 i = f 146 i) (hs : SE ro f3) : R T ro f3 := by
  have hr := h.rr
  refine ⟨⟨hr.ok, by rw [e 3 (by omega) (by omega) (by omega)]; exact hr.c0, by rw [e 3 (by omega) (by omega) (by omega)]; exact hr.c1, by rw [e 3 (by omega) (by omega) (by omega)]; exact hr.c2, ?_, ?_, by rw [e2 0 (by omega)]; exact hr.m0, by rw [e2 2 (by omega)]; exact hr.m1, by rw [e2 4 (by omega)]; exact hr.m2, by rw [e 147 (by omega) (by omega) (by omega)]; exact hr.ma, by rw [e 148 (by omega) (by omega) (by omega)]; exact hr.mp⟩, ?_, ?_, ?_, ?_, ?_, hs, ?_⟩
  · rw [e 4 (by omega) (by omega) (by omega), e 5 (by omega) (by omega) (by omega), e 6 (by omega) (by omega) (by omega)]; exact hr.ca
  · rw [e 8 (by omega) (by omega) (by omega), e 9 (by omega) (by omega) (by omega)]; exact hr.cp
  · rw [e 149 (by omega) (by omega) (by omega)]; exact h.bk
  · rw [e 149 (by omega) (by omega) (by omega)]; exact CB_frame (fun t t1 t2 => e t (by omega) (by omega) (by omega)) h.cb
  · rw [e 158 (by omega) (by omega) (by omega)]; exact h.z
  · obtain ⟨m, gk, km, k1, k2, k3⟩ := SH_out h.past
    exact SH_in km (SHc_fr (fun t t1 t2 => e t (by omega) (by omega) (by omega)) km k1) (SHm_fr (e2 6 (by omega)) (e 150 (by omega) (by omega) (by omega)) k2) k3
  · obtain ⟨m, gk, km, k1, k2, k3⟩ := SH_out h.kept
    exact SH_in km (SHc_fr (fun t t1 t2 => e t (by omega) (by omega) (by omega)) km k1) (SHm_fr (e2 8 (by omega)) (e 151 (by omega) (by omega) (by omega)) k2) k3
  · have h := h.text
    unfold TX at h ⊢
    rw [e 1 (by omega) (by omega) (by omega), e2 13 (by omega), e 2 (by omega) (by omega) (by omega), e 153 (by omega) (by omega) (by omega)]
    exact h
theorem forget_step {T : Nat} {ro : RO} {f : hF} (h : R T ro f) : Act2 (R T ro) f (fun f => fX7_forget f) (fun f => fX8_forget f) := by
  obtain ⟨m, h1, h2, h3, h4⟩ := h.seen
  refine ⟨nI m, st2 f 47 0 0, st2 (st2 f 47 0 0) 146 10 0, ?_, ?_, ?_⟩
  · show fX7_forget f = _
    unfold fX7_forget
    rw [lte, h2]
  · show fX8_forget _ = _
    unfold fX8_forget
    rw [lte, s2_n (by decide), h3]
  · refine R_seen h (fun j j1 j2 j3 => by rw [s2_n j2, s2_n (by omega)]) (fun i hi => by rw [s2_s, u_n hi, s2_n (by decide)]) ⟨0, by omega, ?_, ?_, fun i hi => absurd hi (Nat.not_lt_zero i)⟩
    · rw [s2_n (by decide), s2_s, u_s]; rfl
    · rw [s2_s, u_s]; rfl
theorem see_step {T : Nat} {ro : RO} {f : hF} (h : R T ro f) (x y z : Int32) (v : Bool) : Act2 (R T ro) f (fun f => fX7_see f x y z (bI v)) (fun f => fX8_see f x y z (bI v)) := by
  have hP := h.rr.ok.2.1
  rcases two_or h x y with ⟨a, b, ha, hb, hab, rfl, rfl⟩ | ⟨t1, t2⟩
  · rcases in_or z 0 99 (by omega) (by omega) with ⟨d, -, hd, rfl, hin⟩ | ⟨hin, hout⟩
    · obtain ⟨m, h1, h2, h3, h4⟩ := h.seen
      have C : fX7_see f (nI a) (nI b) (nI d) (bI v) = b2 (fX6_add 47 f (nI a) (nI b) (nI d) (bI v)) fun r5 f6 => (if r5 = 0 then some ((-3), f6) else some ((f6 47 0), f6)) := by
        unfold fX7_see
        rw [co_areTwo h.rr ha hb, decide_eq_true hab, b1s, if_neg bt0, if_neg (nI_pos (by omega)), if_pos (show nI d ≤ (99 : Int32) from (nI_leI (b := 99) (by omega) (by omega)).mpr hd)]
      by_cases e : m = 6
      · subst e
        refine ⟨-3, f, f, ?_, ?_, h⟩
        · show fX7_see f _ _ _ _ = _
          rw [C]
          unfold fX6_add
          rw [h2, if_neg (by decide), if_neg (by decide), b2s, if_pos rfl]
        · show fX8_see f _ _ _ _ = _
          unfold fX8_see
          rw [h.rr.mper, per_t (by omega) ha, b1s, if_neg bt0, h.rr.mper, per_t (by omega) hb, b1s, if_neg bt0, if_neg (by rw [neqq (by omega) (by omega)]; exact hab), show fX8_in (nI d) (0 : Int32) (99 : Int32) = some 1 from hin, b1s, if_neg (by decide), h3, if_pos (by decide)]
      · have hm6 : m < 6 := by omega
        let f9 : hF := st2 (st2 (st2 (st2 (st2 f 48 m (nI a)) 49 m (nI b)) 50 m (nI d)) 51 m (bI v)) 47 0 (nI (m + 1))
        have e9 : ∀ j, ¬ (47 ≤ j ∧ j ≤ 51) → f9 j = f j := fun j hj => by
          show st2 (st2 (st2 (st2 (st2 f 48 m (nI a)) 49 m (nI b)) 50 m (nI d)) 51 m (bI v)) 47 0 (nI (m + 1)) j = f j
          rw [s2_n (by omega), s2_n (by omega), s2_n (by omega), s2_n (by omega), s2_n (by omega)]
        have hadd : fX6_add 47 f (nI a) (nI b) (nI d) (bI v) = some (1, f9) := by
          unfold fX6_add
          rw [h2, if_neg (nI_pos (by omega)), if_pos (show nI m < (6 : Int32) from (nI_ltI (b := 6) (by omega) (by omega)).mpr hm6), gdk hm6 (by omega), lte, ncl (by omega), s2_n (j := 47) (by decide), h2, gdk hm6 (by omega), lte, ncl (by omega), s2_n (j := 47) (by decide), s2_n (j := 47) (by decide), h2, gdk hm6 (by omega), lte, ncl (by omega), s2_n (j := 47) (by decide), s2_n (j := 47) (by decide), s2_n (j := 47) (by decide), h2, gdk hm6 (by omega), lte, ncl (by omega), bI_nar, s2_n (j := 47) (by decide), s2_n (j := 47) (by decide), s2_n (j := 47) (by decide), s2_n (j := 47) (by decide), h2, lte, show nI m + 1 = nI (m + 1) from nadd m 1]
        have q : ∀ v : Bool, (if bI v = 0 then fX8_see_107 (nI a) (nI b) (nI d) (bI v) (st2 (st2 (st2 f9 152 (4 * m) (nI a)) 152 (4 * m + 1) (nI b)) 152 (4 * m + 2) (nI d)) (nI (4 * m + 3)) 0 else fX8_see_107 (nI a) (nI b) (nI d) (bI v) (st2 (st2 (st2 f9 152 (4 * m) (nI a)) 152 (4 * m + 1) (nI b)) 152 (4 * m + 2) (nI d)) (nI (4 * m + 3)) 1) = some (nI (m + 1), st2 (st2 (st2 (st2 (st2 f9 152 (4 * m) (nI a)) 152 (4 * m + 1) (nI b)) 152 (4 * m + 2) (nI d)) 152 (4 * m + 3) (bI v)) 146 10 (nI (m + 1))) := by
          intro v
          have e10 : f9 146 10 = nI m := by rw [e9 146 (by omega)]; exact h3
          have aux : ∀ (F : hF) (x2 b w : Int32), F 146 10 = nI m → fX8_see_107 (nI a) x2 (nI d) b F (nI (4 * m + 3)) w = some (nI (m + 1), st2 (st2 F 152 (4 * m + 3) w) 146 10 (nI (m + 1))) := by
            intro F x2 b w hF
            unfold fX8_see_107
            rw [gdk (show 4 * m + 3 < 24 by omega) (by omega), lte, ncl (by omega), s2_n (j := 146) (by decide), hF, lte, show nI m + 1 = nI (m + 1) from nadd m 1, s2_s, u_s]
          have eF : st2 (st2 (st2 f9 152 (4 * m) (nI a)) 152 (4 * m + 1) (nI b)) 152 (4 * m + 2) (nI d) 146 10 = nI m := by rw [s2_n (by decide), s2_n (by decide), s2_n (by decide)]; exact e10
          cases v
          · rw [if_pos bf0, aux _ _ _ _ eF]; rfl
          · rw [if_neg bt0, aux _ _ _ _ eF]; rfl
        refine ⟨nI (m + 1), f9, st2 (st2 (st2 (st2 (st2 f9 152 (4 * m) (nI a)) 152 (4 * m + 1) (nI b)) 152 (4 * m + 2) (nI d)) 152 (4 * m + 3) (bI v)) 146 10 (nI (m + 1)), ?_, ?_, ?_⟩
        · show fX7_see f _ _ _ _ = _
          rw [C, hadd, b2s, if_neg (by decide)]
          show some (st2 (st2 (st2 (st2 (st2 f 48 m (nI a)) 49 m (nI b)) 50 m (nI d)) 51 m (bI v)) 47 0 (nI (m + 1)) 47 0, f9) = _
          rw [s2_s, u_s]
        · have e10 : f9 146 10 = nI m := by rw [e9 146 (by omega)]; exact h3
          have hr9 : RR ro f9 := RR_of (fun j hj => e9 j (by omega)) h.rr
          show fX8_see f9 _ _ _ _ = _
          unfold fX8_see
          rw [hr9.mper, per_t (by omega) ha, b1s, if_neg bt0, hr9.mper, per_t (by omega) hb, b1s, if_neg bt0, if_neg (by rw [neqq (by omega) (by omega)]; exact hab), show fX8_in (nI d) (0 : Int32) (99 : Int32) = some 1 from hin, b1s, if_neg (by decide), e10, if_neg (show ¬ nI m = (6 : Int32) from fun z => e ((nI_eq (b := 6) (by omega) (by omega)).mp z)), show (4 : Int32) * nI m = nI (4 * m) from nmul 4 m, gdk (show 4 * m < 24 by omega) (by omega), lte, ncl (by omega), s2_n (j := 146) (by decide), e10, show (4 : Int32) * nI m = nI (4 * m) from nmul 4 m, show nI (4 * m) + 1 = nI (4 * m + 1) from nadd _ 1, gdk (show 4 * m + 1 < 24 by omega) (by omega), lte, ncl (by omega), s2_n (j := 146) (by decide), s2_n (j := 146) (by decide), e10, show (4 : Int32) * nI m = nI (4 * m) from nmul 4 m, show nI (4 * m) + 2 = nI (4 * m + 2) from nadd _ 2, gdk (show 4 * m + 2 < 24 by omega) (by omega), lte, ncl (by omega), s2_n (j := 146) (by decide), s2_n (j := 146) (by decide), s2_n (j := 146) (by decide), e10, show (4 : Int32) * nI m = nI (4 * m) from nmul 4 m, show nI (4 * m) + 3 = nI (4 * m + 3) from nadd _ 3]
          exact q v
        · refine R_seen h (fun j j1 j2 j3 => ?_) (fun i hi => ?_) ⟨m + 1, by omega, ?_, ?_, fun i hi => ?_⟩
          · rw [s2_n j2, s2_n j3, s2_n j3, s2_n j3, s2_n j3, e9 j j1]
          · rw [s2_s, u_n hi, s2_n (by decide), s2_n (by decide), s2_n (by decide), s2_n (by decide), e9 146 (by omega)]
          · rw [s2_n (by decide), s2_n (by decide), s2_n (by decide), s2_n (by decide), s2_n (by decide)]
            show st2 _ 47 0 _ 47 0 = _
            rw [s2_s, u_s]
          · rw [s2_s, u_s]
          · have g48 : f9 48 = upd (f 48) m (nI a) := by
              show st2 (st2 (st2 (st2 (st2 f 48 m (nI a)) 49 m (nI b)) 50 m (nI d)) 51 m (bI v)) 47 0 (nI (m + 1)) 48 = _
              rw [s2_n (by decide), s2_n (by decide), s2_n (by decide), s2_n (by decide), s2_s]
            have g49 : f9 49 = upd (f 49) m (nI b) := by
              show st2 (st2 (st2 (st2 (st2 f 48 m (nI a)) 49 m (nI b)) 50 m (nI d)) 51 m (bI v)) 47 0 (nI (m + 1)) 49 = _
              rw [s2_n (by decide), s2_n (by decide), s2_n (by decide), s2_s, s2_n (by decide)]
            have g50 : f9 50 = upd (f 50) m (nI d) := by
              show st2 (st2 (st2 (st2 (st2 f 48 m (nI a)) 49 m (nI b)) 50 m (nI d)) 51 m (bI v)) 47 0 (nI (m + 1)) 50 = _
              rw [s2_n (by decide), s2_n (by decide), s2_s, s2_n (by decide), s2_n (by decide)]
            have g51 : f9 51 = upd (f 51) m (bI v) := by
              show st2 (st2 (st2 (st2 (st2 f 48 m (nI a)) 49 m (nI b)) 50 m (nI d)) 51 m (bI v)) 47 0 (nI (m + 1)) 51 = _
              rw [s2_n (by decide), s2_s, s2_n (by decide), s2_n (by decide), s2_n (by decide)]
            have g152 : st2 (st2 (st2 (st2 (st2 f9 152 (4 * m) (nI a)) 152 (4 * m + 1) (nI b)) 152 (4 * m + 2) (nI d)) 152 (4 * m + 3) (bI v)) 146 10 (nI (m + 1)) 152 = upd (upd (upd (upd (f 152) (4 * m) (nI a)) (4 * m + 1) (nI b)) (4 * m + 2) (nI d)) (4 * m + 3) (bI v) := by
              rw [s2_n (by decide), s2_s, s2_s, s2_s, s2_s, e9 152 (by omega)]
            have fr : ∀ j, j ≠ 146 → j ≠ 152 → st2 (st2 (st2 (st2 (st2 f9 152 (4 * m) (nI a)) 152 (4 * m + 1) (nI b)) 152 (4 * m + 2) (nI d)) 152 (4 * m + 3) (bI v)) 146 10 (nI (m + 1)) j = f9 j := fun j j2 j3 => by rw [s2_n j2, s2_n j3, s2_n j3, s2_n j3, s2_n j3]
            rw [g152, fr 48 (by omega) (by omega), fr 49 (by omega) (by omega), fr 50 (by omega) (by omega), fr 51 (by omega) (by omega), g48, g49, g50, g51]
            by_cases ei : i = m
            · subst ei
              refine ⟨a, b, d, v, ha, hb, hd, u_s _ _ _, u_s _ _ _, u_s _ _ _, u_s _ _ _, ?_, ?_, ?_, u_s _ _ _⟩
              · rw [u_n (by omega), u_n (by omega), u_n (by omega), u_s]
              · rw [u_n (by omega), u_n (by omega), u_s]
              · rw [u_n (by omega), u_s]
            · rw [u_n ei, u_n ei, u_n ei, u_n ei]
              have := h4 i (by omega)
              rw [u_n (j := 4 * i) (by omega), u_n (j := 4 * i) (by omega), u_n (j := 4 * i) (by omega), u_n (j := 4 * i) (by omega), u_n (j := 4 * i + 1) (by omega), u_n (j := 4 * i + 1) (by omega), u_n (j := 4 * i + 1) (by omega), u_n (j := 4 * i + 1) (by omega), u_n (j := 4 * i + 2) (by omega), u_n (j := 4 * i + 2) (by omega), u_n (j := 4 * i + 2) (by omega), u_n (j := 4 * i + 2) (by omega), u_n (j := 4 * i + 3) (by omega), u_n (j := 4 * i + 3) (by omega), u_n (j := 4 * i + 3) (by omega), u_n (j := 4 * i + 3) (by omega)]
              exact this
    · refine ⟨-1, f, f, ?_, ?_, h⟩
      · show fX7_see f _ _ _ _ = _
        unfold fX7_see
        rw [co_areTwo h.rr ha hb, decide_eq_true hab, b1s, if_neg bt0]
        rcases hout with q | q
        · rw [if_pos (show z < 0 from q)]
        · by_cases w : z < 0
          · rw [if_pos w]
          · rw [if_neg w, if_neg (show ¬ z ≤ (99 : Int32) from Int32.not_le.mpr q)]
      · show fX8_see f _ _ _ _ = _
        unfold fX8_see
        rw [h.rr.mper, per_t (by omega) ha, b1s, if_neg bt0, h.rr.mper, per_t (by omega) hb, b1s, if_neg bt0, if_neg (by rw [neqq (by omega) (by omega)]; exact hab), show fX8_in z (0 : Int32) (99 : Int32) = some 0 from hin, b1s, if_pos rfl]
  · refine ⟨-1, f, f, ?_, ?_, h⟩
    · show fX7_see f x y z _ = _
      unfold fX7_see
      rw [t1, b1s, if_pos rfl]
    · show fX8_see f x y z _ = _
      unfold fX8_see
      exact wed_bad h t2
