/-! a line told by parson and place; line, hand asked of both -/
theorem slot_or {T : Nat} {ro : RO} {f : hF} (h : R T ro f) (x y : Int32) :
    (∃ p l, p < ro.Q ∧ l < vln (f 149) p ∧ x = nI p ∧ y = nI l ∧ 8 * p + l < 24 ∧ vth (f 149) (8 * p + l) = true ∧ fX0_slotOf 20 f x y = some (nI (8 * p + l)) ∧ ∀ f', R T ro f' → f' 149 = f 149 → fX8_isLine f' x y = some 1) ∨
    (fX0_slotOf 20 f x y = some (-1) ∧ ∀ f', R T ro f' → f' 149 = f 149 → fX8_isLine f' x y = some 0) := by
  have hQ := h.rr.ok.2.2.2.1
  have no : (∀ f', R T ro f' → decide (0 ≤ x ∧ x < nI ro.Q) = false → fX8_isLine f' x y = some 0) := fun f' h' q => by
    unfold fX8_isLine
    rw [h'.rr.mpar, q, b1s, if_pos bf0]
  by_cases x0 : x < 0
  · refine Or.inr ⟨?_, fun f' h' _ => no f' h' (decide_eq_false (fun z => Int32.not_lt.mpr z.1 x0))⟩
    unfold fX0_slotOf
    rw [if_pos x0]
  obtain ⟨p, hp, rfl⟩ := nI_of x0
  by_cases p3 : 3 ≤ p
  · refine Or.inr ⟨?_, fun f' h' _ => no f' h' (decide_eq_false (fun z => by have := (nI_ltI hp (by omega)).mp z.2; omega))⟩
    unfold fX0_slotOf
    rw [if_neg x0, if_pos (show (3 : Int32) ≤ nI p from (nI_leI (a := 3) (by omega) hp).mpr p3)]
  have hl := VB_ln h.bk.1 (p := p) (by omega)
  have sl : ∀ l, 8 ≤ l → l < 2147483648 → fX0_slotOf 20 f (nI p) (nI l) = some (-1) := fun l hl8 hll => by
    unfold fX0_slotOf
    rw [if_neg x0, if_neg (ge3 (p := p) (by omega)), if_neg (nI_pos hll), if_pos (show (8 : Int32) ≤ nI l from (nI_leI (a := 8) (by omega) hll).mpr hl8)]
  have sn : ∀ y : Int32, y < 0 → fX0_slotOf 20 f (nI p) y = some (-1) := fun y y0 => by
    unfold fX0_slotOf
    rw [if_neg x0, if_neg (ge3 (p := p) (by omega)), if_pos y0]
  by_cases pq : p < ro.Q
  · have ok : ∀ f', R T ro f' → f' 149 = f 149 → fX8_isLine f' (nI p) y = some (bI (decide (0 ≤ y ∧ y < nI (vln (f 149) p)))) := fun f' h' e => by
      unfold fX8_isLine
      rw [h'.rr.mpar, per_t (by omega) pq, b1s, if_neg bt0, L12, nadd, gdk (by omega) (by omega), ncl (by omega), e, hl.1, L0, ← L0, in_n (by omega), b1s]
      cases decide (0 ≤ y ∧ y < nI (vln (f 149) p)) <;> rfl
    by_cases y0 : y < 0
    · refine Or.inr ⟨sn y y0, fun f' h' e => ?_⟩
      rw [ok f' h' e, decide_eq_false (fun z => Int32.not_lt.mpr z.1 y0)]; rfl
    obtain ⟨l, hll, rfl⟩ := nI_of y0
    by_cases ll : l < vln (f 149) p
    · refine Or.inl ⟨p, l, pq, ll, rfl, rfl, by omega, (vth_nx h.bk.1 (by omega) ll).2, ?_, fun f' h' e => ?_⟩
      · rw [co_slot h.bk.1 h.cb (by omega) (by omega), if_pos ll]
      · rw [ok f' h' e, decide_eq_true ⟨nI_pos' hll, (nI_ltI hll (by omega)).mpr ll⟩]; rfl
    · refine Or.inr ⟨?_, fun f' h' e => ?_⟩
      · by_cases l8 : 8 ≤ l
        · exact sl l l8 hll
        · rw [co_slot h.bk.1 h.cb (by omega) (by omega), if_neg ll]
      · rw [ok f' h' e, decide_eq_false (fun z => ll ((nI_ltI hll (by omega)).mp z.2))]; rfl
  · refine Or.inr ⟨?_, fun f' h' _ => no f' h' (decide_eq_false (fun z => pq ((nI_ltI hp (by omega)).mp z.2)))⟩
    have h0 : vln (f 149) p = 0 := by unfold vln; rw [h.bk.2.1 p (by omega) (by omega)]; rfl
    by_cases y0 : y < 0
    · exact sn y y0
    obtain ⟨l, hll, rfl⟩ := nI_of y0
    by_cases l8 : 8 ≤ l
    · exact sl l l8 hll
    · rw [co_slot h.bk.1 h.cb (by omega) (by omega), if_neg (by omega)]
theorem bi_if {α : Type} {b : Bool} {u v : α} : (if bI b = 0 then u else v) = if b = true then v else u := by cases b <;> rfl
theorem line_same {T : Nat} {ro : RO} {f : hF} (h : R T ro f) (hT : T < 1000000) (x y z : Int32) : Same T ro f (fun f => fX7_line f x y z) (fun f => fX8_line f x y z) := by
  have hP := h.rr.ok.2.1
  rcases slot_or h x y with ⟨p, l, pq, ll, rfl, rfl, h24, hv, sl, isl⟩ | ⟨sl, isl⟩
  · generalize hs : 8 * p + l = s at *
    have e8 : (8 * nI p + nI l : Int32) = nI s := by rw [L8, nmul, nadd, hs]
    have hst := CB_two h.cb h24 hv
    have C : ∀ (r : Int32) (f2 : hF), fX7_line_44 (nI p) (nI l) z f (nI s) (if vtw (f 149) s = true then 1 else 0) = some (r, f2) → fX7_line f (nI p) (nI l) z = some (r, f2) := by
      intro r f2 hb
      unfold fX7_line
      rw [sl, b1s, if_neg (show ¬ nI s = -1 by rw [neg1q (by omega)]; exact id), gdk h24 (by omega), ncl (by omega), ← hb]
      cases q : vtw (f 149) s with
      | true => rw [if_pos (hst.mpr q)]; rfl
      | false => rw [if_neg (fun w => by rw [hst.mp w] at q; cases q)]; rfl
    rcases in_or z 0 5 (by omega) (by omega) with ⟨d, -, hd, rfl, hin⟩ | ⟨hin, hout⟩
    · have M : ∀ (r : Int32), (∀ f' f5, R T ro f' → f' 149 = f 149 → AH f' f5 → VB ro.P T ro.fm (f5 158) → f5 158 = f 149 →
          (if nI d = 0 then b1 (fX8_begun f5 (nI s)) fun r8 => some (r8, f5)
          else (if nI d = 1 then (if vtw (f 149) s = true then b1 (fX8_manOf f5 (nI s)) fun r10 => some (r10, f5) else some ((-4), f5))
          else (if nI d = 2 then (if vtw (f 149) s = true then b1 (fX8_womanOf f5 (nI s)) fun r10 => some (r10, f5) else some ((-4), f5))
          else (if nI d = 3 then b1 (fX8_isBlank f5 (nI s)) fun r13 => (if r13 = 0 then some (0, f5) else some (1, f5))
          else (if nI d = 4 then gd (nI s) 24 <| (if (f5 159 (nI s).toNatClampNeg) = 0 then some (0, f5) else some (1, f5))
          else (if vtw (f 149) s = true then gd ((15 + (4 * nI s)) + 3) 111 <| some ((f5 158 ((15 + (4 * nI s)) + 3).toNatClampNeg), f5) else some ((-4), f5))))))) = some (r, f5)) →
          ∀ f', R T ro f' → f' 149 = f 149 → ∃ f3, fX8_line f' (nI p) (nI l) (nI d) = some (r, f3) ∧ Sc f' f3 := by
        intro r hb f' h' e
        obtain ⟨f5, a1, a2, a3⟩ := h'.ah hT
        refine ⟨f5, ?_, a3.s⟩
        have hV : VB ro.P T ro.fm (f5 158) := by rw [a3.b, e]; exact h.bk.1
        have := hb f' f5 h' e a3 hV (a3.b.trans e)
        unfold fX8_line
        rw [isl f' h' e, b1s, if_neg (by decide), show fX8_in (nI d) (0 : Int32) (5 : Int32) = some 1 from hin, b1s, if_neg (by decide), a1, b1s, a2, b1s, e8, mo_two hV h24, b1s, a3.b, e]
        rw [a3.b, e] at this
        simp only [bi_if]
        exact this
      rcases (show d = 0 ∨ d = 1 ∨ d = 2 ∨ d = 3 ∨ d = 4 ∨ d = 5 by omega) with rfl | rfl | rfl | rfl | rfl | rfl
      · refine Same.mk' (r := f 149 (15 + 4 * s)) h ⟨f, C _ _ ?_, Sc.refl f, rfl⟩ (M _ (fun f' f5 h' e a3 hV eb => ?_))
        · unfold fX7_line_44
          rw [if_pos (by decide), gdk h24 (by omega), ncl (by omega), (h.cb.2.2.2.2 s h24 hv).1]
        · rw [if_pos (by decide), mo_beg h24, b1s, eb]
      · cases q : vtw (f 149) s with
        | true =>
          refine Same.mk' (r := nI (vmn (f 149) s)) h ⟨f, C _ _ ?_, Sc.refl f, rfl⟩ (M _ (fun f' f5 h' e a3 hV eb => ?_))
          · unfold fX7_line_44
            rw [if_neg (by decide), if_pos (by decide), q, if_pos rfl, if_neg (by decide), gdk h24 (by omega), ncl (by omega), (CB_mw h.bk.1 hP hT h.cb h24 q).1]
          · rw [if_neg (by decide), if_pos (by decide), q, if_pos rfl, mo_man h24, b1s, eb, (VB_two h.bk.1 hP hT h24 q).1]
        | false =>
          refine Same.mk' (r := -4) h ⟨f, C _ _ ?_, Sc.refl f, rfl⟩ (M _ (fun f' f5 h' e a3 hV eb => ?_))
          · unfold fX7_line_44
            rw [if_neg (by decide), if_pos (by decide), q, if_pos (show (if false = true then (1 : Int32) else 0) = 0 from rfl)]
          · rw [if_neg (by decide), if_pos (by decide), q, if_neg (by decide)]
      · cases q : vtw (f 149) s with
        | true =>
          refine Same.mk' (r := nI (vwn (f 149) s)) h ⟨f, C _ _ ?_, Sc.refl f, rfl⟩ (M _ (fun f' f5 h' e a3 hV eb => ?_))
          · unfold fX7_line_44
            rw [if_neg (by decide), if_neg (by decide), if_pos (by decide), q, if_pos rfl, if_neg (by decide), gdk h24 (by omega), ncl (by omega), (CB_mw h.bk.1 hP hT h.cb h24 q).2.1]
          · rw [if_neg (by decide), if_neg (by decide), if_pos (by decide), q, if_pos rfl, mo_woman h24, b1s, eb, (VB_two h.bk.1 hP hT h24 q).2.2.2.1]
        | false =>
          refine Same.mk' (r := -4) h ⟨f, C _ _ ?_, Sc.refl f, rfl⟩ (M _ (fun f' f5 h' e a3 hV eb => ?_))
          · unfold fX7_line_44
            rw [if_neg (by decide), if_neg (by decide), if_pos (by decide), q, if_pos (show (if false = true then (1 : Int32) else 0) = 0 from rfl)]
          · rw [if_neg (by decide), if_neg (by decide), if_pos (by decide), q, if_neg (by decide)]
      · refine Same.mk' (r := bI (vbl (f 149) s)) h ⟨f, C _ _ ?_, Sc.refl f, rfl⟩ (M _ (fun f' f5 h' e a3 hV eb => ?_))
        · have hb := CB_blank h.cb h24 hv
          unfold fX7_line_44
          rw [if_neg (by decide), if_neg (by decide), if_neg (by decide), if_pos (by decide), gdk h24 (by omega), ncl (by omega)]
          cases q : vbl (f 149) s with
          | true => rw [if_pos (hb.mpr q)]; rfl
          | false => rw [if_neg (fun w => by rw [hb.mp w] at q; cases q)]; rfl
        · rw [if_neg (by decide), if_neg (by decide), if_neg (by decide), if_pos (by decide), mo_blank hV h24, b1s, eb]
          cases vbl (f 149) s <;> rfl
      · obtain ⟨f2, c1, c2⟩ := co_set (k := 19) (r := 3) h.bk.1 hP hT h.cb
        refine Same.mk' (r := bI (hdB (f 149) s)) h ⟨f2, C _ _ ?_, c2.sc, c2.o 149 (by decide) (by decide)⟩ (M _ (fun f' f5 h' e a3 hV eb => ?_))
        · unfold fX7_line_44 fX2_isHeld
          rw [if_neg (by decide), if_neg (by decide), if_neg (by decide), if_neg (by decide), if_pos (by decide), c1, b1s, co_heldB h.bk.1 hP hT c2 h24, b1s, bI_nr, b2s]
          cases hdB (f 149) s <;> rfl
        · rw [if_neg (by decide), if_neg (by decide), if_neg (by decide), if_neg (by decide), if_pos (by decide), gdk h24 (by omega), ncl (by omega), a3.d s h24, e]
          cases hdB (f 149) s <;> rfl
      · cases q : vtw (f 149) s with
        | true =>
          refine Same.mk' (r := nI (vwr (f 149) s)) h ⟨f, C _ _ ?_, Sc.refl f, rfl⟩ (M _ (fun f' f5 h' e a3 hV eb => ?_))
          · unfold fX7_line_44
            rw [if_neg (by decide), if_neg (by decide), if_neg (by decide), if_neg (by decide), if_neg (by decide), if_pos (by decide), q, if_pos rfl, if_neg (by decide), gdk h24 (by omega), ncl (by omega), (CB_mw h.bk.1 hP hT h.cb h24 q).2.2]
          · rw [if_neg (by decide), if_neg (by decide), if_neg (by decide), if_neg (by decide), if_neg (by decide), q, if_pos rfl, eb, L4, nmul, L15, nadd, L3, nadd, gdk (by omega) (by omega), ncl (by omega), show 15 + 4 * s + 3 = 18 + 4 * s by omega, (VB_two h.bk.1 hP hT h24 q).2.2.2.2.2.2]
        | false =>
          refine Same.mk' (r := -4) h ⟨f, C _ _ ?_, Sc.refl f, rfl⟩ (M _ (fun f' f5 h' e a3 hV eb => ?_))
          · unfold fX7_line_44
            rw [if_neg (by decide), if_neg (by decide), if_neg (by decide), if_neg (by decide), if_neg (by decide), if_pos (by decide), q, if_pos (show (if false = true then (1 : Int32) else 0) = 0 from rfl)]
          · rw [if_neg (by decide), if_neg (by decide), if_neg (by decide), if_neg (by decide), if_neg (by decide), q, if_neg (by decide)]
    · have ne := fun d (hd : d ≤ 5) => out_ne (by omega) hout (Nat.zero_le d) hd
      refine Same.mk' (r := -1) h ⟨f, C _ _ ?_, Sc.refl f, rfl⟩ (fun f' h' e => ⟨f', ?_, Sc.refl f'⟩)
      · unfold fX7_line_44
        rw [if_neg (show ¬ z = (0 : Int32) from ne 0 (by omega)), if_neg (show ¬ z = (1 : Int32) from ne 1 (by omega)), if_neg (show ¬ z = (2 : Int32) from ne 2 (by omega)), if_neg (show ¬ z = (3 : Int32) from ne 3 (by omega)), if_neg (show ¬ z = (4 : Int32) from ne 4 (by omega)), if_neg (show ¬ z = (5 : Int32) from ne 5 (by omega))]
      · show fX8_line f' _ _ _ = _
        unfold fX8_line
        rw [isl f' h' e, b1s, if_neg (by decide), show fX8_in z (0 : Int32) (5 : Int32) = some 0 from hin, b1s, if_pos rfl]
  · refine Same.mk' (r := -1) h ⟨f, ?_, Sc.refl f, rfl⟩ (fun f' h' e => ⟨f', ?_, Sc.refl f'⟩)
    · show fX7_line f x y z = _
      unfold fX7_line
      rw [sl, b1s, if_pos rfl]
    · show fX8_line f' x y z = _
      unfold fX8_line
      rw [isl f' h' e, b1s, if_pos rfl]
theorem hand_same {T : Nat} {ro : RO} {f : hF} (h : R T ro f) (hT : T < 1000000) (x y : Int32) : Same T ro f (fun f => b1 (fX7_hand f x y) fun r => some (r, f)) (fun f => fX8_hand f x y) := by
  have hP := h.rr.ok.2.1
  rcases slot_or h x y with ⟨p, l, pq, ll, rfl, rfl, h24, hv, sl, isl⟩ | ⟨sl, isl⟩
  · generalize hs : 8 * p + l = s at *
    have e8 : (8 * nI p + nI l : Int32) = nI s := by rw [L8, nmul, nadd, hs]
    have hst := CB_two h.cb h24 hv
    have hb := VB_bg h.bk.1 hT h24 hv
    have M : ∀ r : Int32, (if vtw (f 149) s = true then if vwr (f 149) s = vbg (f 149) s then 7 else 6 else -2) = r → ∀ f', R T ro f' → f' 149 = f 149 → ∃ f3, fX8_hand f' (nI p) (nI l) = some (r, f3) ∧ Sc f' f3 := by
      intro r hr f' h' e
      refine ⟨_, ?_, h'.sc1⟩
      have hV : VB ro.P T ro.fm (stA f' 158 (f' 149) 158) := by rw [sA_s]; exact h'.bk.1
      unfold fX8_hand
      rw [isl f' h' e, b1s, if_neg (by decide), h'.as, b1s, e8, mo_two hV h24, b1s, sA_s, e, bi_if, ← hr]
      cases q : vtw (f 149) s with
      | true =>
        rw [if_pos rfl, if_pos rfl, mo_beg h24, b1s, L4, nmul, L15, nadd, L3, nadd, gdk (by omega) (by omega), ncl (by omega), show 15 + 4 * s + 3 = 18 + 4 * s by omega, sA_s, (VB_two h.bk.1 hP hT h24 q).2.2.2.2.2.2, hb.1]
        have w := (h.bk.1.2.2.1 s h24 hv).2
        have wb : vwr (f 149) s < 1000000 := by
          rcases w with w | w | ⟨-, -, d, w1, w2⟩
          · have := (vtw_th q).2; rw [w] at this; exact absurd this m1_neg
          · have := (vtw_th q).2; rw [w] at this; exact absurd this m2_neg
          · unfold vwr; rw [w1, nI_clamp (by omega)]; omega
        by_cases u : vwr (f 149) s = vbg (f 149) s
        · rw [if_pos (by rw [u]), if_pos u]
        · rw [if_neg (by rw [neqq (by omega) (by omega)]; exact u), if_neg u]
      | false => rfl
    refine Same.mk' h ⟨f, ?_, Sc.refl f, rfl⟩ (M _ rfl)
    show b1 (fX7_hand f _ _) _ = _
    unfold fX7_hand
    rw [sl, b1s, if_neg (show ¬ nI s = -1 by rw [neg1q (by omega)]; exact id), gdk h24 (by omega), ncl (by omega)]
    cases q : vtw (f 149) s with
    | true =>
      have w := (h.bk.1.2.2.1 s h24 hv).2
      have wb : vwr (f 149) s < 1000000 := by
        rcases w with w | w | ⟨-, -, d, w1, w2⟩
        · have := (vtw_th q).2; rw [w] at this; exact absurd this m1_neg
        · have := (vtw_th q).2; rw [w] at this; exact absurd this m2_neg
        · unfold vwr; rw [w1, nI_clamp (by omega)]; omega
      rw [if_pos (hst.mpr q), gdk h24 (by omega), gdk h24 (by omega), (CB_mw h.bk.1 hP hT h.cb h24 q).2.2, (h.cb.2.2.2.2 s h24 hv).1, hb.1, if_pos rfl]
      by_cases u : vwr (f 149) s = vbg (f 149) s
      · rw [if_pos (by rw [u]), if_pos u]; rfl
      · rw [if_neg (by rw [neqq (by omega) (by omega)]; exact u), if_neg u]; rfl
    | false => rw [if_neg (fun w => by rw [hst.mp w] at q; cases q)]; rfl
  · refine Same.mk' (r := -1) h ⟨f, ?_, Sc.refl f, rfl⟩ (fun f' h' e => ⟨f', ?_, Sc.refl f'⟩)
    · show b1 (fX7_hand f x y) _ = _
      unfold fX7_hand
      rw [sl, b1s, if_pos rfl]; rfl
    · show fX8_hand f' x y = _
      unfold fX8_hand
      rw [isl f' h' e, b1s, if_pos rfl]
