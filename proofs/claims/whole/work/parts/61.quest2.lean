/-! blanks of a parson; parson asked of both -/
theorem CB_blank {f : hF} {bk : Nat} {g : Nat → Int32} (hc : CB f bk g) {s : Nat} (hs : s < 24) (hv : vth g s = true) : f (bk+4) s = 0 ↔ vbl g s = true := by
  unfold vbl
  rw [hv, Bool.true_and, decide_eq_true_iff]
  rcases (hc.2.2.2.2 s hs hv).2 with ⟨a, b⟩ | ⟨a, b⟩ | ⟨a, b, -⟩
  · rw [a, b]; decide
  · rw [a, b]; decide
  · rw [b]
    exact ⟨fun z => absurd z (by decide), fun z => by rw [z] at a; exact absurd a m1_neg⟩
theorem vth_in {g : Nat → Int32} {p l : Nat} (hl : l < 8) : vth g (8 * p + l) = decide (l < vln g p) := by
  unfold vth
  rw [show (8 * p + l) / 8 = p by omega, show (8 * p + l) % 8 = l by omega]
def bln (g : Nat → Int32) (p : Nat) : Nat := cnt (fun l => vbl g (8 * p + l)) 8
theorem co_blanksOf {P T : Nat} {fm : Nat → Bool} {g : Nat → Int32} (h : VB P T fm g) {f : hF} {bk : Nat} (hc : CB f bk g) {p : Nat} (hp : p < 3) : fX0_blanksOf bk f (nI p) = some (nI (bln g p)) := by
  have key : ∀ (r i n : Nat), i + r = 8 → r < n → fX0_blanksOf_4 bk f (nI p) n (nI (cnt (fun l => vbl g (8 * p + l)) i)) (nI i) = some (nI (bln g p)) := by
    intro r
    induction r with
    | zero =>
      intro i n hr hn
      obtain ⟨m, rfl⟩ : ∃ m, n = m + 1 := ⟨n - 1, by omega⟩
      obtain rfl : i = 8 := by omega
      rw [fX0_blanksOf_4, if_pos (by decide)]; rfl
    | succ r ih =>
      intro i n hr hn
      obtain ⟨m, rfl⟩ : ∃ m, n = m + 1 := ⟨n - 1, by omega⟩
      have hi : i < 8 := by omega
      have e := ih (i + 1) m (by omega) (by omega)
      rw [cnt_s] at e
      have hvi := vth_in (g := g) (p := p) hi
      rw [fX0_blanksOf_4, if_neg (show ¬ (8 : Int32) ≤ nI i by rw [L8, nleq (by omega) (by omega)]; omega), co_slot h hc hp (by omega), b1s, show nI i + 1 = nI (i + 1) from nadd i 1, show nI (cnt (fun l => vbl g (8 * p + l)) i) + 1 = nI (cnt (fun l => vbl g (8 * p + l)) i + 1) from nadd _ 1]
      by_cases z : i < vln g p
      · rw [decide_eq_true z] at hvi
        have h24 : 8 * p + i < 24 := by omega
        have hb := CB_blank hc h24 hvi
        rw [if_pos z, if_neg (show ¬ nI (8 * p + i) = -1 by rw [neg1q (by omega)]; exact id), gdk h24 (by omega), ncl (by omega)]
        cases q : vbl g (8 * p + i) with
        | true => rw [if_pos (hb.mpr q)]; simp only [q, if_true] at e; exact e
        | false => rw [if_neg (fun z => by rw [hb.mp z] at q; cases q)]; simp only [q] at e; exact e
      · rw [decide_eq_false z] at hvi
        have q : vbl g (8 * p + i) = false := by unfold vbl; rw [hvi]; rfl
        rw [if_neg z, if_pos rfl]
        simp only [q] at e
        exact e
  exact key 8 0 FU rfl (by decide)
theorem mo_blanksOf {P T : Nat} {fm : Nat → Bool} {f : hF} (h : VB P T fm (f 158)) {p : Nat} (hp : p < 3) : fX8_blanksOf f (nI p) = some (nI (bln (f 158) p)) := by
  have key : ∀ (r i n : Nat), i + r = 8 → r < n → fX8_blanksOf_4 f (nI p) n (nI (cnt (fun l => vbl (f 158) (8 * p + l)) i)) (nI i) = some (nI (bln (f 158) p)) := by
    intro r
    induction r with
    | zero =>
      intro i n hr hn
      obtain ⟨m, rfl⟩ : ∃ m, n = m + 1 := ⟨n - 1, by omega⟩
      obtain rfl : i = 8 := by omega
      rw [fX8_blanksOf_4, if_pos (by decide)]; rfl
    | succ r ih =>
      intro i n hr hn
      obtain ⟨m, rfl⟩ : ∃ m, n = m + 1 := ⟨n - 1, by omega⟩
      have hi : i < 8 := by omega
      have e := ih (i + 1) m (by omega) (by omega)
      rw [cnt_s] at e
      have e0 : nI (cnt (fun l => vbl (f 158) (8 * p + l)) i) + 0 = nI (cnt (fun l => vbl (f 158) (8 * p + l)) i + 0) := nadd _ 0
      have e1 : nI (cnt (fun l => vbl (f 158) (8 * p + l)) i) + 1 = nI (cnt (fun l => vbl (f 158) (8 * p + l)) i + 1) := nadd _ 1
      rw [fX8_blanksOf_4, if_neg (show ¬ (8 : Int32) ≤ nI i by rw [L8, nleq (by omega) (by omega)]; omega), L8, nmul, nadd, mo_blank h (show 8 * p + i < 24 by omega), b1s]
      unfold fX8_blanksOf_29
      rw [show nI i + 1 = nI (i + 1) from nadd i 1, e0, e1]
      cases q : vbl (f 158) (8 * p + i) with
      | true => rw [if_neg bt0]; simp only [q, if_true] at e; exact e
      | false => rw [if_pos bf0]; simp only [q] at e; exact e
  exact key 8 0 FU rfl (by decide)
theorem parson_same {T : Nat} {ro : RO} {f : hF} (h : R T ro f) (hT : T < 1000000) (x y : Int32) : Same T ro f (fun f => b1 (fX7_parson f x y) fun r => some (r, f)) (fun f => fX8_parson f x y) := by
  have hQ := h.rr.ok.2.2.2.1
  cases hp : decide (0 ≤ x ∧ x < nI ro.Q) with
  | false =>
    refine Same.mk' (r := -1) h ⟨f, ?_, Sc.refl f, rfl⟩ (fun f' h' _ => ⟨f', ?_, Sc.refl f'⟩)
    · show b1 (fX7_parson f x y) _ = _
      unfold fX7_parson
      rw [h.rr.cpar, hp]; rfl
    · show fX8_parson f' x y = _
      unfold fX8_parson
      rw [h'.rr.mpar, hp]; rfl
  | true =>
    obtain ⟨p, hpq, rfl⟩ := person_nI (by omega) hp
    rcases in_or y 0 4 (by omega) (by omega) with ⟨d, -, hd, rfl, hin⟩ | ⟨hin, hout⟩
    · have M : ∀ (r : Int32), (∀ f', R T ro f' → f' 149 = f 149 → (if (2 : Int32) ≤ nI d then
          (if nI d = 2 then gd (12 + nI p) 111 <| some ((stA f' 158 (f' 149) 149 (12 + nI p).toNatClampNeg), stA f' 158 (f' 149))
          else (if nI d = 3 then b1 (fX8_blanksOf (stA f' 158 (f' 149)) (nI p)) fun r10 => some (r10, stA f' 158 (f' 149))
            else gd (9 + nI p) 111 <| some ((stA f' 158 (f' 149) 149 (9 + nI p).toNatClampNeg), stA f' 158 (f' 149))))
          else gd ((2 * nI p) + nI d) 6 <| some ((stA f' 158 (f' 149) 148 ((2 * nI p) + nI d).toNatClampNeg), stA f' 158 (f' 149))) = some (r, stA f' 158 (f' 149))) →
          ∀ f', R T ro f' → f' 149 = f 149 → ∃ f3, fX8_parson f' (nI p) (nI d) = some (r, f3) ∧ Sc f' f3 := by
        intro r hb f' h' e
        refine ⟨_, ?_, h'.sc1⟩
        have := hb f' h' e
        unfold fX8_parson
        rw [h'.rr.mpar, hp, b1s, if_neg bt0, show fX8_in (nI d) (0 : Int32) (4 : Int32) = some 1 from hin, b1s, if_neg (by decide), h'.as, b1s]
        exact this
      rcases (show d = 0 ∨ d = 1 ∨ d = 2 ∨ d = 3 ∨ d = 4 by omega) with rfl | rfl | rfl | rfl | rfl
      · refine Same.mk' (r := nI (ro.tr p)) h ⟨f, ?_, Sc.refl f, rfl⟩ (M _ (fun f' h' e => ?_))
        · show b1 (fX7_parson f _ _) _ = _
          unfold fX7_parson
          rw [h.rr.cpar, hp, b1s, if_neg bt0, if_pos (by decide), gdk (by omega) (by omega), ncl (by omega), (h.rr.cp p hpq).1, b1s]
        · rw [if_neg (by decide), L2, nmul, nadd, gdk (by omega) (by omega), ncl (by omega), Nat.add_zero, sA_n (by decide), (h'.rr.mp p hpq).1]
      · refine Same.mk' (r := nI (ro.pr p)) h ⟨f, ?_, Sc.refl f, rfl⟩ (M _ (fun f' h' e => ?_))
        · show b1 (fX7_parson f _ _) _ = _
          unfold fX7_parson
          rw [h.rr.cpar, hp, b1s, if_neg bt0, if_neg (by decide), if_pos (by decide), gdk (by omega) (by omega), ncl (by omega), (h.rr.cp p hpq).2, b1s]
        · rw [if_neg (by decide), L2, nmul, nadd, gdk (by omega) (by omega), ncl (by omega), sA_n (by decide), (h'.rr.mp p hpq).2]
      · refine Same.mk' (r := f 149 (12 + p)) h ⟨f, ?_, Sc.refl f, rfl⟩ (M _ (fun f' h' e => ?_))
        · show b1 (fX7_parson f _ _) _ = _
          unfold fX7_parson
          rw [h.rr.cpar, hp, b1s, if_neg bt0, if_neg (by decide), if_neg (by decide), if_pos (by decide), gdk (by omega) (by omega), ncl (by omega), ← h.cb.2.2.2.1 p (by omega), b1s]
        · rw [if_pos (by decide), if_pos (by decide), L12, nadd, gdk (by omega) (by omega), ncl (by omega), sA_n (by decide), e]
      · refine Same.mk' (r := nI (bln (f 149) p)) h ⟨f, ?_, Sc.refl f, rfl⟩ (M _ (fun f' h' e => ?_))
        · show b1 (fX7_parson f _ _) _ = _
          unfold fX7_parson
          rw [h.rr.cpar, hp, b1s, if_neg bt0, if_neg (by decide), if_neg (by decide), if_neg (by decide), if_pos (by decide), co_blanksOf h.bk.1 h.cb (by omega), b1s, b1s]
        · have k := mo_blanksOf (f := stA f' 158 (f' 149)) (by rw [sA_s]; exact h'.bk.1) (show p < 3 by omega)
          rw [sA_s, e] at k
          rw [if_pos (by decide), if_neg (by decide), if_pos (by decide), e, k, b1s]
      · refine Same.mk' (r := f 149 (9 + p)) h ⟨f, ?_, Sc.refl f, rfl⟩ (M _ (fun f' h' e => ?_))
        · show b1 (fX7_parson f _ _) _ = _
          unfold fX7_parson
          rw [h.rr.cpar, hp, b1s, if_neg bt0, if_neg (by decide), if_neg (by decide), if_neg (by decide), if_neg (by decide), if_pos (by decide), gdk (by omega) (by omega), ncl (by omega), ← h.cb.2.2.1 p (by omega), b1s]
        · rw [if_pos (by decide), if_neg (by decide), if_neg (by decide), L9, nadd, gdk (by omega) (by omega), ncl (by omega), sA_n (by decide), e]
    · have ne := fun d (hd : d ≤ 4) => out_ne (by omega) hout (Nat.zero_le d) hd
      refine Same.mk' (r := -1) h ⟨f, ?_, Sc.refl f, rfl⟩ (fun f' h' _ => ⟨f', ?_, Sc.refl f'⟩)
      · show b1 (fX7_parson f _ _) _ = _
        unfold fX7_parson
        rw [h.rr.cpar, hp, b1s, if_neg bt0, if_neg (show ¬ y = (0 : Int32) from ne 0 (by omega)), if_neg (show ¬ y = (1 : Int32) from ne 1 (by omega)), if_neg (show ¬ y = (2 : Int32) from ne 2 (by omega)), if_neg (show ¬ y = (3 : Int32) from ne 3 (by omega)), if_neg (show ¬ y = (4 : Int32) from ne 4 (by omega)), b1s]
      · show fX8_parson f' _ _ = _
        unfold fX8_parson
        rw [h'.rr.mpar, hp, b1s, if_neg bt0, show fX8_in y (0 : Int32) (4 : Int32) = some 0 from hin, b1s, if_pos rfl]
