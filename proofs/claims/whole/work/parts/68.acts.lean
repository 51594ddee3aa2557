/-! taken off a shelf; keep, back, undo by both -/
theorem co_takeB {k w n : Nat} {f : hF} {gs : Nat → Nat → Int32} (hk : 29 ≤ k) (hk2 : k + 2 + 9 * w < 1000000) (hn : n + 1 ≤ w) (h : SHc k w f (n + 1) gs) :
    ∃ f2, fX5_takeInto k w 20 f = some (1, f2) ∧ (∀ j, j ≠ k → ¬ (20 ≤ j ∧ j ≤ 28) → f2 j = f j) ∧ SHc k w f2 n gs ∧ CB f2 20 (gs n) := by
  obtain ⟨a1, nd, a2, a3, a4⟩ := h
  have b := a2 n (by omega)
  obtain ⟨f2, c1, c2, c3⟩ := co_copy (f := st2 f k 1 (nI n)) (k := 20) (o := k + 2 + 9 * nd n) (Or.inr (by omega))
  refine ⟨f2, ?_, fun j j1 j2 => by rw [c2 j j2, s2_n j1], ?_, ?_⟩
  · unfold fX5_takeInto
    rw [oN w, a1, if_neg (show ¬ nI (n + 1) < (1 : Int32) from fun z => by have := (nI_ltI (b := 1) (by omega) (by omega)).mp z; omega), if_pos (show nI (n + 1) ≤ nI w from (nI_leI (by omega) (by omega)).mpr hn), lte, show nI (n + 1) - 1 = nI n from nsub (b := 1) (by omega), s2_s, u_s, gdk (by omega) (by omega), ncl (by omega), s2_n (by omega), b.1, ckB_of b.2 hk2, c1, b1s]
  · refine ⟨by rw [c2 k (by omega), s2_s, u_s], nd, fun j hj => ?_, a3, fun j hj => ?_⟩
    · rw [c2 (k+1) (by omega), s2_n (by omega)]; exact a2 j hj
    · exact CB_frame (fun t t1 t2 => by rw [c2 t (by omega), s2_n (by omega)]) (a4 j (by omega))
  · exact c3 _ (CB_frame (fun t t1 t2 => s2_n (by omega)) (a4 n (by omega)))
theorem co_take0 {k w : Nat} {f : hF} (h : f k 1 = nI 0) : fX5_takeInto k w 20 f = some (0, f) := by
  unfold fX5_takeInto
  rw [h, if_pos (by decide)]
def Act2 (Q : hF → Prop) (f : hF) (A B : hF → Option (Int32 × hF)) : Prop := ∃ r f2 f3, A f = some (r, f2) ∧ B f2 = some (r, f3) ∧ Q f3
theorem Same.stp {T : Nat} {ro : RO} {f : hF} {A B : hF → Option (Int32 × hF)} (h : R T ro f) (s : Same T ro f A B) : Act2 (R T ro) f A B := by
  obtain ⟨r, f2, f3, h1, h2, h3, h4⟩ := s
  exact ⟨r, f2, f3, h1, h3, R_sc h4 (R_sc h2 h)⟩
theorem R_mk {T T' : Nat} {ro : RO} {f f3 : hF} (h : R T ro f) (e : ∀ j, ¬ (20 ≤ j ∧ j ≤ 28) → ¬ (52 ≤ j ∧ j ≤ 146) → ¬ (149 ≤ j ∧ j ≤ 151) → scr j = false → f3 j = f j) (e2 : ∀ i, i ≤ 13 → i ≠ 6 → i ≠ 8 → f3 146 i = f 146 i)
    (b : BK ro T' (f3 149)) (c : CB f3 20 (f3 149)) (z : ∀ i, 111 ≤ i → f3 158 i = 0) (p : SH ro T' 52 8 150 6 f3) (k : SH ro T' 126 2 151 8 f3) : R T' ro f3 := by
  have n := fun j (h1 : ¬ (20 ≤ j ∧ j ≤ 28)) (h2 : ¬ (52 ≤ j ∧ j ≤ 146)) (h3 : ¬ (149 ≤ j ∧ j ≤ 151)) (h4 : ¬ (11 ≤ j ∧ j ≤ 18) ∧ ¬ (30 ≤ j ∧ j ≤ 46) ∧ ¬ (154 ≤ j ∧ j ≤ 161)) => e j h1 h2 h3 (scr_f h4)
  refine ⟨?_, b, c, z, p, k, ?_, ?_⟩
  · have hr := h.rr
    refine ⟨hr.ok, by rw [n 3 (by omega) (by omega) (by omega) (by omega)]; exact hr.c0, by rw [n 3 (by omega) (by omega) (by omega) (by omega)]; exact hr.c1, by rw [n 3 (by omega) (by omega) (by omega) (by omega)]; exact hr.c2, ?_, ?_, by rw [e2 0 (by omega) (by omega) (by omega)]; exact hr.m0, by rw [e2 2 (by omega) (by omega) (by omega)]; exact hr.m1, by rw [e2 4 (by omega) (by omega) (by omega)]; exact hr.m2, by rw [n 147 (by omega) (by omega) (by omega) (by omega)]; exact hr.ma, by rw [n 148 (by omega) (by omega) (by omega) (by omega)]; exact hr.mp⟩
    · rw [n 4 (by omega) (by omega) (by omega) (by omega), n 5 (by omega) (by omega) (by omega) (by omega), n 6 (by omega) (by omega) (by omega) (by omega)]; exact hr.ca
    · rw [n 8 (by omega) (by omega) (by omega) (by omega), n 9 (by omega) (by omega) (by omega) (by omega)]; exact hr.cp
  · have h := h.seen
    unfold SE at h ⊢
    rw [n 47 (by omega) (by omega) (by omega) (by omega), e2 10 (by omega) (by omega) (by omega), n 48 (by omega) (by omega) (by omega) (by omega), n 49 (by omega) (by omega) (by omega) (by omega), n 50 (by omega) (by omega) (by omega) (by omega), n 51 (by omega) (by omega) (by omega) (by omega), n 152 (by omega) (by omega) (by omega) (by omega)]
    exact h
  · have h := h.text
    unfold TX at h ⊢
    rw [n 1 (by omega) (by omega) (by omega) (by omega), e2 13 (by omega) (by omega) (by omega), n 2 (by omega) (by omega) (by omega) (by omega), n 153 (by omega) (by omega) (by omega) (by omega)]
    exact h
theorem mo_fetch {f : hF} {a n2 n : Nat} {gs : Nat → Nat → Int32} (ha : a ≠ 149) (hn : 111 * n + 111 ≤ n2) (hn2 : n2 < 1000) (hr : row f a n = gs n) (hz : ∀ i, 111 ≤ i → f 149 i = 0) : fX8_copies 149 111 a n2 f (0 : Int32) (nI (111 * n)) (111 : Int32) = some (stA f 149 (gs n)) := by
  have h1 := mo_copies (f := f) (a0 := 149) (n0 := 111) (a2 := a) (n2 := n2) (u := 0) (v := 111 * n) (c := 111) ha (by decide) (by omega) (by decide) hn2
  rw [show fX8_copies 149 111 a n2 f (0 : Int32) (nI (111 * n)) (111 : Int32) = _ from h1]
  have : cpf f 149 a 0 (111 * n) 111 = gs n := by
    rw [← hr]
    funext t
    unfold row
    by_cases q : t < 111
    · rw [if_pos q]
      have := cpf_in (f := f) (a0 := 149) (a2 := a) (u := 0) (v := 111 * n) (c := 111) q
      rw [Nat.zero_add] at this
      exact this
    · rw [if_neg q, cpf_out (by omega), hz t (by omega)]
  rw [this]
theorem undo_step {T : Nat} {ro : RO} {f : hF} (h : R T ro f) : Act2 (R T ro) f (fun f => fX7_undo f) (fun f => fX8_undo f) := by
  obtain ⟨n, gs, hn, hc, hm, hB⟩ := SH_out h.past
  cases n with
  | zero =>
    refine ⟨-2, f, f, ?_, ?_, h⟩
    · show fX7_undo f = _
      unfold fX7_undo
      rw [co_take0 hc.1, b2s, if_pos rfl]
    · show fX8_undo f = _
      unfold fX8_undo
      rw [hm.1, if_pos (by decide)]
  | succ n =>
    obtain ⟨f2, a1, a2, a3, a4⟩ := co_takeB (by omega) (by omega) (show n + 1 ≤ 8 by omega) hc
    have m6 : f2 146 6 = nI (n + 1) := by rw [a2 146 (by omega) (by omega)]; exact hm.1
    have e150 : f2 150 = f 150 := a2 150 (by omega) (by omega)
    have hr : row (st2 f2 146 6 (nI n)) 150 n = gs n := by
      rw [← hm.2 n (by omega)]
      unfold row
      rw [s2_n (by decide), e150]
    have hz : ∀ i, 111 ≤ i → st2 f2 146 6 (nI n) 149 i = 0 := fun i hi => by rw [s2_n (by decide), a2 149 (by omega) (by omega)]; exact h.bk.2.2 i hi
    refine ⟨nI n, f2, stA (st2 f2 146 6 (nI n)) 149 (gs n), ?_, ?_, ?_⟩
    · show fX7_undo f = _
      unfold fX7_undo
      rw [a1, b2s, if_neg (by decide), a3.1]
    · show fX8_undo f2 = _
      unfold fX8_undo
      rw [m6, if_neg (show ¬ nI (n + 1) = 0 from fun z => by have := (nI_eq (b := 0) (by omega) (by omega)).mp z; omega), show nI (n + 1) - 1 = nI n from nsub (b := 1) (by omega), lte, s2_s, u_s, show (111 : Int32) * nI n = nI (111 * n) from nmul 111 n, mo_fetch (by decide) (by omega) (by decide) hr hz, b1s, sA_n (by decide), s2_s, u_s]
    · have fr : ∀ j, j ≠ 52 → ¬ (20 ≤ j ∧ j ≤ 28) → j ≠ 146 → j ≠ 149 → stA (st2 f2 146 6 (nI n)) 149 (gs n) j = f j := fun j j1 j2 j3 j4 => by rw [sA_n j4, s2_n j3, a2 j j1 j2]
      refine R_mk h (fun j j1 j2 j3 _ => fr j (by omega) j1 (by omega) (by omega)) (fun i hi i6 i8 => ?_) ?_ ?_ (fun i hi => ?_) ?_ ?_
      · rw [sA_n (by decide), s2_s, u_n i6, a2 146 (by omega) (by omega)]
      · rw [sA_s]; exact hB n (by omega)
      · rw [sA_s]; exact CB_frame (fun t t1 t2 => by rw [sA_n (by omega), s2_n (by omega)]) a4
      · rw [fr 158 (by omega) (by omega) (by omega) (by omega)]; exact h.z i hi
      · refine SH_in (by omega) (SHc_fr (fun t t1 t2 => by rw [sA_n (by omega), s2_n (by omega)]) (by omega) a3) ⟨?_, fun j hj => ?_⟩ (fun j hj => hB j (by omega))
        · rw [sA_n (by decide), s2_s, u_s]
        · rw [← hm.2 j (by omega)]
          unfold row
          rw [fr 150 (by omega) (by omega) (by omega) (by omega)]
      · obtain ⟨m, gk, km, k1, k2, k3⟩ := SH_out h.kept
        refine SH_in km (SHc_fr (fun t t1 t2 => fr t (by omega) (by omega) (by omega) (by omega)) km k1) (SHm_fr ?_ (fr 151 (by omega) (by omega) (by omega) (by omega)) k2) k3
        rw [sA_n (by decide), s2_s, u_n (by decide), a2 146 (by omega) (by omega)]
theorem back_step {T : Nat} {ro : RO} {f : hF} (h : R T ro f) : Act2 (R T ro) f (fun f => fX7_back f) (fun f => fX8_back f) := by
  obtain ⟨n, gs, hn, hc, hm, hB⟩ := SH_out h.kept
  cases n with
  | zero =>
    refine ⟨-2, f, f, ?_, ?_, h⟩
    · show fX7_back f = _
      unfold fX7_back
      rw [co_take0 hc.1, b2s, if_pos rfl]
    · show fX8_back f = _
      unfold fX8_back
      rw [hm.1, if_pos (by decide)]
  | succ n =>
    obtain ⟨f2, a1, a2, a3, a4⟩ := co_takeB (by omega) (by omega) (show n + 1 ≤ 2 by omega) hc
    have m8 : st2 f2 52 1 0 146 8 = nI (n + 1) := by rw [s2_n (by decide), a2 146 (by omega) (by omega)]; exact hm.1
    have hr : row (st2 (st2 f2 52 1 0) 146 8 (nI n)) 151 n = gs n := by
      rw [← hm.2 n (by omega)]
      unfold row
      rw [s2_n (by decide), s2_n (by decide), a2 151 (by omega) (by omega)]
    have hz : ∀ i, 111 ≤ i → st2 (st2 f2 52 1 0) 146 8 (nI n) 149 i = 0 := fun i hi => by rw [s2_n (by decide), s2_n (by decide), a2 149 (by omega) (by omega)]; exact h.bk.2.2 i hi
    refine ⟨nI n, st2 f2 52 1 0, st2 (stA (st2 (st2 f2 52 1 0) 146 8 (nI n)) 149 (gs n)) 146 6 0, ?_, ?_, ?_⟩
    · show fX7_back f = _
      unfold fX7_back
      rw [a1, b2s, if_neg (by decide), lte, s2_n (by decide), a3.1]
    · show fX8_back (st2 f2 52 1 0) = _
      unfold fX8_back
      rw [m8, if_neg (show ¬ nI (n + 1) = 0 from fun z => by have := (nI_eq (b := 0) (by omega) (by omega)).mp z; omega), show nI (n + 1) - 1 = nI n from nsub (b := 1) (by omega), lte, s2_s, u_s, show (111 : Int32) * nI n = nI (111 * n) from nmul 111 n, mo_fetch (by decide) (by omega) (by decide) hr hz, b1s, lte, s2_s, u_n (by decide), sA_n (by decide), s2_s, u_s]
    · have fr : ∀ j, j ≠ 52 → j ≠ 126 → ¬ (20 ≤ j ∧ j ≤ 28) → j ≠ 146 → j ≠ 149 → st2 (stA (st2 (st2 f2 52 1 0) 146 8 (nI n)) 149 (gs n)) 146 6 0 j = f j := fun j j0 j1 j2 j3 j4 => by rw [s2_n j3, sA_n j4, s2_n j3, s2_n j0, a2 j j1 j2]
      have fr2 : ∀ j, j ≠ 52 → j ≠ 146 → j ≠ 149 → st2 (stA (st2 (st2 f2 52 1 0) 146 8 (nI n)) 149 (gs n)) 146 6 0 j = f2 j := fun j j0 j3 j4 => by rw [s2_n j3, sA_n j4, s2_n j3, s2_n j0]
      have e146 : ∀ i, i ≠ 6 → i ≠ 8 → st2 (stA (st2 (st2 f2 52 1 0) 146 8 (nI n)) 149 (gs n)) 146 6 0 146 i = f 146 i := fun i i6 i8 => by
        rw [s2_s, u_n i6, sA_n (by decide), s2_s, u_n i8, s2_n (by decide), a2 146 (by omega) (by omega)]
      refine R_mk h (fun j j1 j2 j3 _ => fr j (by omega) (by omega) j1 (by omega) (by omega)) (fun i hi i6 i8 => e146 i i6 i8) ?_ ?_ (fun i hi => ?_) ?_ ?_
      · rw [s2_n (by decide), sA_s]; exact hB n (by omega)
      · rw [s2_n (by decide) (j := 149), sA_s]; exact CB_frame (fun t t1 t2 => fr2 t (by omega) (by omega) (by omega)) a4
      · rw [fr 158 (by omega) (by omega) (by omega) (by omega) (by omega)]; exact h.z i hi
      · obtain ⟨m, gk, km, k1, k2, k3⟩ := SH_out h.past
        obtain ⟨q1, nd, q2, q3, q4⟩ := k1
        refine SH_in (n := 0) (gs := gk) (by omega) ⟨?_, nd, fun j hj => ?_, q3, fun j hj => absurd hj (Nat.not_lt_zero j)⟩ ⟨?_, fun j hj => absurd hj (Nat.not_lt_zero j)⟩ (fun j hj => absurd hj (Nat.not_lt_zero j))
        · rw [s2_n (by decide), sA_n (by decide), s2_n (by decide), s2_s, u_s]; rfl
        · rw [fr (52 + 1) (by omega) (by omega) (by omega) (by omega) (by omega)]; exact q2 j hj
        · rw [s2_s, u_s]; rfl
      · refine SH_in (by omega) (SHc_fr (fun t t1 t2 => fr2 t (by omega) (by omega) (by omega)) (by omega) a3) ⟨?_, fun j hj => ?_⟩ (fun j hj => hB j (by omega))
        · rw [s2_s, u_n (by decide), sA_n (by decide), s2_s, u_s]
        · rw [← hm.2 j (by omega)]
          unfold row
          rw [fr 151 (by omega) (by omega) (by omega) (by omega) (by omega)]
theorem keep_step {T : Nat} {ro : RO} {f : hF} (h : R T ro f) : Act2 (R T ro) f (fun f => fX7_keep f) (fun f => fX8_keep f) := by
  obtain ⟨n, gs, hn, hc, hm, hB⟩ := SH_out h.kept
  by_cases e : n = 2
  · subst e
    refine ⟨-3, f, f, ?_, ?_, h⟩
    · show fX7_keep f = _
      unfold fX7_keep
      rw [hc.1, if_neg (by decide)]
    · show fX8_keep f = _
      unfold fX8_keep
      rw [hm.1, if_pos (by decide)]
  · obtain ⟨f2, a1, a2, a3⟩ := co_put (k := 126) (w := 2) (by omega) (by omega) (by omega) (by omega) hn hc h.cb
    have hp : psN n 2 = n + 1 := if_neg e
    have hg : psG n 2 gs (f 149) = fun j => if j = n then f 149 else gs j := by
      funext j
      unfold psG
      rw [if_neg e]
    rw [hp, hg] at a3
    have m8 : f2 146 8 = nI n := by rw [a2 146 (by omega)]; exact hm.1
    have h1 := mo_copies (f := f2) (a0 := 151) (n0 := 222) (a2 := 149) (n2 := 111) (u := 111 * n) (v := 0) (c := 111) (by decide) (by omega) (by decide) (by decide) (by decide)
    have e149 : f2 149 = f 149 := a2 149 (by omega)
    refine ⟨nI (n + 1), f2, st2 (stA f2 151 (cpf f2 151 149 (111 * n) 0 111)) 146 8 (nI (n + 1)), ?_, ?_, ?_⟩
    · show fX7_keep f = _
      unfold fX7_keep
      rw [hc.1, if_pos (show nI n < (2 : Int32) from (nI_ltI (b := 2) (by omega) (by omega)).mpr (by omega)), a1, b1s, a3.1]
    · show fX8_keep f2 = _
      unfold fX8_keep
      rw [m8, if_neg (show ¬ nI n = (2 : Int32) from fun z => by have := (nI_eq (b := 2) (by omega) (by omega)).mp z; omega), show (111 : Int32) * nI n = nI (111 * n) from nmul 111 n, show fX8_copies 151 222 149 111 f2 (nI (111 * n)) (0 : Int32) (111 : Int32) = _ from h1, b1s, sA_n (by decide), m8, lte, show nI n + 1 = nI (n + 1) from nadd n 1, s2_s, u_s]
    · have fr : ∀ j, ¬ (126 ≤ j ∧ j < 146) → j ≠ 146 → j ≠ 151 → st2 (stA f2 151 (cpf f2 151 149 (111 * n) 0 111)) 146 8 (nI (n + 1)) j = f j := fun j j1 j2 j3 => by rw [s2_n j2, sA_n j3, a2 j (by omega)]
      refine R_mk h (fun j j1 j2 j3 _ => fr j (by omega) (by omega) (by omega)) (fun i hi i6 i8 => ?_) ?_ ?_ (fun i hi => ?_) ?_ ?_
      · rw [s2_s, u_n i8, sA_n (by decide), a2 146 (by omega)]
      · rw [fr 149 (by omega) (by omega) (by omega)]; exact h.bk
      · rw [fr 149 (by omega) (by omega) (by omega)]; exact CB_frame (fun t t1 t2 => fr t (by omega) (by omega) (by omega)) h.cb
      · rw [fr 158 (by omega) (by omega) (by omega)]; exact h.z i hi
      · obtain ⟨m, gk, km, k1, k2, k3⟩ := SH_out h.past
        refine SH_in km (SHc_fr (fun t t1 t2 => fr t (by omega) (by omega) (by omega)) km k1) (SHm_fr ?_ (fr 150 (by omega) (by omega) (by omega)) k2) k3
        rw [s2_s, u_n (by decide), sA_n (by decide), a2 146 (by omega)]
      · refine SH_in (show n + 1 ≤ 2 by omega) (SHc_fr (fun t t1 t2 => by rw [s2_n (by omega), sA_n (by omega)]) (by omega) a3) ⟨by rw [s2_s, u_s], fun j hj => ?_⟩ (fun j hj => ?_)
        · unfold row
          rw [s2_n (by decide), sA_s]
          by_cases ej : j = n
          · simp only [ej, if_true]
            funext t
            by_cases q : t < 111
            · rw [if_pos q, cpf_in q, Nat.zero_add, e149]
            · rw [if_neg q, h.bk.2.2 t (by omega)]
          · simp only [ej, if_false]
            rw [← hm.2 j (by omega)]
            unfold row
            funext t
            by_cases q : t < 111
            · rw [if_pos q, if_pos q, cpf_out (by omega), a2 151 (by omega)]
            · rw [if_neg q, if_neg q]
        · by_cases ej : j = n
          · simp only [ej, if_true]; exact h.bk
          · simp only [ej, if_false]; exact hB j (by omega)
