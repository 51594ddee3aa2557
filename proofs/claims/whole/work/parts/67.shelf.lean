/-! books kept on a shelf: put, taken off; by both -/
def SHc (k w : Nat) (f : hF) (n : Nat) (gs : Nat → Nat → Int32) : Prop :=
  f k 1 = nI n ∧ ∃ nd : Nat → Nat, (∀ j, j < w → f (k+1) j = nI (k + 2 + 9 * nd j) ∧ nd j < w) ∧ (∀ i j, i < w → j < w → nd i = nd j → i = j) ∧ ∀ j, j < n → CB f (k + 2 + 9 * nd j) (gs j)
def SHm (a i : Nat) (f : hF) (n : Nat) (gs : Nat → Nat → Int32) : Prop := f 146 i = nI n ∧ ∀ j, j < n → row f a j = gs j
theorem SH_out {ro : RO} {T k w a i : Nat} {f : hF} (h : SH ro T k w a i f) : ∃ n gs, n ≤ w ∧ SHc k w f n gs ∧ SHm a i f n gs ∧ ∀ j, j < n → BK ro T (gs j) := by
  obtain ⟨n, h1, h2, h3, nd, h4, h5, h6⟩ := h
  exact ⟨n, row f a, h1, ⟨h2, nd, h4, h5, fun j hj => (h6 j hj).2⟩, ⟨h3, fun _ _ => rfl⟩, fun j hj => (h6 j hj).1⟩
theorem SH_in {ro : RO} {T k w a i n : Nat} {f : hF} {gs : Nat → Nat → Int32} (hn : n ≤ w) (h1 : SHc k w f n gs) (h2 : SHm a i f n gs) (h3 : ∀ j, j < n → BK ro T (gs j)) : SH ro T k w a i f := by
  obtain ⟨a1, nd, a2, a3, a4⟩ := h1
  exact ⟨n, hn, a1, h2.1, nd, a2, a3, fun j hj => by rw [h2.2 j hj]; exact ⟨h3 j hj, a4 j hj⟩⟩
theorem SHc_fr {k w : Nat} {f f' : hF} {n : Nat} {gs : Nat → Nat → Int32} (e : ∀ j, k ≤ j → j < k + 2 + 9 * w → f' j = f j) (hn : n ≤ w) (h : SHc k w f n gs) : SHc k w f' n gs := by
  obtain ⟨a1, nd, a2, a3, a4⟩ := h
  refine ⟨by rw [e k (by omega) (by omega)]; exact a1, nd, fun j hj => by rw [e (k+1) (by omega) (by omega)]; exact a2 j hj, a3, fun j hj => ?_⟩
  have := (a2 j (by omega)).2
  exact CB_frame (fun t t1 t2 => e t (by omega) (by omega)) (a4 j hj)
theorem SHm_fr {a i : Nat} {f f' : hF} {n : Nat} {gs : Nat → Nat → Int32} (e1 : f' 146 i = f 146 i) (e2 : f' a = f a) (h : SHm a i f n gs) : SHm a i f' n gs :=
  ⟨e1.trans h.1, fun j hj => by rw [← h.2 j hj]; unfold row; rw [e2]⟩
theorem oN (w : Nat) : Int32.ofNat w = nI w := rfl
theorem ckB_of {α : Type} {k n i : Nat} {c : Nat → Option α} (hi : i < n) (hk : k + 2 + 9 * n < 1000000) : ckB k n (nI (k + 2 + 9 * i)) c = c (k + 2 + 9 * i) := by
  unfold ckB
  cases h : (List.range n).find? (fun j => nI (k + 2 + 9 * i) == nI (k + 2 + 9 * j)) with
  | none =>
    have := List.find?_eq_none.mp h i (List.mem_range.mpr hi)
    simp at this
  | some j =>
    have h1 := List.find?_some h
    have h2 := List.mem_range.mp (List.mem_of_find?_eq_some h)
    have h3 : k + 2 + 9 * i = k + 2 + 9 * j := (nI_eq (by omega) (by omega)).mp (by simpa using h1)
    obtain rfl : i = j := by omega
    rfl
def cps (f f' : hF) (k o n : Nat) : Prop := (∀ j, j ≠ k → f' j = f j) ∧ ∀ t, t < n → f' k t = f o t
theorem cps_mk (f : hF) (k o n : Nat) : ∃ f', stA f k (va_cpy (f o) (f k) 0 0 n) = f' ∧ cps f f' k o n := by
  refine ⟨_, rfl, fun j hj => sA_n hj, fun t ht => ?_⟩
  rw [sA_s]
  unfold va_cpy
  rw [if_pos (by omega), show 0 + (t - 0) = t by omega]
theorem co_copy {f : hF} {k o : Nat} (hd : o + 8 < k ∨ k + 8 < o) : ∃ f2, fX0_copyFrom k o f = some f2 ∧ (∀ j, ¬ (k ≤ j ∧ j ≤ k + 8) → f2 j = f j) ∧ ∀ g, CB f o g → CB f2 k g := by
  unfold fX0_copyFrom
  rw [lte]
  obtain ⟨f1, e1⟩ : ∃ f1, st2 f k 0 (f o 0) = f1 := ⟨_, rfl⟩
  have c1 : ∀ j, j ≠ k → f1 j = f j := fun j hj => by rw [← e1, s2_n hj]
  have c1' : f1 k 0 = f o 0 := by rw [← e1, s2_s, u_s]
  obtain ⟨f2, e2, c2⟩ := cps_mk f1 (k+1) (o+1) 8
  obtain ⟨f3, e3, c3⟩ := cps_mk f2 (k+2) (o+2) 3
  obtain ⟨f4, e4, c4⟩ := cps_mk f3 (k+3) (o+3) 3
  obtain ⟨f5, e5, c5⟩ := cps_mk f4 (k+4) (o+4) 24
  obtain ⟨f6, e6, c6⟩ := cps_mk f5 (k+5) (o+5) 24
  obtain ⟨f7, e7, c7⟩ := cps_mk f6 (k+6) (o+6) 24
  obtain ⟨f8, e8, c8⟩ := cps_mk f7 (k+7) (o+7) 24
  obtain ⟨f9, e9, c9⟩ := cps_mk f8 (k+8) (o+8) 24
  rw [e1, lte, e2, lte, e3, lte, e4, lte, e5, lte, e6, lte, e7, lte, e8, lte, e9]
  refine ⟨f9, rfl, fun j hj => ?_, fun g hc => ?_⟩
  · rw [c9.1 j (by omega), c8.1 j (by omega), c7.1 j (by omega), c6.1 j (by omega), c5.1 j (by omega), c4.1 j (by omega), c3.1 j (by omega), c2.1 j (by omega), c1 j (by omega)]
  · have q0 : f9 k 0 = f o 0 := by rw [c9.1 k (by omega), c8.1 k (by omega), c7.1 k (by omega), c6.1 k (by omega), c5.1 k (by omega), c4.1 k (by omega), c3.1 k (by omega), c2.1 k (by omega), c1']
    have q1 : ∀ t, t < 8 → f9 (k+1) t = f (o+1) t := fun t ht => by rw [c9.1 _ (by omega), c8.1 _ (by omega), c7.1 _ (by omega), c6.1 _ (by omega), c5.1 _ (by omega), c4.1 _ (by omega), c3.1 _ (by omega), c2.2 t ht, c1 _ (by omega)]
    have q2 : ∀ t, t < 3 → f9 (k+2) t = f (o+2) t := fun t ht => by rw [c9.1 _ (by omega), c8.1 _ (by omega), c7.1 _ (by omega), c6.1 _ (by omega), c5.1 _ (by omega), c4.1 _ (by omega), c3.2 t ht, c2.1 _ (by omega), c1 _ (by omega)]
    have q3 : ∀ t, t < 3 → f9 (k+3) t = f (o+3) t := fun t ht => by rw [c9.1 _ (by omega), c8.1 _ (by omega), c7.1 _ (by omega), c6.1 _ (by omega), c5.1 _ (by omega), c4.2 t ht, c3.1 _ (by omega), c2.1 _ (by omega), c1 _ (by omega)]
    have q4 : ∀ t, t < 24 → f9 (k+4) t = f (o+4) t := fun t ht => by rw [c9.1 _ (by omega), c8.1 _ (by omega), c7.1 _ (by omega), c6.1 _ (by omega), c5.2 t ht, c4.1 _ (by omega), c3.1 _ (by omega), c2.1 _ (by omega), c1 _ (by omega)]
    have q5 : ∀ t, t < 24 → f9 (k+5) t = f (o+5) t := fun t ht => by rw [c9.1 _ (by omega), c8.1 _ (by omega), c7.1 _ (by omega), c6.2 t ht, c5.1 _ (by omega), c4.1 _ (by omega), c3.1 _ (by omega), c2.1 _ (by omega), c1 _ (by omega)]
    have q6 : ∀ t, t < 24 → f9 (k+6) t = f (o+6) t := fun t ht => by rw [c9.1 _ (by omega), c8.1 _ (by omega), c7.2 t ht, c6.1 _ (by omega), c5.1 _ (by omega), c4.1 _ (by omega), c3.1 _ (by omega), c2.1 _ (by omega), c1 _ (by omega)]
    have q7 : ∀ t, t < 24 → f9 (k+7) t = f (o+7) t := fun t ht => by rw [c9.1 _ (by omega), c8.2 t ht, c7.1 _ (by omega), c6.1 _ (by omega), c5.1 _ (by omega), c4.1 _ (by omega), c3.1 _ (by omega), c2.1 _ (by omega), c1 _ (by omega)]
    have q8 : ∀ t, t < 24 → f9 (k+8) t = f (o+8) t := fun t ht => by rw [c9.2 t ht, c8.1 _ (by omega), c7.1 _ (by omega), c6.1 _ (by omega), c5.1 _ (by omega), c4.1 _ (by omega), c3.1 _ (by omega), c2.1 _ (by omega), c1 _ (by omega)]
    refine ⟨by rw [q0]; exact hc.1, fun t ht => by rw [q1 t ht]; exact hc.2.1 t ht, fun t ht => by rw [q2 t ht]; exact hc.2.2.1 t ht, fun t ht => by rw [q3 t ht]; exact hc.2.2.2.1 t ht, fun t ht hv => ?_⟩
    rw [q4 t ht, q5 t ht, q6 t ht, q7 t ht, q8 t ht]
    exact hc.2.2.2.2 t ht hv
def psN (n w : Nat) : Nat := if n = w then w else n + 1
def psG (n w : Nat) (gs : Nat → Nat → Int32) (g : Nat → Int32) : Nat → Nat → Int32 := fun j => if n = w then (if j = w - 1 then g else gs (j + 1)) else (if j = n then g else gs j)
theorem co_put16 {k w n : Nat} {f : hF} {gs : Nat → Nat → Int32} {g : Nat → Int32} (hk : 29 ≤ k) (hk2 : k + 2 + 9 * w < 1000000) (hn : n < w) (h : SHc k w f n gs) (hc : CB f 20 g) :
    ∃ f2, fX5_put_16 k w 20 f = some f2 ∧ (∀ j, ¬ (k ≤ j ∧ j < k + 2 + 9 * w) → f2 j = f j) ∧ SHc k w f2 (n + 1) (fun j => if j = n then g else gs j) := by
  obtain ⟨a1, nd, a2, a3, a4⟩ := h
  have b := a2 n hn
  obtain ⟨f1, c1, c2, c3⟩ := co_copy (f := f) (k := k + 2 + 9 * nd n) (o := 20) (Or.inl (by omega))
  refine ⟨st2 f1 k 1 (nI (n + 1)), ?_, fun j hj => ?_, ?_⟩
  · unfold fX5_put_16
    rw [oN w, a1, if_neg (nI_pos (by omega)), if_neg (show ¬ nI w ≤ nI n from fun z => by have := (nI_leI (by omega) (by omega)).mp z; omega), gdk hn (by omega), ncl (by omega), b.1, ckB_of b.2 hk2, c1, b1s, lte, c2 k (by omega), a1, show nI n + 1 = nI (n + 1) from nadd n 1]
  · rw [s2_n (by omega), c2 j (by omega)]
  · refine ⟨by rw [s2_s, u_s], nd, fun j hj => ?_, a3, fun j hj => ?_⟩
    · rw [s2_n (by omega), c2 (k + 1) (by omega)]; exact a2 j hj
    · by_cases e : j = n
      · simp only [e, if_true]
        exact CB_frame (fun t t1 t2 => s2_n (by omega)) (c3 g hc)
      · simp only [e, if_false]
        have hne : nd j ≠ nd n := fun q => e (a3 j n (by omega) hn q)
        refine CB_frame (fun t t1 t2 => ?_) (a4 j (by omega))
        rw [s2_n (by omega), c2 t (by omega)]
theorem do_loop {k w : Nat} {nd : Nat → Nat} (hw : 1 ≤ w) (hk2 : k + 2 + 9 * w < 1000000) (hnd : ∀ j, j < w → nd j < w) : ∀ (r i : Nat) (f : hF) (n : Nat), i + r = w → 1 ≤ i → r < n → (∀ j, j < w → f (k+1) j = nI (k + 2 + 9 * (if j + 1 < i then nd (j + 1) else nd j))) →
    ∃ f2, fX5_dropOldest_18 k w n f (k + 2 + 9 * nd 0) (nI i) = some f2 ∧ (∀ j, j ≠ k → j ≠ k + 1 → f2 j = f j) ∧ f2 k 1 = nI (w - 1) ∧ ∀ j, j < w → f2 (k+1) j = nI (k + 2 + 9 * (if j = w - 1 then nd 0 else nd (j + 1))) := by
  intro r
  induction r with
  | zero =>
    intro i f n hr hi hn ha
    obtain ⟨m, rfl⟩ : ∃ m, n = m + 1 := ⟨n - 1, by omega⟩
    obtain rfl : i = w := by omega
    refine ⟨st2 (st2 f (k+1) (i - 1) (nI (k + 2 + 9 * nd 0))) k 1 (nI (i - 1)), ?_, fun j j1 j2 => by rw [s2_n j1, s2_n j2], by rw [s2_s, u_s], fun j hj => ?_⟩
    · rw [fX5_dropOldest_18, oN i, if_pos (show nI i ≤ nI i from Int32.le_refl _), show nI i - 1 = nI (i - 1) from nsub (b := 1) hi, gdk (by omega) (by omega), lte, ncl (by omega), lte]
    · rw [s2_n (by omega), s2_s]
      by_cases e : j = i - 1
      · rw [e, u_s, if_pos rfl]
      · rw [u_n e, if_neg e, ha j hj, if_pos (by omega)]
  | succ r ih =>
    intro i f n hr hi hn ha
    obtain ⟨m, rfl⟩ : ∃ m, n = m + 1 := ⟨n - 1, by omega⟩
    have hv := ha i (by omega)
    rw [if_neg (by omega)] at hv
    obtain ⟨f2, b1', b2', b3, b4⟩ := ih (i + 1) (st2 f (k+1) (i - 1) (nI (k + 2 + 9 * nd i))) m (by omega) (by omega) (by omega) (fun j hj => by
      rw [s2_s]
      by_cases e : j = i - 1
      · rw [e, u_s, if_pos (by omega), show i - 1 + 1 = i by omega]
      · rw [u_n e, ha j hj]
        by_cases z : j + 1 < i
        · rw [if_pos z, if_pos (by omega)]
        · rw [if_neg z, if_neg (by omega)])
    refine ⟨f2, ?_, fun j j1 j2 => by rw [b2' j j1 j2, s2_n j2], b3, b4⟩
    rw [fX5_dropOldest_18, oN w, if_neg (show ¬ nI w ≤ nI i from fun z => by have := (nI_leI (by omega) (by omega)).mp z; omega), gdk (show i < w by omega) (by omega), ncl (by omega), hv, ckB_of (hnd i (by omega)) hk2, show nI i - 1 = nI (i - 1) from nsub (b := 1) hi, gdk (by omega) (by omega), lte, ncl (by omega), show nI i + 1 = nI (i + 1) from nadd i 1]
    exact b1'
theorem co_put {k w n : Nat} {f : hF} {gs : Nat → Nat → Int32} {g : Nat → Int32} (hk : 29 ≤ k) (hk2 : k + 2 + 9 * w < 1000000) (hw : 1 ≤ w) (hw2 : w ≤ 8) (hn : n ≤ w) (h : SHc k w f n gs) (hc : CB f 20 g) :
    ∃ f2, fX5_put k w 20 f = some f2 ∧ (∀ j, ¬ (k ≤ j ∧ j < k + 2 + 9 * w) → f2 j = f j) ∧ SHc k w f2 (psN n w) (psG n w gs g) := by
  unfold fX5_put psN psG
  by_cases e : n = w
  · subst e
    obtain ⟨a1, nd, a2, a3, a4⟩ := h
    obtain ⟨f1, c1, c2, c3, c4⟩ := do_loop (k := k) (w := n) (nd := nd) hw hk2 (fun j hj => (a2 j hj).2) (n - 1) 1 f FU (by omega) (by omega) (by unfold FU; omega) (fun j hj => by rw [if_neg (by omega)]; exact (a2 j hj).1)
    have hS : SHc k n f1 (n - 1) (fun j => gs (j + 1)) := by
      refine ⟨c3, fun j => if j = n - 1 then nd 0 else nd (j + 1), fun j hj => ⟨c4 j hj, ?_⟩, fun i j hi hj q => ?_, fun j hj => ?_⟩
      · by_cases z : j = n - 1
        · simp only [z, if_true]; exact (a2 0 (by omega)).2
        · simp only [z, if_false]; exact (a2 (j + 1) (by omega)).2
      · by_cases z : i = n - 1 <;> by_cases y : j = n - 1
        · omega
        · simp only [z, y, if_true, if_false] at q
          have := a3 0 (j + 1) (by omega) (by omega) q; omega
        · simp only [z, y, if_true, if_false] at q
          have := a3 (i + 1) 0 (by omega) (by omega) q; omega
        · simp only [z, y, if_false] at q
          have := a3 (i + 1) (j + 1) (by omega) (by omega) q; omega
      · have z : j ≠ n - 1 := by omega
        simp only [z, if_false]
        exact CB_frame (fun t t1 t2 => c2 t (by omega) (by omega)) (a4 (j + 1) (by omega))
    obtain ⟨f2, d1, d2, d3⟩ := co_put16 hk hk2 (show n - 1 < n by omega) hS (CB_frame (fun t t1 t2 => c2 t (by omega) (by omega)) hc)
    refine ⟨f2, ?_, fun j hj => by rw [d2 j hj, c2 j (by omega) (by omega)], ?_⟩
    · rw [a1, oN n, if_neg (show ¬ nI n < nI n from fun z => Nat.lt_irrefl n ((nI_ltI (by omega) (by omega)).mp z))]
      unfold fX5_dropOldest
      rw [oN n, if_neg (show ¬ nI n = 0 from fun z => by have := (nI_eq (b := 0) (by omega) (by omega)).mp z; omega), gd0 (by omega), cl0, (a2 0 (by omega)).1, ckB_of (a2 0 (by omega)).2 hk2]
      rw [show (1 : Int32) = nI 1 from rfl, c1, b1s, d1]
    · rw [if_pos rfl]
      simp only [if_true]
      rw [show n - 1 + 1 = n by omega] at d3
      exact d3
  · obtain ⟨f2, d1, d2, d3⟩ := co_put16 hk hk2 (show n < w by omega) h hc
    refine ⟨f2, ?_, d2, ?_⟩
    · rw [h.1, oN w, if_pos (show nI n < nI w from (nI_ltI (by omega) (by omega)).mpr (by omega)), d1]
    · rw [if_neg e]
      simp only [e, if_false]
      exact d3
/-- what the reference remembers -/
theorem cpf_in {f : hF} {a0 a2 u v c t : Nat} (h : t < c) : cpf f a0 a2 u v c (u + t) = f a2 (v + t) := by
  unfold cpf
  rw [if_pos (by omega), show v + (u + t - u) = v + t by omega]
theorem cpf_out {f : hF} {a0 a2 u v c t : Nat} (h : t < u ∨ u + c ≤ t) : cpf f a0 a2 u v c t = f a0 t := by
  unfold cpf
  rw [if_neg (by omega)]
theorem mo_rem49 {n : Nat} {f : hF} {gs : Nat → Nat → Int32} (hn : n < 8) (h : SHm 150 6 f n gs) (hz : ∀ i, 111 ≤ i → f 149 i = 0) :
    ∃ f2, fX8_remembers_49 f = some f2 ∧ (∀ j, j ≠ 146 → j ≠ 150 → f2 j = f j) ∧ (∀ i, i ≠ 6 → f2 146 i = f 146 i) ∧ SHm 150 6 f2 (n + 1) (fun j => if j = n then f 149 else gs j) := by
  have h1 := mo_copies (f := f) (a0 := 150) (n0 := 888) (a2 := 149) (n2 := 111) (u := 111 * n) (v := 0) (c := 111) (by decide) (by omega) (by decide) (by decide) (by decide)
  refine ⟨st2 (stA f 150 (cpf f 150 149 (111 * n) 0 111)) 146 6 (nI (n + 1)), ?_, fun j j1 j2 => by rw [s2_n j1, sA_n j2], fun i hi => by rw [s2_s, u_n hi, sA_n (by decide)], ?_, fun j hj => ?_⟩
  · unfold fX8_remembers_49
    rw [h.1, show (111 : Int32) * nI n = nI (111 * n) from nmul 111 n, show fX8_copies 150 888 149 111 f (nI (111 * n)) (0 : Int32) (111 : Int32) = _ from h1, b1s, lte, sA_n (by decide), h.1, show nI n + 1 = nI (n + 1) from nadd n 1]
  · rw [s2_s, u_s]
  · unfold row
    rw [s2_n (by decide), sA_s]
    by_cases e : j = n
    · simp only [e, if_true]
      funext t
      by_cases q : t < 111
      · rw [if_pos q, cpf_in q, Nat.zero_add]
      · rw [if_neg q, hz t (by omega)]
    · simp only [e, if_false]
      rw [← h.2 j (by omega)]
      unfold row
      funext t
      by_cases q : t < 111
      · rw [if_pos q, if_pos q, cpf_out (by omega)]
      · rw [if_neg q, if_neg q]
theorem rem_loop {f0 : hF} : ∀ (r i : Nat) (f : hF) (n : Nat), i + r = 777 → r < n → (∀ t, f 150 t = if t < i then f0 150 (t + 111) else f0 150 t) → (∀ j, j ≠ 150 → f j = f0 j) →
    ∃ f2, fX8_remembers_11 n f (nI i) = fX8_remembers_49 (st2 f2 146 6 (f2 146 6 - 1)) ∧ (∀ t, f2 150 t = if t < 777 then f0 150 (t + 111) else f0 150 t) ∧ ∀ j, j ≠ 150 → f2 j = f0 j := by
  intro r
  induction r with
  | zero =>
    intro i f n hr hn h1 h2
    obtain ⟨m, rfl⟩ : ∃ m, n = m + 1 := ⟨n - 1, by omega⟩
    obtain rfl : i = 777 := by omega
    refine ⟨f, ?_, h1, h2⟩
    rw [fX8_remembers_11, if_pos (by decide), lte]
  | succ r ih =>
    intro i f n hr hn h1 h2
    obtain ⟨m, rfl⟩ : ∃ m, n = m + 1 := ⟨n - 1, by omega⟩
    obtain ⟨f2, a1, a2, a3⟩ := ih (i + 1) (st2 f 150 i (f 150 (i + 111))) m (by omega) (by omega) (fun t => by
      rw [s2_s]
      by_cases e : t = i
      · rw [e, u_s, if_pos (by omega), h1, if_neg (by omega)]
      · rw [u_n e, h1]
        by_cases z : t < i
        · rw [if_pos z, if_pos (by omega)]
        · rw [if_neg z, if_neg (by omega)]) (fun j hj => by rw [s2_n hj, h2 j hj])
    refine ⟨f2, ?_, a2, a3⟩
    rw [fX8_remembers_11, if_neg (show ¬ (777 : Int32) ≤ nI i from fun z => by have := (nI_leI (a := 777) (by omega) (by omega)).mp z; omega), show nI i + 111 = nI (i + 111) from nadd i 111, gdk (by omega) (by omega), gdk (by omega) (by omega), lte, ncl (by omega), ncl (by omega), show nI i + 1 = nI (i + 1) from nadd i 1]
    exact a1
theorem mo_rem {n : Nat} {f : hF} {gs : Nat → Nat → Int32} (hn : n ≤ 8) (h : SHm 150 6 f n gs) (hz : ∀ i, 111 ≤ i → f 149 i = 0) :
    ∃ f2, fX8_remembers f = some f2 ∧ (∀ j, j ≠ 146 → j ≠ 150 → f2 j = f j) ∧ (∀ i, i ≠ 6 → f2 146 i = f 146 i) ∧ SHm 150 6 f2 (psN n 8) (psG n 8 gs (f 149)) := by
  unfold fX8_remembers psN psG
  rw [h.1]
  by_cases e : n = 8
  · subst e
    rw [if_pos (by decide), if_pos rfl]
    simp only [if_true]
    obtain ⟨f1, a1, a2, a3⟩ := rem_loop (f0 := f) 777 0 f FU (by omega) (by decide) (fun t => by rw [if_neg (by omega)]) (fun j _ => rfl)
    have hS : SHm 150 6 (st2 f1 146 6 (f1 146 6 - 1)) 7 (fun j => gs (j + 1)) := by
      refine ⟨by rw [s2_s, u_s, a3 146 (by decide), h.1]; rfl, fun j hj => ?_⟩
      show _ = gs (j + 1)
      rw [← h.2 (j + 1) (by omega)]
      unfold row
      funext t
      rw [s2_n (by decide)]
      by_cases q : t < 111
      · rw [if_pos q, if_pos q, a2, if_pos (by omega), show 111 * j + t + 111 = 111 * (j + 1) + t by omega]
      · rw [if_neg q, if_neg q]
    obtain ⟨f2, b1', b2', b3, b4⟩ := mo_rem49 (by decide) hS (fun i hi => by rw [s2_n (by decide), a3 149 (by decide)]; exact hz i hi)
    refine ⟨f2, ?_, fun j j1 j2 => by rw [b2' j j1 j2, s2_n j1, a3 j j2], fun i hi => by rw [b3 i hi, s2_s, u_n hi, a3 146 (by decide)], ?_⟩
    · rw [show (0 : Int32) = nI 0 from rfl, a1, b1']
    · rw [s2_n (by decide), a3 149 (by decide)] at b4
      exact b4
  · rw [if_neg (show ¬ nI n = (8 : Int32) from fun z => by have := (nI_eq (b := 8) (by omega) (by omega)).mp z; omega), if_neg e]
    simp only [e, if_false]
    exact mo_rem49 (by omega) h hz
