/-! copying a stretch of one array into another; mate asked of both -/
def cpf (f : hF) (a0 a2 u v i : Nat) : Nat → Int32 := fun t => if u ≤ t ∧ t < u + i then f a2 (v + (t - u)) else f a0 t
theorem cp_loop {f : hF} {a0 n0 a2 n2 u v c : Nat} (hne : a2 ≠ a0) (h0 : u + c ≤ n0) (h2 : v + c ≤ n2) (hn0 : n0 < 1000) (hn2 : n2 < 1000) : ∀ (r i n : Nat), i + r = c → r < n →
    fX8_copies_3 a0 n0 a2 n2 (nI u) (nI v) (nI c) n (stA f a0 (cpf f a0 a2 u v i)) (nI i) = some (stA f a0 (cpf f a0 a2 u v c)) := by
  intro r
  induction r with
  | zero =>
    intro i n hr hn
    obtain ⟨m, rfl⟩ : ∃ m, n = m + 1 := ⟨n - 1, by omega⟩
    obtain rfl : i = c := by omega
    rw [fX8_copies_3, if_pos ((nI_leI (by omega) (by omega)).mpr (Nat.le_refl _))]
  | succ r ih =>
    intro i n hr hn
    obtain ⟨m, rfl⟩ : ∃ m, n = m + 1 := ⟨n - 1, by omega⟩
    rw [fX8_copies_3, if_neg (fun z => by have := (nI_leI (by omega) (by omega)).mp z; omega), nadd, nadd, gdk (show v + i < n2 by omega) (by omega), gdk (show u + i < n0 by omega) (by omega), lte, ncl (by omega), ncl (by omega), show nI i + 1 = nI (i + 1) from nadd i 1, sA_n hne]
    rw [s2_sA, show upd (cpf f a0 a2 u v i) (u + i) (f a2 (v + i)) = cpf f a0 a2 u v (i + 1) from ?_]
    · exact ih (i + 1) m (by omega) (by omega)
    · funext t
      unfold upd cpf
      by_cases e : t = u + i
      · subst e
        rw [if_pos rfl, if_pos (by omega), show v + (u + i - u) = v + i by omega]
      · rw [if_neg e]
        by_cases q : u ≤ t ∧ t < u + i
        · rw [if_pos q, if_pos (by omega)]
        · rw [if_neg q, if_neg (by omega)]
theorem mo_copies {f : hF} {a0 n0 a2 n2 u v c : Nat} (hne : a2 ≠ a0) (h0 : u + c ≤ n0) (h2 : v + c ≤ n2) (hn0 : n0 < 1000) (hn2 : n2 < 1000) : fX8_copies a0 n0 a2 n2 f (nI u) (nI v) (nI c) = some (stA f a0 (cpf f a0 a2 u v c)) := by
  have e : stA f a0 (cpf f a0 a2 u v 0) = f := by
    have : cpf f a0 a2 u v 0 = f a0 := by
      funext t
      unfold cpf
      rw [if_neg (by omega)]
    rw [this, sA_self]
  have h := cp_loop (f := f) hne h0 h2 hn0 hn2 c 0 FU (by omega) (by unfold FU; omega)
  rw [e] at h
  exact h
theorem mo_asItIs (f : hF) : ∃ g, fX8_asItIs f = some g ∧ (∀ j, j ≠ 158 → g j = f j) ∧ ∀ i, i < 111 → g 158 i = f 149 i := by
  unfold fX8_asItIs
  have h := mo_copies (f := f) (a0 := 158) (n0 := 111) (a2 := 149) (n2 := 111) (u := 0) (v := 0) (c := 111) (by decide) (by decide) (by decide) (by decide) (by decide)
  refine ⟨stA f 158 (cpf f 158 149 0 0 111), ?_, fun j hj => sA_n hj, fun i hi => ?_⟩
  · rw [show fX8_copies 158 111 149 111 f (0 : Int32) (0 : Int32) (111 : Int32) = some (stA f 158 (cpf f 158 149 0 0 111)) from h]
    rfl
  · rw [sA_s]
    unfold cpf
    rw [if_pos (by omega), show 0 + (i - 0) = i by omega]
/-- two books alike in their 111 numbers -/
theorem VB_eq {P T : Nat} {fm : Nat → Bool} {g g' : Nat → Int32} (e : ∀ i, i < 111 → g' i = g i) (h : VB P T fm g) : VB P T fm g' := by
  have el : ∀ p, p < 3 → vln g' p = vln g p := fun p hp => by unfold vln; rw [e _ (by omega)]
  have et : ∀ s, s < 24 → vth g' s = vth g s := fun s hs => by unfold vth; rw [el _ (by omega)]
  refine ⟨by rw [e 0 (by omega)]; exact h.1, fun p hp => by rw [e _ (by omega)]; exact h.2.1 p hp, fun s hs hv => ?_, fun s t hs ht h1 h2 hv => ?_⟩
  · rw [et s hs] at hv
    rw [e 0 (by omega), e (15 + 4 * s) (by omega), e (16 + 4 * s) (by omega), e (17 + 4 * s) (by omega), e (18 + 4 * s) (by omega)]
    exact h.2.2.1 s hs hv
  · rw [et t ht] at hv
    unfold vbg
    rw [e _ (by omega), e _ (by omega)]
    exact h.2.2.2 s t hs ht h1 h2 hv
theorem CB_eq {f : hF} {bk : Nat} {g g' : Nat → Int32} (e : ∀ i, i < 111 → g' i = g i) (h : CB f bk g) : CB f bk g' := by
  have el : ∀ p, p < 3 → vln g' p = vln g p := fun p hp => by unfold vln; rw [e _ (by omega)]
  have et : ∀ s, s < 24 → vth g' s = vth g s := fun s hs => by unfold vth; rw [el _ (by omega)]
  refine ⟨by rw [e 0 (by omega)]; exact h.1, fun p hp => by rw [e _ (by omega)]; exact h.2.1 p hp, fun p hp => by rw [e _ (by omega)]; exact h.2.2.1 p hp, fun p hp => by rw [e _ (by omega)]; exact h.2.2.2.1 p hp, fun s hs hv => ?_⟩
  rw [et s hs] at hv
  rw [e (15 + 4 * s) (by omega), e (16 + 4 * s) (by omega), e (17 + 4 * s) (by omega), e (18 + 4 * s) (by omega)]
  exact h.2.2.2.2 s hs hv
