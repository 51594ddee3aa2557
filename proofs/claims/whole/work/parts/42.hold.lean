/-! which lines hold: by what they are, once and for all -/
/-- t is gone through ahead of s -/
def prec (bg : Nat → Nat) (t s : Nat) : Prop := bg t < bg s ∨ (bg t = bg s ∧ t < s)
/-- somebody is in both -/
def shr (mn wn : Nat → Nat) (t s : Nat) : Prop := mn t = mn s ∨ wn t = wn s
/-- h is right: of the lines of two one holds if nobody of it is in one that holds ahead of it -/
def HS (tw : Nat → Bool) (bg mn wn : Nat → Nat) (h : Nat → Bool) : Prop :=
  ∀ s, s < 24 → (h s = true ↔ tw s = true ∧ ∀ t, t < 24 → prec bg t s → h t = true → ¬ shr mn wn t s)
theorem HS_uniq {tw : Nat → Bool} {bg mn wn : Nat → Nat} {h g : Nat → Bool} (hh : HS tw bg mn wn h) (hg : HS tw bg mn wn g) : ∀ s, s < 24 → h s = g s := by
  have key : ∀ n s, s < 24 → bg s * 24 + s < n → h s = g s := by
    intro n
    induction n with
    | zero => intro s _ h0; exact absurd h0 (Nat.not_lt_zero _)
    | succ n ih =>
      intro s hs hn
      have e : ∀ t, t < 24 → prec bg t s → h t = g t := by
        intro t ht hp
        refine ih t ht ?_
        rcases hp with q | ⟨q1, q2⟩ <;> omega
      have h1 := hh s hs
      have h2 := hg s hs
      have h3 : h s = true ↔ g s = true := by
        rw [h1, h2]
        constructor
        · rintro ⟨a, b⟩
          exact ⟨a, fun t ht hp hgt => b t ht hp ((e t ht hp).trans hgt)⟩
        · rintro ⟨a, b⟩
          exact ⟨a, fun t ht hp hht => b t ht hp ((e t ht hp).symm.trans hht)⟩
      cases hc : h s <;> cases gc : g s <;> simp_all
  intro s hs
  exact key _ s hs (Nat.lt_succ_self _)
theorem prec_irr {bg : Nat → Nat} {s : Nat} : ¬ prec bg s s := by
  rintro (q | ⟨-, q⟩) <;> omega
theorem prec_trans {bg : Nat → Nat} {a b c : Nat} (h1 : prec bg a b) (h2 : prec bg b c) : prec bg a c := by
  rcases h1 with q | ⟨q, q2⟩ <;> rcases h2 with r | ⟨r, r2⟩
  · exact Or.inl (by omega)
  · exact Or.inl (by omega)
  · exact Or.inl (by omega)
  · exact Or.inr (by omega)
theorem prec_tot {bg : Nat → Nat} {a b : Nat} (h : a ≠ b) : prec bg a b ∨ prec bg b a := by
  unfold prec
  omega
/-- going through: L is what has been gone through, closed under what is ahead; h is right on it, and false beyond -/
def HSon (tw : Nat → Bool) (bg mn wn : Nat → Nat) (L h : Nat → Bool) : Prop :=
  (∀ s t, s < 24 → t < 24 → L s = true → tw t = true → prec bg t s → L t = true) ∧ (∀ s, s < 24 → h s = true → L s = true ∧ tw s = true) ∧
  ∀ s, s < 24 → L s = true → (h s = true ↔ tw s = true ∧ ∀ t, t < 24 → prec bg t s → h t = true → ¬ shr mn wn t s)
theorem HSon_0 {tw : Nat → Bool} {bg mn wn : Nat → Nat} : HSon tw bg mn wn (fun _ => false) (fun _ => false) :=
  ⟨fun s t _ _ h => (by cases h), fun s _ h => (by cases h), fun s _ h => (by cases h)⟩
theorem HSon_all {tw : Nat → Bool} {bg mn wn : Nat → Nat} {L h : Nat → Bool} (hh : HSon tw bg mn wn L h) (hL : ∀ s, s < 24 → tw s = true → L s = true) : HS tw bg mn wn h := by
  intro s hs
  constructor
  · intro h1
    exact (hh.2.2 s hs (hh.2.1 s hs h1).1).mp h1
  · intro h1
    exact (hh.2.2 s hs (hL s hs h1.1)).mpr h1
/-- the next one: k is the first of what is left -/
theorem HSon_next {tw : Nat → Bool} {bg mn wn : Nat → Nat} {L h : Nat → Bool} {k : Nat} {v : Bool} (hh : HSon tw bg mn wn L h) (hk : k < 24) (hkL : L k = false) (htw : tw k = true)
    (hmin : ∀ t, t < 24 → tw t = true → prec bg t k → L t = true) (hv : v = true ↔ ∀ t, t < 24 → h t = true → ¬ shr mn wn t k) :
    HSon tw bg mn wn (fun s => if s = k then true else L s) (fun s => if s = k then v else h s) := by
  have hkh : h k = false := by
    cases hc : h k with
    | false => rfl
    | true => rw [(hh.2.1 k hk hc).1] at hkL; cases hkL
  refine ⟨fun s t hs ht hLs htt hp => ?_, fun s hs h1 => ?_, fun s hs hLs => ?_⟩
  · by_cases e : t = k
    · simp [e]
    · simp only [e, if_false]
      by_cases e2 : s = k
      · subst e2; exact hmin t ht htt hp
      · simp only [e2, if_false] at hLs
        exact hh.1 s t hs ht hLs htt hp
  · by_cases e : s = k
    · subst e; simp [htw]
    · simp only [e, if_false] at h1 ⊢
      exact hh.2.1 s hs h1
  · by_cases e : s = k
    · subst e
      simp only [if_true]
      rw [hv]
      constructor
      · intro h1
        refine ⟨htw, fun t ht hp hht => ?_⟩
        by_cases e2 : t = s
        · subst e2; exact absurd hp prec_irr
        · simp only [e2, if_false] at hht
          exact h1 t ht hht
      · rintro ⟨-, h1⟩ t ht hht
        have e2 : t ≠ s := fun q => by rw [q, hkh] at hht; cases hht
        rcases prec_tot (bg := bg) e2 with hp | hp
        · exact h1 t ht hp (by simp only [e2, if_false]; exact hht)
        · have q := hh.1 t s ht hk (hh.2.1 t ht hht).1 htw hp
          rw [q] at hkL; cases hkL
    · simp only [e, if_false] at hLs ⊢
      rw [hh.2.2 s hs hLs]
      constructor
      · rintro ⟨a, b⟩
        refine ⟨a, fun t ht hp hht => ?_⟩
        by_cases e2 : t = k
        · subst e2
          have q := hh.1 s t hs hk hLs htw hp
          rw [q] at hkL; cases hkL
        · simp only [e2, if_false] at hht
          exact b t ht hp hht
      · rintro ⟨a, b⟩
        refine ⟨a, fun t ht hp hht => ?_⟩
        have e2 : t ≠ k := fun q => by rw [q, hkh] at hht; cases hht
        exact b t ht hp (by simp only [e2, if_false]; exact hht)
/-- of the lines that hold no two have anybody in common -/
theorem HS_apart {tw : Nat → Bool} {bg mn wn : Nat → Nat} {h : Nat → Bool} (hh : HS tw bg mn wn h) {s t : Nat} (hs : s < 24) (ht : t < 24) (h1 : h s = true) (h2 : h t = true) (hne : s ≠ t) : ¬ shr mn wn s t := by
  rcases prec_tot (bg := bg) hne with hp | hp
  · exact ((hh t ht).mp h2).2 s hs hp h1
  · intro q
    refine ((hh s hs).mp h1).2 t ht hp h2 ?_
    rcases q with q | q
    · exact Or.inl q.symm
    · exact Or.inr q.symm
/-- a line not of two may be left out of sight; more: equal data, equal answer -/
theorem HS_congr {tw tw' : Nat → Bool} {bg bg' mn mn' wn wn' : Nat → Nat} {h : Nat → Bool} (e1 : ∀ s, s < 24 → tw s = tw' s) (e2 : ∀ s, s < 24 → tw s = true → bg s = bg' s ∧ mn s = mn' s ∧ wn s = wn' s) (hh : HS tw bg mn wn h) : HS tw' bg' mn' wn' h := by
  have htw : ∀ s, s < 24 → h s = true → tw s = true := fun s hs q => ((hh s hs).mp q).1
  intro s hs
  rw [hh s hs, ← e1 s hs]
  constructor
  · rintro ⟨a, b⟩
    refine ⟨a, fun t ht hp hht => ?_⟩
    obtain ⟨p1, p2, p3⟩ := e2 s hs a
    obtain ⟨q1, q2, q3⟩ := e2 t ht (htw t ht hht)
    have := b t ht (by unfold prec at hp ⊢; omega) hht
    unfold shr at this ⊢
    omega
  · rintro ⟨a, b⟩
    refine ⟨a, fun t ht hp hht => ?_⟩
    obtain ⟨p1, p2, p3⟩ := e2 s hs a
    obtain ⟨q1, q2, q3⟩ := e2 t ht (htw t ht hht)
    have := b t ht (by unfold prec at hp ⊢; omega) hht
    unfold shr at this ⊢
    omega
