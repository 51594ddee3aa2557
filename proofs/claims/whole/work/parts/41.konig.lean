/-! Koenig's theorem for a relation on eight and eight, by deleting edges -/
def cn (l : List Nat) (p : Nat → Bool) : Nat := l.countP p
def r8 : List Nat := List.range 8
theorem r8_mem {x : Nat} : x ∈ r8 ↔ x < 8 := List.mem_range
theorem cn_or (l : List Nat) (p q : Nat → Bool) : cn l (fun x => p x || q x) + cn l (fun x => p x && q x) = cn l p + cn l q := by
  unfold cn
  induction l with
  | nil => rfl
  | cons a l ih =>
    simp only [List.countP_cons]
    cases hp : p a <;> cases hq : q a <;> simp <;> omega
theorem cn_le {l : List Nat} {p q : Nat → Bool} (h : ∀ x, x ∈ l → p x = true → q x = true) : cn l p ≤ cn l q := by
  unfold cn
  induction l with
  | nil => exact Nat.le_refl _
  | cons a l ih =>
    simp only [List.countP_cons]
    have h1 := ih (fun x hx => h x (List.mem_cons_of_mem _ hx))
    have h2 := h a List.mem_cons_self
    cases hp : p a with
    | false => simp; omega
    | true => rw [h2 hp]; simp; omega
theorem cn_eq {l : List Nat} {p q : Nat → Bool} (h : ∀ x, x ∈ l → p x = q x) : cn l p = cn l q :=
  Nat.le_antisymm (cn_le (fun x hx e => (h x hx).symm.trans e)) (cn_le (fun x hx e => (h x hx).trans e))
theorem cn_lt {α : Type} {l : List α} {p q : α → Bool} (h : ∀ x, x ∈ l → p x = true → q x = true) (hx : ∃ x, x ∈ l ∧ q x = true ∧ p x = false) : l.countP p < l.countP q := by
  induction l with
  | nil => obtain ⟨x, hx, -⟩ := hx; cases hx
  | cons a l ih =>
    simp only [List.countP_cons]
    have hle : l.countP p ≤ l.countP q := List.countP_mono_left (fun x hx => h x (List.mem_cons_of_mem _ hx))
    have h2 := h a List.mem_cons_self
    obtain ⟨x, hm, h3, h4⟩ := hx
    rcases List.mem_cons.mp hm with rfl | hm
    · rw [h3, h4]; simp; omega
    · have := ih (fun x hx => h x (List.mem_cons_of_mem _ hx)) ⟨x, hm, h3, h4⟩
      cases hp : p a with
      | false => simp; omega
      | true => rw [h2 hp]; simp; omega
theorem cn_one {m : Nat} (hm : m < 8) : cn r8 (fun x => x == m) = 1 := by
  have : ∀ m, m < 8 → cn r8 (fun x => x == m) = 1 := by decide +kernel
  exact this m hm
theorem cn_none {l : List Nat} {p : Nat → Bool} (h : ∀ x, x ∈ l → p x = false) : cn l p = 0 := by
  unfold cn
  exact List.countP_eq_zero.mpr (fun x hx => by rw [h x hx]; decide)
theorem cn_add {p : Nat → Bool} {m : Nat} (hm : m < 8) (hp : p m = false) : cn r8 (fun x => p x || x == m) = cn r8 p + 1 := by
  have h := cn_or r8 p (fun x => x == m)
  rw [cn_one hm, cn_none (p := fun x => p x && x == m)] at h
  · exact h
  · intro x _
    by_cases e : x = m
    · subst e; rw [hp]; rfl
    · simp [e]
/-- the neighbours of a set -/
def nb (E : Nat → Nat → Bool) (S : Nat → Bool) (w : Nat) : Bool := r8.any (fun m => S m && E m w)
theorem nb_iff {E : Nat → Nat → Bool} {S : Nat → Bool} {w : Nat} : nb E S w = true ↔ ∃ m, m < 8 ∧ S m = true ∧ E m w = true := by
  unfold nb
  rw [List.any_eq_true]
  constructor
  · rintro ⟨m, h1, h2⟩
    simp only [Bool.and_eq_true] at h2
    exact ⟨m, r8_mem.mp h1, h2.1, h2.2⟩
  · rintro ⟨m, h1, h2, h3⟩
    exact ⟨m, r8_mem.mpr h1, by rw [h2, h3]; rfl⟩
def Mat (E : Nat → Nat → Bool) (M : List (Nat × Nat)) : Prop := (∀ p ∈ M, p.1 < 8 ∧ p.2 < 8 ∧ E p.1 p.2 = true) ∧ M.Pairwise (fun p q => p.1 ≠ q.1 ∧ p.2 ≠ q.2)
theorem Mat_mono {E F : Nat → Nat → Bool} {M : List (Nat × Nat)} (h : ∀ m w, E m w = true → F m w = true) (hM : Mat E M) : Mat F M :=
  ⟨fun p hp => ⟨(hM.1 p hp).1, (hM.1 p hp).2.1, h _ _ (hM.1 p hp).2.2⟩, hM.2⟩
def pr8 : List (Nat × Nat) := r8.flatMap (fun m => r8.map (fun w => (m, w)))
theorem pr8_mem {m w : Nat} (hm : m < 8) (hw : w < 8) : (m, w) ∈ pr8 := List.mem_flatMap.mpr ⟨m, r8_mem.mpr hm, List.mem_map.mpr ⟨w, r8_mem.mpr hw, rfl⟩⟩
def eE (E : Nat → Nat → Bool) : Nat := pr8.countP (fun p => E p.1 p.2)
def del (E : Nat → Nat → Bool) (m w : Nat) : Nat → Nat → Bool := fun a b => E a b && !(a == m && b == w)
theorem del_le {E : Nat → Nat → Bool} {m w a b : Nat} (h : del E m w a b = true) : E a b = true := by
  unfold del at h
  simp only [Bool.and_eq_true] at h
  exact h.1
theorem del_in {E : Nat → Nat → Bool} {m w a b : Nat} (h : E a b = true) (hn : ¬ (a = m ∧ b = w)) : del E m w a b = true := by
  unfold del
  rw [h]
  by_cases h1 : a = m
  · by_cases h2 : b = w
    · exact absurd ⟨h1, h2⟩ hn
    · simp [h2]
  · simp [h1]
theorem del_lt {E : Nat → Nat → Bool} {m w : Nat} (hm : m < 8) (hw : w < 8) (h : E m w = true) : eE (del E m w) < eE E := by
  refine cn_lt (fun x _ hx => del_le hx) ⟨(m, w), pr8_mem hm hw, h, ?_⟩
  simp [del]
theorem konig_step {E : Nat → Nat → Bool} {m w1 w2 : Nat} (hm : m < 8) (h1 : w1 < 8) (h2 : w2 < 8) (hne : w1 ≠ w2) (e1 : E m w1 = true) (e2 : E m w2 = true)
    (k1 : ∃ (S : Nat → Bool) (M : List (Nat × Nat)), Mat (del E m w1) M ∧ cn r8 (fun x => !S x) + cn r8 (nb (del E m w1) S) ≤ M.length)
    (k2 : ∃ (S : Nat → Bool) (M : List (Nat × Nat)), Mat (del E m w2) M ∧ cn r8 (fun x => !S x) + cn r8 (nb (del E m w2) S) ≤ M.length) :
    ∃ (S : Nat → Bool) (M : List (Nat × Nat)), Mat E M ∧ cn r8 (fun x => !S x) + cn r8 (nb E S) ≤ M.length := by
  obtain ⟨S1, M1, hM1, c1⟩ := k1
  obtain ⟨S2, M2, hM2, c2⟩ := k2
  have hM1' : Mat E M1 := Mat_mono (fun _ _ => del_le) hM1
  have hM2' : Mat E M2 := Mat_mono (fun _ _ => del_le) hM2
  by_cases s1 : S1 m = true
  · by_cases s2 : S2 m = true
    · -- both hold m
      have hU : cn r8 (nb E (fun x => S1 x || S2 x)) ≤ cn r8 (fun x => nb (del E m w1) S1 x || nb (del E m w2) S2 x) := by
        refine cn_le (fun w hw h => ?_)
        obtain ⟨x, hx, hs, he⟩ := nb_iff.mp h
        rw [Bool.or_eq_true] at hs ⊢
        rcases hs with hs | hs
        · by_cases q : x = m ∧ w = w1
          · right
            exact nb_iff.mpr ⟨m, hm, s2, del_in (by rw [← q.1]; exact he) (fun z => hne (q.2.symm.trans z.2))⟩
          · left
            exact nb_iff.mpr ⟨x, hx, hs, del_in he q⟩
        · by_cases q : x = m ∧ w = w2
          · left
            exact nb_iff.mpr ⟨m, hm, s1, del_in (by rw [← q.1]; exact he) (fun z => hne (z.2.symm.trans q.2))⟩
          · right
            exact nb_iff.mpr ⟨x, hx, hs, del_in he q⟩
      have hI : cn r8 (nb E (fun x => (S1 x && S2 x) && !(x == m))) ≤ cn r8 (fun x => nb (del E m w1) S1 x && nb (del E m w2) S2 x) := by
        refine cn_le (fun w hw h => ?_)
        obtain ⟨x, hx, hs, he⟩ := nb_iff.mp h
        simp only [Bool.and_eq_true, Bool.not_eq_true', beq_eq_false_iff_ne, ne_eq] at hs
        rw [Bool.and_eq_true]
        exact ⟨nb_iff.mpr ⟨x, hx, hs.1.1, del_in he (fun z => hs.2 z.1)⟩, nb_iff.mpr ⟨x, hx, hs.1.2, del_in he (fun z => hs.2 z.1)⟩⟩
      have hO := cn_or r8 (nb (del E m w1) S1) (nb (del E m w2) S2)
      have hN := cn_or r8 (fun x => !S1 x) (fun x => !S2 x)
      have hNU : cn r8 (fun x => !(S1 x || S2 x)) = cn r8 (fun x => !S1 x && !S2 x) := cn_eq (fun x _ => by cases S1 x <;> cases S2 x <;> rfl)
      have hNI : cn r8 (fun x => !((S1 x && S2 x) && !(x == m))) = cn r8 (fun x => !S1 x || !S2 x) + 1 := by
        rw [← cn_add (p := fun x => !S1 x || !S2 x) hm (by simp [s1, s2])]
        exact cn_eq (fun x _ => by cases S1 x <;> cases S2 x <;> cases (x == m) <;> rfl)
      rcases Nat.le_total M1.length M2.length with q | q
      · by_cases z : cn r8 (fun x => !(S1 x || S2 x)) + cn r8 (nb E (fun x => S1 x || S2 x)) ≤ M2.length
        · exact ⟨_, M2, hM2', z⟩
        · exact ⟨fun x => (S1 x && S2 x) && !(x == m), M2, hM2', by show cn r8 (fun x => !((S1 x && S2 x) && !(x == m))) + _ ≤ _; omega⟩
      · by_cases z : cn r8 (fun x => !(S1 x || S2 x)) + cn r8 (nb E (fun x => S1 x || S2 x)) ≤ M1.length
        · exact ⟨_, M1, hM1', z⟩
        · exact ⟨fun x => (S1 x && S2 x) && !(x == m), M1, hM1', by show cn r8 (fun x => !((S1 x && S2 x) && !(x == m))) + _ ≤ _; omega⟩
    · refine ⟨S2, M2, hM2', Nat.le_trans (Nat.add_le_add_left (cn_le (fun w hw h => ?_)) _) c2⟩
      obtain ⟨x, hx, hs, he⟩ := nb_iff.mp h
      exact nb_iff.mpr ⟨x, hx, hs, del_in he (fun z => s2 (by rw [← z.1]; exact hs))⟩
  · refine ⟨S1, M1, hM1', Nat.le_trans (Nat.add_le_add_left (cn_le (fun w hw h => ?_)) _) c1⟩
    obtain ⟨x, hx, hs, he⟩ := nb_iff.mp h
    exact nb_iff.mpr ⟨x, hx, hs, del_in he (fun z => s1 (by rw [← z.1]; exact hs))⟩
theorem konig_base {E : Nat → Nat → Bool} (h : ∀ m w1 w2, m < 8 → w1 < 8 → w2 < 8 → E m w1 = true → E m w2 = true → w1 = w2) :
    ∀ l : List Nat, (∀ w ∈ l, w < 8) → l.Pairwise (fun a b => a ≠ b) → ∃ M : List (Nat × Nat), Mat E M ∧ M.length = cn l (nb E (fun _ => true)) ∧ ∀ p ∈ M, p.2 ∈ l := by
  intro l
  induction l with
  | nil => exact fun _ _ => ⟨[], ⟨fun p hp => absurd hp List.not_mem_nil, List.Pairwise.nil⟩, rfl, fun p hp => absurd hp List.not_mem_nil⟩
  | cons w l ih =>
    intro hl hp
    rw [List.pairwise_cons] at hp
    obtain ⟨M, hM, hlen, hin⟩ := ih (fun x hx => hl x (List.mem_cons_of_mem _ hx)) hp.2
    cases hn : nb E (fun _ => true) w with
    | false =>
      refine ⟨M, hM, ?_, fun p hp => List.mem_cons_of_mem _ (hin p hp)⟩
      rw [hlen]
      simp [cn, hn]
    | true =>
      obtain ⟨m, hm, -, he⟩ := nb_iff.mp hn
      have hw := hl w List.mem_cons_self
      refine ⟨(m, w) :: M, ⟨fun p hp2 => ?_, List.pairwise_cons.mpr ⟨fun p hp2 => ?_, hM.2⟩⟩, ?_, fun p hp2 => ?_⟩
      · rcases List.mem_cons.mp hp2 with rfl | hp2
        · exact ⟨hm, hw, he⟩
        · exact hM.1 p hp2
      · have hpw : w ≠ p.2 := hp.1 p.2 (hin p hp2)
        refine ⟨fun e => hpw ?_, hpw⟩
        have h3 := hM.1 p hp2
        have e' : m = p.1 := e
        exact h m w p.2 hm hw h3.2.1 he (by rw [e']; exact h3.2.2)
      · rw [List.length_cons, hlen]
        simp [cn, hn]
      · rcases List.mem_cons.mp hp2 with rfl | hp2
        · exact List.mem_cons_self
        · exact List.mem_cons_of_mem _ (hin p hp2)
theorem konig (n : Nat) : ∀ E : Nat → Nat → Bool, eE E < n → ∃ (S : Nat → Bool) (M : List (Nat × Nat)), Mat E M ∧ cn r8 (fun x => !S x) + cn r8 (nb E S) ≤ M.length := by
  induction n with
  | zero => exact fun E h => absurd h (Nat.not_lt_zero _)
  | succ n ih =>
    intro E hE
    by_cases hc : ∃ m w1 w2, m < 8 ∧ w1 < 8 ∧ w2 < 8 ∧ E m w1 = true ∧ E m w2 = true ∧ w1 ≠ w2
    · obtain ⟨m, w1, w2, hm, h1, h2, e1, e2, hne⟩ := hc
      have d1 := del_lt hm h1 e1
      have d2 := del_lt hm h2 e2
      exact konig_step hm h1 h2 hne e1 e2 (ih _ (by omega)) (ih _ (by omega))
    · obtain ⟨M, hM, hlen, -⟩ := konig_base (E := E) (fun m w1 w2 hm h1 h2 e1 e2 => Classical.byContradiction (fun q => hc ⟨m, w1, w2, hm, h1, h2, e1, e2, q⟩)) r8 (fun w hw => r8_mem.mp hw) (by decide)
      refine ⟨fun _ => true, M, hM, ?_⟩
      rw [hlen, cn_none (p := fun x => !(fun _ => true) x) (fun x _ => rfl)]
      omega
