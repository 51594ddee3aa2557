/-! letters, numbers of a text: by both -/
theorem nrc_all : ∀ c, c < 127 → narrow .char (.int (nI c)) = .int (nI c) := by decide +kernel
theorem nrc {α : Type} {c : Nat} {k : Option α} (h : c < 127) : nr .char (nI c) k = k := if_pos (nrc_all c h)
def TC (n : Nat) (L : Nat → Nat) (f : hF) : Prop := f 1 1 = nI n ∧ ∀ i, i < n → f 2 i = nI (L i)
def TM (n : Nat) (L : Nat → Nat) (f : hF) : Prop := f 146 13 = nI n ∧ ∀ i, i < n → f 153 i = nI (L i)
def TL (n : Nat) (L : Nat → Nat) : Prop := n ≤ 200 ∧ ∀ i, i < n → 32 ≤ L i ∧ L i ≤ 126
def fig (n : Nat) (L : Nat → Nat) (i : Nat) : Bool := decide (i < n ∧ 48 ≤ L i ∧ L i ≤ 57)
def chq (n : Nat) (L : Nat → Nat) (i c : Nat) : Bool := decide (i < n ∧ L i = c)
theorem co_at {n : Nat} {L : Nat → Nat} {f : hF} (hL : TL n L) (h : TC n L f) {i : Nat} (hi : i < 1000) : fX4_at 1 f (nI i) = some (if i < n then nI (L i) else 0) := by
  unfold fX4_at
  rw [if_neg (nI_pos (by omega)), h.1]
  have := hL.1
  by_cases q : i < n
  · rw [if_neg (fun z => by have := (nI_leI (by omega) (by omega)).mp z; omega), if_neg (show ¬ (200 : Int32) ≤ nI i from fun z => by have := (nI_leI (a := 200) (by omega) (by omega)).mp z; omega), gdk (show i < 200 by omega) (by omega), ncl (by omega), h.2 i q, nrc (by have := (hL.2 i q).2; omega), if_pos q]
  · rw [if_pos ((nI_leI (by omega) (by omega)).mpr (by omega)), if_neg q]
theorem mo_at {n : Nat} {L : Nat → Nat} {f : hF} (hL : TL n L) (h : TM n L f) {i : Nat} (hi : i < 1000) : fX8_letterAt f (nI i) = some (if i < n then nI (L i) else -1) := by
  unfold fX8_letterAt
  rw [h.1]
  have := hL.1
  by_cases q : i < n
  · rw [if_neg (fun z => by have := (nI_leI (by omega) (by omega)).mp z; omega), gdk (show i < 200 by omega) (by omega), ncl (by omega), h.2 i q, if_pos q]
  · rw [if_pos ((nI_leI (by omega) (by omega)).mpr (by omega)), if_neg q]
theorem fig48 {c : Nat} (h : c < 1000) : fX3_isFigure (nI c) = some (bI (decide (48 ≤ c ∧ c ≤ 57))) := by
  unfold fX3_isFigure
  by_cases a : c < 48
  · rw [if_pos (show nI c < (48 : Int32) from (nI_ltI (b := 48) (by omega) (by omega)).mpr a), decide_eq_false (by omega)]; rfl
  · rw [if_neg (show ¬ nI c < (48 : Int32) from fun z => a ((nI_ltI (b := 48) (by omega) (by omega)).mp z))]
    by_cases b : 57 < c
    · rw [if_pos (show (57 : Int32) < nI c from (nI_ltI (a := 57) (by omega) (by omega)).mpr b), decide_eq_false (by omega)]; rfl
    · rw [if_neg (show ¬ (57 : Int32) < nI c from fun z => b ((nI_ltI (a := 57) (by omega) (by omega)).mp z)), decide_eq_true (by omega)]; rfl
theorem fig48m {c : Nat} (h : c < 1000) : fX8_isFigure (nI c) = some (bI (decide (48 ≤ c ∧ c ≤ 57))) := by
  unfold fX8_isFigure fX8_in
  by_cases a : c < 48
  · rw [if_pos (show nI c < (48 : Int32) from (nI_ltI (b := 48) (by omega) (by omega)).mpr a), decide_eq_false (by omega)]; rfl
  · rw [if_neg (show ¬ nI c < (48 : Int32) from fun z => a ((nI_ltI (b := 48) (by omega) (by omega)).mp z))]
    by_cases b : 57 < c
    · rw [if_pos (show (57 : Int32) < nI c from (nI_ltI (a := 57) (by omega) (by omega)).mpr b), decide_eq_false (by omega)]; rfl
    · rw [if_neg (show ¬ (57 : Int32) < nI c from fun z => b ((nI_ltI (a := 57) (by omega) (by omega)).mp z)), decide_eq_true (by omega)]; rfl
theorem co_fig {n : Nat} {L : Nat → Nat} (hL : TL n L) (i : Nat) : fX3_isFigure (if i < n then nI (L i) else 0) = some (bI (fig n L i)) := by
  unfold fig
  by_cases q : i < n
  · rw [if_pos q, fig48 (by have := (hL.2 i q).2; omega)]
    by_cases z : 48 ≤ L i ∧ L i ≤ 57
    · rw [decide_eq_true z, decide_eq_true ⟨q, z⟩]
    · rw [decide_eq_false z, decide_eq_false (fun y => z y.2)]
  · rw [if_neg q, decide_eq_false (fun y => q y.1)]; rfl
theorem mo_fig {n : Nat} {L : Nat → Nat} (hL : TL n L) (i : Nat) : fX8_isFigure (if i < n then nI (L i) else -1) = some (bI (fig n L i)) := by
  unfold fig
  by_cases q : i < n
  · rw [if_pos q, fig48m (by have := (hL.2 i q).2; omega)]
    by_cases z : 48 ≤ L i ∧ L i ≤ 57
    · rw [decide_eq_true z, decide_eq_true ⟨q, z⟩]
    · rw [decide_eq_false z, decide_eq_false (fun y => z y.2)]
  · rw [if_neg q, decide_eq_false (fun y => q y.1)]; rfl
theorem fig_t {n : Nat} {L : Nat → Nat} {i : Nat} (h : fig n L i = true) : i < n ∧ 48 ≤ L i ∧ L i ≤ 57 := of_decide_eq_true h
theorem chq_co {n : Nat} {L : Nat → Nat} (hL : TL n L) {i c : Nat} (hc : 1 ≤ c) (hc2 : c < 1000) : ((if i < n then nI (L i) else 0) = nI c) ↔ chq n L i c = true := by
  unfold chq
  rw [decide_eq_true_iff]
  by_cases q : i < n
  · rw [if_pos q, nI_eq (by have := (hL.2 i q).2; omega) (by omega)]
    exact ⟨fun z => ⟨q, z⟩, fun z => z.2⟩
  · rw [if_neg q]
    exact ⟨fun z => by have := (nI_eq (a := 0) (by omega) (by omega)).mp z; omega, fun z => absurd z.1 q⟩
theorem chq_mo {n : Nat} {L : Nat → Nat} (hL : TL n L) {i c : Nat} (hc2 : c < 1000) : ((if i < n then nI (L i) else -1) = nI c) ↔ chq n L i c = true := by
  unfold chq
  rw [decide_eq_true_iff]
  by_cases q : i < n
  · rw [if_pos q, nI_eq (by have := (hL.2 i q).2; omega) (by omega)]
    exact ⟨fun z => ⟨q, z⟩, fun z => z.2⟩
  · rw [if_neg q]
    exact ⟨fun z => absurd z.symm (n1 (b := c) (by omega)), fun z => absurd z.1 q⟩
def rdN (n : Nat) (L : Nat → Nat) (i sep : Nat) : Option (Nat × Nat) :=
  if fig n L i = true then
    (if fig n L (i + 1) = true then (if chq n L (i + 2) sep = true then some (10 * (L i - 48) + (L (i + 1) - 48), i + 3) else none)
    else (if chq n L (i + 1) sep = true then some (L i - 48, i + 2) else none))
  else none
theorem rdN_le {n : Nat} {L : Nat → Nat} {i sep x j : Nat} (h : rdN n L i sep = some (x, j)) : i + 2 ≤ j ∧ j ≤ n ∧ x ≤ 99 := by
  unfold rdN at h
  by_cases a : fig n L i = true
  · have ha := fig_t a
    rw [if_pos a] at h
    by_cases b : fig n L (i + 1) = true
    · have hb := fig_t b
      rw [if_pos b] at h
      by_cases c : chq n L (i + 2) sep = true
      · have hc := of_decide_eq_true c
        rw [if_pos c] at h
        cases h
        omega
      · rw [if_neg c] at h; cases h
    · rw [if_neg b] at h
      by_cases c : chq n L (i + 1) sep = true
      · have hc := of_decide_eq_true c
        rw [if_pos c] at h
        cases h
        omega
      · rw [if_neg c] at h; cases h
  · rw [if_neg a] at h; cases h
/-- one number, by the component -/
theorem co_num {n : Nat} {L : Nat → Nat} {f : hF} (hL : TL n L) (h : TC n L f) {k i j sep : Nat} (hi : i ≤ 500) (hj : j < 3) (hs : 1 ≤ sep) (hs2 : sep < 1000) :
    fX3_readNumber k 1 f (nI i) (nI j) (nI sep) = some (match rdN n L i sep with | none => (-4, f) | some (x, i') => (nI i', st2 f (k + 7) j (nI x))) := by
  obtain ⟨m, hm⟩ : ∃ m, FU = m + 4 := ⟨FU - 4, by decide⟩
  have e49 : ∀ (t v : Nat), t ≤ 600 → t ≠ i → fX3_readNumber_49 k 1 (nI i) (nI j) (nI sep) f (nI t) (nI v) = if chq n L t sep = true then some (nI (t + 1), st2 f (k + 7) j (nI v)) else some (-4, f) := fun t v ht hne => by
    unfold fX3_readNumber_49
    rw [if_neg (by rw [neqq (by omega) (by omega)]; exact hne), co_at hL h (by omega), b1s]
    by_cases q : chq n L t sep = true
    · rw [if_pos ((chq_co hL hs hs2).mpr q), if_pos q, if_neg (nI_pos (by omega)), if_pos (show nI j < (3 : Int32) from (nI_ltI (b := 3) (by omega) (by omega)).mpr hj), gdk hj (by omega), lte, ncl (by omega), show nI t + 1 = nI (t + 1) from nadd t 1]
    · rw [if_neg (fun z => q ((chq_co hL hs hs2).mp z)), if_neg q]
  unfold fX3_readNumber rdN
  rw [hm, fX3_readNumber_6, show nI i + 2 = nI (i + 2) from nadd i 2, if_neg (show ¬ nI (i + 2) ≤ nI i from fun z => by have := (nI_leI (by omega) (by omega)).mp z; omega), co_at hL h (by omega), b1s, b1s, co_fig hL, b1s, bi_if]
  cases a : fig n L i with
  | false =>
    rw [if_neg (by decide), if_neg (by decide)]
    unfold fX3_readNumber_49
    rw [if_pos rfl]
  | true =>
    have ha := fig_t a
    have v1 : (10 : Int32) * 0 + nI (L i) - 48 = nI (L i - 48) := by
      rw [L10, L0, nmul, nadd, L48, nsub (by omega), Nat.mul_zero, Nat.zero_add]
    rw [if_pos rfl, if_pos rfl, if_pos ha.1, v1, show nI i + 1 = nI (i + 1) from nadd i 1, fX3_readNumber_6, show nI i + 2 = nI (i + 2) from nadd i 2, if_neg (show ¬ nI (i + 2) ≤ nI (i + 1) from fun z => by have := (nI_leI (by omega) (by omega)).mp z; omega), co_at hL h (show i + 1 < 1000 by omega), b1s, b1s, co_fig hL, b1s, bi_if]
    cases b : fig n L (i + 1) with
    | false =>
      rw [if_neg (by decide), if_neg (by decide), e49 (i + 1) _ (by omega) (by omega)]
      by_cases c : chq n L (i + 1) sep = true
      · rw [if_pos c, if_pos c]
      · rw [if_neg c, if_neg c]
    | true =>
      have hb := fig_t b
      have v2 : (10 : Int32) * nI (L i - 48) + nI (L (i + 1)) - 48 = nI (10 * (L i - 48) + (L (i + 1) - 48)) := by
        rw [L10, nmul, nadd, L48, nsub (by omega), show 10 * (L i - 48) + L (i + 1) - 48 = 10 * (L i - 48) + (L (i + 1) - 48) by omega]
      rw [if_pos rfl, if_pos rfl, if_pos hb.1, v2, show nI (i + 1) + 1 = nI (i + 2) from nadd (i + 1) 1, fX3_readNumber_6, show nI i + 2 = nI (i + 2) from nadd i 2, if_pos (Int32.le_refl _), e49 (i + 2) _ (by omega) (by omega)]
      by_cases c : chq n L (i + 2) sep = true
      · rw [if_pos c, if_pos c]
      · rw [if_neg c, if_neg c]
def rdL (n : Nat) (L : Nat → Nat) : Nat → Nat → Nat → (Nat → Nat) → Option ((Nat → Nat) × Nat)
  | 0, i, _, v => some (v, i)
  | c+1, i, j, v => match rdN n L i (if c = 0 then 59 else 44) with
    | none => none
    | some (x, i') => rdL n L c i' (j + 1) (fun t => if t = j then x else v t)
theorem rdL_le {n : Nat} {L : Nat → Nat} : ∀ {c i j : Nat} {v u : Nat → Nat} {i' : Nat}, rdL n L c i j v = some (u, i') → i ≤ i' ∧ (1 ≤ c → i' ≤ n) ∧ ((∀ t, v t ≤ 99) → ∀ t, u t ≤ 99)
  | 0, i, j, v, u, i', h => by cases h; exact ⟨Nat.le_refl _, fun z => absurd z (by decide), fun z => z⟩
  | c+1, i, j, v, u, i', h => by
    unfold rdL at h
    cases q : rdN n L i (if c = 0 then 59 else 44) with
    | none => rw [q] at h; cases h
    | some p =>
      obtain ⟨x, k⟩ := p
      rw [q] at h
      have h1 := rdN_le q
      have h2 := rdL_le (c := c) h
      refine ⟨by omega, fun _ => ?_, fun hv => h2.2.2 (fun t => ?_)⟩
      · by_cases z : c = 0
        · subst z
          cases h
          exact h1.2.1
        · exact h2.2.1 (by omega)
      · by_cases z : t = j
        · simp only [z, if_true]; exact h1.2.2
        · simp only [z, if_false]; exact hv t
theorem co_nums {n : Nat} {L : Nat → Nat} (hL : TL n L) {k x2 tot : Nat} (hk : 3 ≤ k) (htot : tot ≤ 3) (y3 : Int32) : ∀ (c i j m : Nat) (f : hF) (v : Nat → Nat), j + c = tot → c < m → x2 < i → i ≤ 300 → TC n L f → (∀ t, t < j → f (k + 7) t = nI (v t)) →
    match rdL n L c i j v with
    | none => ∃ f2, fX3_readItem_30 k 1 (nI x2) m f y3 (nI tot) (nI i) (nI j) = some (-4, f2) ∧ ∀ s, s ≠ k + 7 → f2 s = f s
    | some (u, i') => ∃ f2, fX3_readItem_30 k 1 (nI x2) m f y3 (nI tot) (nI i) (nI j) = fX3_readItem_76 k 1 (nI x2) f2 y3 (nI i') ∧ (∀ s, s ≠ k + 7 → f2 s = f s) ∧ ∀ t, t < tot → f2 (k + 7) t = nI (u t) := by
  intro c
  induction c with
  | zero =>
    intro i j m f v hjc hm hx hi hT hv
    obtain ⟨m, rfl⟩ : ∃ k, m = k + 1 := ⟨m - 1, by omega⟩
    obtain rfl : j = tot := by omega
    refine ⟨f, ?_, fun _ _ => rfl, hv⟩
    rw [fX3_readItem_30, if_pos (Int32.le_refl _)]
  | succ c ih =>
    intro i j m f v hjc hm hx hi hT hv
    obtain ⟨m, rfl⟩ : ∃ k, m = k + 1 := ⟨m - 1, by omega⟩
    have e65 : fX3_readItem_30 k 1 (nI x2) (m + 1) f y3 (nI tot) (nI i) (nI j) = fX3_readItem_65 k 1 (nI x2) (fX3_readItem_30 k 1 (nI x2) m) f y3 (nI tot) (nI j) (nI i) (nI j) (nI (if c = 0 then 59 else 44)) := by
      rw [fX3_readItem_30, if_neg (show ¬ nI tot ≤ nI j from fun z => by have := (nI_leI (by omega) (by omega)).mp z; omega), if_neg (show ¬ nI i ≤ nI x2 from fun z => by have := (nI_leI (by omega) (by omega)).mp z; omega), show nI j + 1 = nI (j + 1) from nadd j 1]
      by_cases z : c = 0
      · rw [if_pos ((nI_leI (by omega) (by omega)).mpr (by omega)), if_pos z]; rfl
      · rw [if_neg (fun y => by have := (nI_leI (by omega) (by omega)).mp y; omega), if_neg z]; rfl
    have hnum := co_num (k := k) hL hT (i := i) (j := j) (sep := if c = 0 then 59 else 44) (by omega) (by omega) (by by_cases z : c = 0 <;> simp [z]) (by by_cases z : c = 0 <;> simp [z])
    rw [e65]
    unfold fX3_readItem_65
    rw [hnum, show nI j + 1 = nI (j + 1) from nadd j 1]
    unfold rdL
    cases q : rdN n L i (if c = 0 then 59 else 44) with
    | none =>
      refine ⟨f, ?_, fun _ _ => rfl⟩
      obtain ⟨m, rfl⟩ : ∃ k, m = k + 1 := ⟨m - 1, by omega⟩
      have hle : (-4 : Int32) ≤ nI x2 := Int32.le_of_lt (Int32.lt_of_lt_of_le (by decide) (nI_pos' (by omega)))
      have e76 : fX3_readItem_76 k 1 (nI x2) f y3 (-4) = some (-4, f) := by
        unfold fX3_readItem_76
        rw [if_pos hle]
      show fX3_readItem_30 k 1 (nI x2) (m + 1) f y3 (nI tot) (-4) (nI (j + 1)) = _
      rw [fX3_readItem_30, e76, if_pos hle]
      by_cases z : nI tot ≤ nI (j + 1)
      · rw [if_pos z]
      · rw [if_neg z]
    | some p =>
      obtain ⟨x, i'⟩ := p
      have h1 := rdN_le q
      have := hL.1
      have hI := ih i' (j + 1) m (st2 f (k + 7) j (nI x)) (fun t => if t = j then x else v t) (by omega) (by omega) (by omega) (by omega) ⟨by rw [s2_n (by omega)]; exact hT.1, fun t ht => by rw [s2_n (by omega)]; exact hT.2 t ht⟩ (fun t ht => by
        rw [s2_s]
        by_cases z : t = j
        · simp only [z, if_true]; rw [u_s]
        · simp only [z, if_false]; rw [u_n z]; exact hv t (by omega))
      show match rdL n L c i' (j + 1) (fun t => if t = j then x else v t) with
        | none => ∃ f2, fX3_readItem_30 k 1 (nI x2) m (st2 f (k + 7) j (nI x)) y3 (nI tot) (nI i') (nI (j + 1)) = some (-4, f2) ∧ ∀ s, s ≠ k + 7 → f2 s = f s
        | some (u, i'') => ∃ f2, fX3_readItem_30 k 1 (nI x2) m (st2 f (k + 7) j (nI x)) y3 (nI tot) (nI i') (nI (j + 1)) = fX3_readItem_76 k 1 (nI x2) f2 y3 (nI i'') ∧ (∀ s, s ≠ k + 7 → f2 s = f s) ∧ ∀ t, t < tot → f2 (k + 7) t = nI (u t)
      cases w : rdL n L c i' (j + 1) (fun t => if t = j then x else v t) with
      | none =>
        rw [w] at hI
        obtain ⟨f2, a1, a2⟩ := hI
        exact ⟨f2, a1, fun s hs => by rw [a2 s hs, s2_n hs]⟩
      | some p =>
        obtain ⟨u, i''⟩ := p
        rw [w] at hI
        obtain ⟨f2, a1, a2, a3⟩ := hI
        exact ⟨f2, a1, fun s hs => by rw [a2 s hs, s2_n hs], a3⟩
theorem mo_nums {n : Nat} {L : Nat → Nat} (hL : TL n L) {tot : Nat} (htot : tot ≤ 3) : ∀ (c i j m : Nat) (f : hF) (v : Nat → Nat), j + c = tot → c < m → i ≤ 300 → TM n L f → f 146 14 = nI i → (∀ t, t < j → f 154 t = nI (v t)) →
    match rdL n L c i j v with
    | none => ∃ f2, fX8_readNumbers_2 (nI tot) m f (nI j) = some (0, f2) ∧ (∀ s, s ≠ 146 → s ≠ 154 → f2 s = f s) ∧ ∀ s, s ≠ 14 → f2 146 s = f 146 s
    | some (u, i') => ∃ f2, fX8_readNumbers_2 (nI tot) m f (nI j) = some (1, f2) ∧ (∀ s, s ≠ 146 → s ≠ 154 → f2 s = f s) ∧ (∀ s, s ≠ 14 → f2 146 s = f 146 s) ∧ f2 146 14 = nI i' ∧ ∀ t, t < tot → f2 154 t = nI (u t) := by
  intro c
  induction c with
  | zero =>
    intro i j m f v hjc hm hi hT hat hv
    obtain ⟨m, rfl⟩ : ∃ k, m = k + 1 := ⟨m - 1, by omega⟩
    obtain rfl : j = tot := by omega
    refine ⟨f, ?_, fun _ _ _ => rfl, fun _ _ => rfl, hat, hv⟩
    rw [fX8_readNumbers_2, if_pos (Int32.le_refl _)]
  | succ c ih =>
    intro i j m f v hjc hm hi hT hat hv
    obtain ⟨m, rfl⟩ : ∃ k, m = k + 1 := ⟨m - 1, by omega⟩
    have hn := hL.1
    unfold rdL rdN
    rw [fX8_readNumbers_2, if_neg (show ¬ nI tot ≤ nI j from fun z => by have := (nI_leI (by omega) (by omega)).mp z; omega), hat, mo_at hL hT (by omega), b1s, b1s, mo_fig hL, b1s, bi_if]
    cases a : fig n L i with
    | false =>
      rw [if_neg (by decide), if_neg (by decide)]
      exact ⟨f, rfl, fun _ _ _ => rfl, fun _ _ => rfl⟩
    | true =>
      have ha := fig_t a
      -- the first figure is laid
      have v1 : (if i < n then nI (L i) else -1) - 48 = nI (L i - 48) := by rw [if_pos ha.1, L48, nsub (by omega)]
      have eg : ∀ (F : hF) (x i' : Nat), (∀ s, s ≠ 146 → s ≠ 154 → F s = f s) → (∀ s, s ≠ 14 → F 146 s = f 146 s) → F 146 14 = nI i' → F 154 = upd (f 154) j (nI x) → i' ≤ 400 →
          (match (match (if chq n L i' (if c = 0 then 59 else 44) = true then some (x, i' + 1) else none : Option (Nat × Nat)) with
              | none => none
              | some (x, i') => rdL n L c i' (j + 1) (fun t => if t = j then x else v t)) with
            | none => ∃ f2, fX8_readNumbers_101 (nI tot) (fX8_readNumbers_2 (nI tot) m) F (nI j) = some (0, f2) ∧ (∀ s, s ≠ 146 → s ≠ 154 → f2 s = f s) ∧ ∀ s, s ≠ 14 → f2 146 s = f 146 s
            | some (u, i') => ∃ f2, fX8_readNumbers_101 (nI tot) (fX8_readNumbers_2 (nI tot) m) F (nI j) = some (1, f2) ∧ (∀ s, s ≠ 146 → s ≠ 154 → f2 s = f s) ∧ (∀ s, s ≠ 14 → f2 146 s = f 146 s) ∧ f2 146 14 = nI i' ∧ ∀ t, t < tot → f2 154 t = nI (u t)) := by
        intro F x i' g1 g2 g3 g4 hi'
        have hTF : TM n L F := ⟨by rw [g2 13 (by decide)]; exact hT.1, fun t ht => by rw [g1 153 (by decide) (by decide)]; exact hT.2 t ht⟩
        have e101 : fX8_readNumbers_101 (nI tot) (fX8_readNumbers_2 (nI tot) m) F (nI j) = if chq n L i' (if c = 0 then 59 else 44) = true then fX8_readNumbers_2 (nI tot) m (st2 F 146 14 (nI (i' + 1))) (nI (j + 1)) else some (0, F) := by
          unfold fX8_readNumbers_101 fX8_readNumbers_123
          rw [g3, mo_at hL hTF (by omega), b1s, show nI tot - 1 = nI (tot - 1) from nsub (b := 1) (by omega), lte, show nI i' + 1 = nI (i' + 1) from nadd i' 1, show nI j + 1 = nI (j + 1) from nadd j 1]
          by_cases z : c = 0
          · rw [if_pos ((nI_leI (by omega) (by omega)).mpr (by omega)), if_pos z]
            by_cases y : chq n L i' 59 = true
            · rw [if_pos (show (if i' < n then nI (L i') else -1) = (59 : Int32) from (chq_mo hL (c := 59) (by omega)).mpr y), if_pos y]
            · rw [if_neg (show ¬ (if i' < n then nI (L i') else -1) = (59 : Int32) from fun w => y ((chq_mo hL (c := 59) (by omega)).mp w)), if_neg y]
          · rw [if_neg (fun y => by have := (nI_leI (by omega) (by omega)).mp y; omega), if_neg z]
            by_cases y : chq n L i' 44 = true
            · rw [if_pos (show (if i' < n then nI (L i') else -1) = (44 : Int32) from (chq_mo hL (c := 44) (by omega)).mpr y), if_pos y]
            · rw [if_neg (show ¬ (if i' < n then nI (L i') else -1) = (44 : Int32) from fun w => y ((chq_mo hL (c := 44) (by omega)).mp w)), if_neg y]
        rw [e101]
        by_cases y : chq n L i' (if c = 0 then 59 else 44) = true
        · have hy := of_decide_eq_true y
          rw [if_pos y, if_pos y]
          have hI := ih (i' + 1) (j + 1) m (st2 F 146 14 (nI (i' + 1))) (fun t => if t = j then x else v t) (by omega) (by omega) (by omega) ⟨by rw [s2_s, u_n (by decide)]; exact hTF.1, fun t ht => by rw [s2_n (by decide)]; exact hTF.2 t ht⟩ (by rw [s2_s, u_s]) (fun t ht => by
            rw [s2_n (by decide), g4]
            by_cases z : t = j
            · simp only [z, if_true]; rw [u_s]
            · simp only [z, if_false]; rw [u_n z]; exact hv t (by omega))
          show match rdL n L c (i' + 1) (j + 1) (fun t => if t = j then x else v t) with
            | none => ∃ f2, fX8_readNumbers_2 (nI tot) m (st2 F 146 14 (nI (i' + 1))) (nI (j + 1)) = some (0, f2) ∧ (∀ s, s ≠ 146 → s ≠ 154 → f2 s = f s) ∧ ∀ s, s ≠ 14 → f2 146 s = f 146 s
            | some (u, i3) => ∃ f2, fX8_readNumbers_2 (nI tot) m (st2 F 146 14 (nI (i' + 1))) (nI (j + 1)) = some (1, f2) ∧ (∀ s, s ≠ 146 → s ≠ 154 → f2 s = f s) ∧ (∀ s, s ≠ 14 → f2 146 s = f 146 s) ∧ f2 146 14 = nI i3 ∧ ∀ t, t < tot → f2 154 t = nI (u t)
          cases w : rdL n L c (i' + 1) (j + 1) (fun t => if t = j then x else v t) with
          | none =>
            rw [w] at hI
            obtain ⟨f2, a1, a2, a3⟩ := hI
            exact ⟨f2, a1, fun s s1 s2 => by rw [a2 s s1 s2, s2_n s1, g1 s s1 s2], fun s hs => by rw [a3 s hs, s2_s, u_n hs, g2 s hs]⟩
          | some p =>
            obtain ⟨u, i3⟩ := p
            rw [w] at hI
            obtain ⟨f2, a1, a2, a3, a4, a5⟩ := hI
            exact ⟨f2, a1, fun s s1 s2 => by rw [a2 s s1 s2, s2_n s1, g1 s s1 s2], fun s hs => by rw [a3 s hs, s2_s, u_n hs, g2 s hs], a4, a5⟩
        · rw [if_neg y, if_neg y]
          exact ⟨F, rfl, g1, g2⟩
      rw [if_pos rfl, if_pos rfl, gdk (show j < 3 by omega) (by omega), lte, ncl (by omega), v1, lte, s2_n (j := 146) (k := 154) (by decide), hat, show nI i + 1 = nI (i + 1) from nadd i 1]
      have hF1 : TM n L (st2 (st2 f 154 j (nI (L i - 48))) 146 14 (nI (i + 1))) := ⟨by rw [s2_s, u_n (by decide), s2_n (by decide)]; exact hT.1, fun t ht => by rw [s2_n (by decide), s2_n (by decide)]; exact hT.2 t ht⟩
      have at1 : st2 (st2 f 154 j (nI (L i - 48))) 146 14 (nI (i + 1)) 146 14 = nI (i + 1) := by rw [s2_s, u_s]
      have a54 : st2 (st2 f 154 j (nI (L i - 48))) 146 14 (nI (i + 1)) 154 = upd (f 154) j (nI (L i - 48)) := by rw [s2_n (by decide), s2_s]
      rw [at1, mo_at hL hF1 (show i + 1 < 1000 by omega), b1s, mo_fig hL, b1s, bi_if]
      cases b : fig n L (i + 1) with
      | false =>
        rw [if_neg (show ¬ false = true by decide), if_neg (show ¬ false = true by decide)]
        exact eg _ (L i - 48) (i + 1) (fun s s1 s2 => by rw [s2_n s1, s2_n s2]) (fun s hs => by rw [s2_s, u_n hs, s2_n (by decide)]) at1 a54 (by omega)
      | true =>
        have hb := fig_t b
        have v2 : (10 : Int32) * nI (L i - 48) + (if i + 1 < n then nI (L (i + 1)) else -1) - 48 = nI (10 * (L i - 48) + (L (i + 1) - 48)) := by
          rw [if_pos hb.1, L10, nmul, nadd, L48, nsub (by omega), show 10 * (L i - 48) + L (i + 1) - 48 = 10 * (L i - 48) + (L (i + 1) - 48) by omega]
        rw [if_pos rfl, if_pos rfl, gdk (show j < 3 by omega) (by omega), b1s, gdk (show j < 3 by omega) (by omega), lte, a54, u_s, v2, lte, s2_n (j := 146) (k := 154) (by decide), at1, show nI (i + 1) + 1 = nI (i + 2) from nadd (i + 1) 1]
        exact eg (st2 (st2 (st2 (st2 f 154 j (nI (L i - 48))) 146 14 (nI (i + 1))) 154 j (nI (10 * (L i - 48) + (L (i + 1) - 48)))) 146 14 (nI (i + 2))) (10 * (L i - 48) + (L (i + 1) - 48)) (i + 2) (fun s s1 s2 => by rw [s2_n s1, s2_n s2, s2_n s1, s2_n s2]) (fun s hs => by rw [s2_s, u_n hs, s2_n (by decide), s2_s, u_n hs, s2_n (by decide)]) (by rw [s2_s, u_s]) (by
          rw [s2_n (by decide), s2_s, a54]
          funext t
          by_cases z : t = j
          · rw [z, u_s, u_s]
          · rw [u_n z, u_n z, u_n z]) (by omega)
