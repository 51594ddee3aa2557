/-! numbers, guards, loops: how a pure program is computed -/
theorem gdk {α : Type} {i n : Nat} {k : Option α} (h : i < n) (hi : i < 2147483648) : gd (nI i) n k = k := by
  unfold gd
  rw [if_neg]
  rintro (q | q)
  · exact nI_pos hi q
  · rw [nI_clamp hi] at q
    omega
theorem b1s {α β : Type} {a : α} {k : α → Option β} : b1 (some a) k = k a := rfl
theorem b2s {α β γ : Type} {a : α} {b : β} {k : α → β → Option γ} : b2 (some (a, b)) k = k a b := rfl
theorem lte {α β : Type} {x : α} {k : α → β} : lt x k = k x := rfl
theorem nzk {α : Type} {y : Int32} {k : Option α} (h : y ≠ 0) : nz y k = k := if_neg h
theorem ncl {n : Nat} (h : n < 2147483648) : (nI n).toNatClampNeg = n := nI_clamp h
theorem nleq {a b : Nat} (ha : a < 2147483648) (hb : b < 2147483648) : (nI a ≤ nI b) = (a ≤ b) := propext (nI_leI ha hb)
theorem nltq {a b : Nat} (ha : a < 2147483648) (hb : b < 2147483648) : (nI a < nI b) = (a < b) := propext (nI_ltI ha hb)
theorem neqq {a b : Nat} (ha : a < 2147483648) (hb : b < 2147483648) : (nI a = nI b) = (a = b) := propext (nI_eq ha hb)
theorem nI_m {a k : Nat} (ha : a < 2147483648) (hk : 0 < k) (hk2 : k < 2147483648) : nI a ≠ -(nI k) := by
  intro h
  have h1 := congrArg Int32.toInt h
  rw [nI_toInt ha, Int32.toInt_neg, nI_toInt hk2] at h1
  have : ((-(k : Int)).bmod (2 ^ 32)) = -(k : Int) := by
    rw [Int.bmod_eq_of_le] <;> omega
  omega
theorem neg1q {a : Nat} (ha : a < 2147483648) : (nI a = -1) = False := eq_false (nI_m (k := 1) ha (by omega) (by omega))
theorem neg2q {a : Nat} (ha : a < 2147483648) : (nI a = -2) = False := eq_false (nI_m (k := 2) ha (by omega) (by omega))
theorem neg3q {a : Nat} (ha : a < 2147483648) : (nI a = -3) = False := eq_false (nI_m (k := 3) ha (by omega) (by omega))
theorem neg4q {a : Nat} (ha : a < 2147483648) : (nI a = -4) = False := eq_false (nI_m (k := 4) ha (by omega) (by omega))
theorem neg1q' {a : Nat} (ha : a < 2147483648) : ((-1 : Int32) = nI a) = False := eq_false (fun h => nI_m (k := 1) ha (by omega) (by omega) h.symm)
theorem neg4q' {a : Nat} (ha : a < 2147483648) : ((-4 : Int32) = nI a) = False := eq_false (fun h => nI_m (k := 4) ha (by omega) (by omega) h.symm)
theorem nadd (a b : Nat) : nI a + nI b = nI (a + b) := nI_add a b
theorem nmul (a b : Nat) : nI a * nI b = nI (a * b) := pk_mul a b
theorem nsub {a b : Nat} (h : b ≤ a) : nI a - nI b = nI (a - b) := pk_sub h
theorem nrem {a d : Nat} (ha : a < 2147483648) (h0 : 0 < d) (hd : d < 2147483648) : nI a - nI a / nI d * nI d = nI (a % d) := pk_rem ha h0 hd
theorem ndiv {a d : Nat} (ha : a < 2147483648) (h0 : 0 < d) (hd : d < 2147483648) : nI a / nI d = nI (a / d) := pk_div ha h0 hd
def bI (b : Bool) : Int32 := if b then 1 else 0
theorem bI_t : bI true = 1 := rfl
theorem bI_f : bI false = 0 := rfl
theorem bI0 {b : Bool} : (bI b = 0) = (b = false) := by cases b <;> simp [bI]
theorem bI1 {b : Bool} : (bI b = 1) = (b = true) := by cases b <;> simp [bI]
theorem bI_nar (b : Bool) : vp_nar .boolean (bI b) = bI b := by cases b <;> rfl
theorem bI_nr {α : Type} {b : Bool} {k : Option α} : nr .boolean (bI b) k = k := by cases b <;> rfl
theorem nar0 : vp_nar .boolean 0 = bI false := rfl
theorem nar1 : vp_nar .boolean 1 = bI true := rfl
theorem nr0 {α : Type} {k : Option α} : nr .boolean 0 k = k := rfl
theorem nr1 {α : Type} {k : Option α} : nr .boolean 1 k = k := rfl
/-! the heap -/
theorem sA_s (f : hF) (k : Nat) (g : Nat → Int32) : stA f k g k = g := by simp [stA]
theorem sA_n {f : hF} {k j : Nat} {g : Nat → Int32} (h : j ≠ k) : stA f k g j = f j := by simp [stA, h]
theorem s2_s (f : hF) (k i : Nat) (x : Int32) : st2 f k i x k = upd (f k) i x := by simp [st2, stA]
theorem s2_n {f : hF} {k j i : Nat} {x : Int32} (h : j ≠ k) : st2 f k i x j = f j := by simp [st2, stA, h]
theorem u_s (f : Nat → Int32) (k : Nat) (x : Int32) : upd f k x k = x := by simp [upd]
theorem u_n {f : Nat → Int32} {k j : Nat} {x : Int32} (h : j ≠ k) : upd f k x j = f j := by simp [upd, h]
theorem sA_at {f : hF} {k j : Nat} {g : Nat → Int32} : stA f k g j = if j = k then g else f j := rfl
theorem u_at {f : Nat → Int32} {k j : Nat} {x : Int32} : upd f k x j = if j = k then x else f j := rfl
theorem sA_sA (f : hF) (k : Nat) (g g' : Nat → Int32) : stA (stA f k g) k g' = stA f k g' := by
  funext j
  by_cases h : j = k <;> simp [stA, h]
theorem s2_sA (f : hF) (k : Nat) (g : Nat → Int32) (i : Nat) (x : Int32) : st2 (stA f k g) k i x = stA f k (upd g i x) := by
  unfold st2
  rw [sA_s, sA_sA]
theorem sA_self (f : hF) (k : Nat) : stA f k (f k) = f := by
  funext j
  by_cases h : j = k
  · subst h; simp [stA]
  · simp [stA, h]
theorem s2_A (f : hF) (k i : Nat) (x : Int32) : st2 f k i x = stA f k (upd (f k) i x) := rfl
/-! a loop over r values from i on -/
def rep {α : Type} (step : Nat → α → α) : Nat → Nat → α → α
  | 0, _, a => a
  | r+1, i, a => rep step r (i+1) (step i a)
theorem rep_s {α : Type} (step : Nat → α → α) (r i : Nat) (a : α) : rep step (r+1) i a = rep step r (i+1) (step i a) := rfl
theorem rep_snoc {α : Type} (step : Nat → α → α) (r i : Nat) (a : α) : rep step (r+1) i a = step (i+r) (rep step r i a) := by
  induction r generalizing i a with
  | zero => rfl
  | succ r ih =>
    rw [rep_s, ih, rep_s]
    congr 1
    omega
theorem rep_inv {α : Type} {step : Nat → α → α} {I : Nat → α → Prop} {N : Nat} (hs : ∀ i a, i < N → I i a → I (i+1) (step i a)) : ∀ (r i : Nat) (a : α), i + r = N → I i a → I N (rep step r i a) := by
  intro r
  induction r with
  | zero =>
    intro i a h hi
    obtain rfl : i = N := by omega
    exact hi
  | succ r ih =>
    intro i a h hi
    exact ih (i+1) (step i a) (by omega) (hs i a (by omega) hi)
theorem rep_congr {α : Type} {s t : Nat → α → α} {N : Nat} (h : ∀ i a, i < N → s i a = t i a) : ∀ (r i : Nat) (a : α), i + r = N → rep s r i a = rep t r i a := by
  intro r
  induction r with
  | zero => intro i a _; rfl
  | succ r ih =>
    intro i a hN
    rw [rep_s, rep_s, h i a (by omega)]
    exact ih (i+1) _ (by omega)
/-- a counting loop is the rep of its step; F's own arguments by a and i -/
theorem loop_rep {α ρ : Type} (F : Nat → Nat → α → Option ρ) (step : Nat → α → α) (ex : α → Option ρ) (I : Nat → α → Prop) (N : Nat) (hx : ∀ n a, I N a → F (n+1) N a = ex a) (hs : ∀ n i a, i < N → I i a → F (n+1) i a = F n (i+1) (step i a) ∧ I (i+1) (step i a)) :
    ∀ (r i : Nat) (a : α), i + r = N → I i a → ∀ n, r < n → F n i a = ex (rep step r i a) := by
  intro r
  induction r with
  | zero =>
    intro i a h hI n hn
    obtain ⟨m, rfl⟩ : ∃ m, n = m + 1 := ⟨n - 1, by omega⟩
    obtain rfl : i = N := by omega
    exact hx m a hI
  | succ r ih =>
    intro i a h hI n hn
    obtain ⟨m, rfl⟩ : ∃ m, n = m + 1 := ⟨n - 1, by omega⟩
    obtain ⟨h1, h2⟩ := hs m i a (by omega) hI
    rw [h1, rep_s]
    exact ih (i+1) _ (by omega) h2 m (by omega)
theorem L0 : (0 : Int32) = nI 0 := rfl
theorem L1 : (1 : Int32) = nI 1 := rfl
theorem L2 : (2 : Int32) = nI 2 := rfl
theorem L3 : (3 : Int32) = nI 3 := rfl
theorem L4 : (4 : Int32) = nI 4 := rfl
theorem L5 : (5 : Int32) = nI 5 := rfl
theorem L6 : (6 : Int32) = nI 6 := rfl
theorem L7 : (7 : Int32) = nI 7 := rfl
theorem L8 : (8 : Int32) = nI 8 := rfl
theorem L9 : (9 : Int32) = nI 9 := rfl
theorem L10 : (10 : Int32) = nI 10 := rfl
theorem L12 : (12 : Int32) = nI 12 := rfl
theorem L15 : (15 : Int32) = nI 15 := rfl
theorem L16 : (16 : Int32) = nI 16 := rfl
theorem L20 : (20 : Int32) = nI 20 := rfl
theorem L24 : (24 : Int32) = nI 24 := rfl
theorem L30 : (30 : Int32) = nI 30 := rfl
theorem L31 : (31 : Int32) = nI 31 := rfl
theorem L32 : (32 : Int32) = nI 32 := rfl
theorem L40 : (40 : Int32) = nI 40 := rfl
theorem L44 : (44 : Int32) = nI 44 := rfl
theorem L48 : (48 : Int32) = nI 48 := rfl
theorem L50 : (50 : Int32) = nI 50 := rfl
theorem L57 : (57 : Int32) = nI 57 := rfl
theorem L59 : (59 : Int32) = nI 59 := rfl
theorem L60 : (60 : Int32) = nI 60 := rfl
theorem L64 : (64 : Int32) = nI 64 := rfl
theorem L99 : (99 : Int32) = nI 99 := rfl
theorem L100 : (100 : Int32) = nI 100 := rfl
theorem L108 : (108 : Int32) = nI 108 := rfl
theorem L109 : (109 : Int32) = nI 109 := rfl
theorem L111 : (111 : Int32) = nI 111 := rfl
theorem L112 : (112 : Int32) = nI 112 := rfl
theorem L119 : (119 : Int32) = nI 119 := rfl
theorem L126 : (126 : Int32) = nI 126 := rfl
theorem L200 : (200 : Int32) = nI 200 := rfl
theorem L222 : (222 : Int32) = nI 222 := rfl
theorem L255 : (255 : Int32) = nI 255 := rfl
theorem L256 : (256 : Int32) = nI 256 := rfl
theorem L888 : (888 : Int32) = nI 888 := rfl
theorem L999 : (999 : Int32) = nI 999 := rfl
theorem L9999 : (9999 : Int32) = nI 9999 := rfl
