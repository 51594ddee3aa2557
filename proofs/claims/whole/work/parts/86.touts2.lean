/-! touts by the component -/
def msk (h : Nat → Bool) : Nat → Nat
  | 0 => 0
  | i+1 => if h i = true then msk h i ||| 2 ^ i else msk h i
theorem msk_s (h : Nat → Bool) (i : Nat) : msk h (i+1) = if h i = true then msk h i ||| 2 ^ i else msk h i := rfl
theorem msk_lt (h : Nat → Bool) : ∀ n, msk h n < 2 ^ n
  | 0 => (by decide : 0 < 2 ^ 0)
  | n+1 => by
    have h1 := msk_lt h n
    have h2 : 2 ^ n < 2 ^ (n + 1) := Nat.pow_lt_pow_right (by decide) (Nat.lt_succ_self n)
    rw [msk_s]
    by_cases q : h n = true
    · rw [if_pos q]; exact Nat.or_lt_two_pow (by omega) h2
    · rw [if_neg q]; omega
theorem msk_256 (h : Nat → Bool) {n : Nat} (hn : n ≤ 8) : msk h n < 256 := Nat.lt_of_lt_of_le (msk_lt h n) (show 2 ^ n ≤ 2 ^ 8 from Nat.pow_le_pow_right (by decide) hn)
theorem msk_bit (h : Nat → Bool) (i : Nat) : ∀ n, (msk h n).testBit i = (decide (i < n) && h i)
  | 0 => by show (0 : Nat).testBit i = _; rw [Nat.zero_testBit]; rfl
  | n+1 => by
    rw [msk_s]
    by_cases q : h n = true
    · rw [if_pos q, Nat.testBit_or, msk_bit h i n, Nat.testBit_two_pow]
      by_cases y : n = i
      · rw [decide_eq_true y, Bool.or_true, ← y, q, decide_eq_true (Nat.lt_succ_self n)]; rfl
      · rw [decide_eq_false y, Bool.or_false]
        by_cases z : i < n
        · rw [decide_eq_true z, decide_eq_true (show i < n + 1 by omega)]
        · rw [decide_eq_false z, decide_eq_false (show ¬ i < n + 1 by omega)]
    · rw [if_neg q, msk_bit h i n]
      by_cases y : n = i
      · rw [← y]
        cases w : h n with
        | true => exact absurd w q
        | false => rw [Bool.and_false, Bool.and_false]
      · by_cases z : i < n
        · rw [decide_eq_true z, decide_eq_true (show i < n + 1 by omega)]
        · rw [decide_eq_false z, decide_eq_false (show ¬ i < n + 1 by omega)]
theorem bt_pw : ∀ a, a < 8 → bt a = nI (2 ^ a) := by decide +kernel
theorem clr_all : ∀ n, n < 256 → ∀ s, s < 8 → nI n &&& ((1 <<< (nI s &&& 31)) ^^^ (-1)) = nI (n &&& (255 - 2 ^ s)) := by decide +kernel
theorem clr_one : ∀ s, s < 8 → ∀ i, i < 8 → (255 - 2 ^ s).testBit i = !decide (i = s) := by decide +kernel
theorem clr_bit {n s i : Nat} (hs : s < 8) (hi : i < 8) : (n &&& (255 - 2 ^ s)).testBit i = (n.testBit i && !decide (i = s)) := by
  rw [Nat.testBit_and, clr_one s hs i hi]
theorem clr_lt {n s : Nat} (hn : n < 256) : n &&& (255 - 2 ^ s) < 256 := Nat.lt_of_le_of_lt Nat.and_le_left hn
def sub8 (y r : Nat) : Bool := allB (fun i => !y.testBit i || r.testBit i) 8
theorem allB_t {h : Nat → Bool} : ∀ {n : Nat}, allB h n = true ↔ ∀ i, i < n → h i = true
  | 0 => ⟨fun _ i hi => absurd hi (Nat.not_lt_zero i), fun _ => rfl⟩
  | n+1 => by
    show (allB h n && h n) = true ↔ _
    rw [Bool.and_eq_true, allB_t]
    constructor
    · rintro ⟨a, b⟩ i hi
      by_cases e : i = n
      · rw [e]; exact b
      · exact a i (by omega)
    · intro a
      exact ⟨fun i hi => a i (by omega), a n (by omega)⟩
theorem high_bit {n i : Nat} (hn : n < 256) (hi : 8 ≤ i) : n.testBit i = false :=
  Nat.testBit_lt_two_pow (Nat.lt_of_lt_of_le hn (show 2 ^ 8 ≤ 2 ^ i from Nat.pow_le_pow_right (by decide) hi))
theorem sub_iff {y r : Nat} (hy : y < 256) (hr : r < 256) : ((nI y &&& (nI r ^^^ (-1))) = 0) ↔ sub8 y r = true := by
  unfold sub8
  rw [ibit_and0, allB_t]
  constructor
  · intro h i hi
    have := h i (by omega)
    rw [ibit_nI (by omega), ibit_not (by omega), ibit_nI (by omega)] at this
    cases a : y.testBit i <;> cases b : r.testBit i <;> simp_all
  · rintro h p hp ⟨a, b⟩
    rw [ibit_nI hp] at a
    rw [ibit_not hp, ibit_nI hp] at b
    by_cases q : p < 8
    · have := h p q
      rw [a] at this
      cases w : r.testBit p <;> simp_all
    · rw [high_bit hy (by omega)] at a; cases a
def lowF (c : Nat → Bool) : Nat → Option Nat
  | 0 => none
  | i+1 => match lowF c i with
    | some m => some m
    | none => if c i = true then some i else none
theorem lowF_none {c : Nat → Bool} {i : Nat} (h : lowF c i = none) : lowF c (i+1) = if c i = true then some i else none := by
  show (match lowF c i with | some m => some m | none => if c i = true then some i else none) = _
  rw [h]
theorem lowF_some {c : Nat → Bool} {m : Nat} : ∀ {i j : Nat}, i ≤ j → lowF c i = some m → lowF c j = some m
  | i, 0, h, e => by obtain rfl : i = 0 := by omega
                     exact e
  | i, j+1, h, e => by
    by_cases q : i = j + 1
    · rw [← q]; exact e
    · have := lowF_some (i := i) (j := j) (by omega) e
      show (match lowF c j with | some m => some m | none => if c j = true then some j else none) = _
      rw [this]
theorem lowF_in {c : Nat → Bool} {m : Nat} : ∀ {n : Nat}, lowF c n = some m → m < n ∧ c m = true
  | 0, h => by cases h
  | n+1, h => by
    cases q : lowF c n with
    | some k =>
      have e : lowF c (n+1) = some k := by
        show (match lowF c n with | some m => some m | none => if c n = true then some n else none) = _
        rw [q]
      rw [e] at h
      cases h
      have := lowF_in q
      exact ⟨by omega, this.2⟩
    | none =>
      rw [lowF_none q] at h
      by_cases w : c n = true
      · rw [if_pos w] at h; cases h; exact ⟨by omega, w⟩
      · rw [if_neg w] at h; cases h
theorem lowF_congr {c c' : Nat → Bool} : ∀ {n : Nat}, (∀ i, i < n → c i = c' i) → lowF c n = lowF c' n
  | 0, _ => rfl
  | n+1, e => by
    show (match lowF c n with | some m => some m | none => if c n = true then some n else none) = (match lowF c' n with | some m => some m | none => if c' n = true then some n else none)
    rw [lowF_congr (n := n) (fun i hi => e i (by omega)), e n (by omega)]
noncomputable def low1 (ro : RO) (g : Nat → Int32) (a p : Nat) : Option Nat := lowF (fun m => a.testBit m && decide (rfB ro g 0 m p = 0)) ro.P
noncomputable def pst (ro : RO) (g : Nat → Int32) (a0 y : Nat) : Nat → Nat × Nat
  | 0 => (a0, 0)
  | p+1 => if y.testBit p = true then (if 8 ≤ vln g 0 + (pst ro g a0 y p).2 then pst ro g a0 y p else match low1 ro g (pst ro g a0 y p).1 p with
      | none => pst ro g a0 y p
      | some m => ((pst ro g a0 y p).1 &&& (255 - 2 ^ m), (pst ro g a0 y p).2 + 1)) else pst ro g a0 y p
theorem pst_s (ro : RO) (g : Nat → Int32) (a0 y p : Nat) : pst ro g a0 y (p+1) = if y.testBit p = true then (if 8 ≤ vln g 0 + (pst ro g a0 y p).2 then pst ro g a0 y p else match low1 ro g (pst ro g a0 y p).1 p with
      | none => pst ro g a0 y p
      | some m => ((pst ro g a0 y p).1 &&& (255 - 2 ^ m), (pst ro g a0 y p).2 + 1)) else pst ro g a0 y p := rfl
theorem pst_ok {ro : RO} {g : Nat → Int32} {a0 y : Nat} (h0 : a0 < 256) : ∀ p, (pst ro g a0 y p).1 < 256 ∧ (pst ro g a0 y p).2 ≤ p
  | 0 => ⟨h0, Nat.le_refl _⟩
  | p+1 => by
    have ih := pst_ok (ro := ro) (g := g) (y := y) h0 p
    rw [pst_s]
    by_cases a : y.testBit p = true
    · rw [if_pos a]
      by_cases b : 8 ≤ vln g 0 + (pst ro g a0 y p).2
      · rw [if_pos b]; exact ⟨ih.1, by omega⟩
      · rw [if_neg b]
        cases low1 ro g (pst ro g a0 y p).1 p with
        | none => exact ⟨ih.1, by show (pst ro g a0 y p).2 ≤ _; omega⟩
        | some m => exact ⟨clr_lt ih.1, by show (pst ro g a0 y p).2 + 1 ≤ _; omega⟩
    · rw [if_neg a]; exact ⟨ih.1, by omega⟩
def optI : Option Nat → Int32
  | none => -4
  | some m => nI m
theorem co_lowest {ro : RO} {T : Nat} {g : Nat → Int32} (h : VB ro.P T ro.fm g) {f : hF} (hr : RR ro f) (hc : CB f 20 g) {a p : Nat} (ha : a < 256) (hp : p < ro.P) : fX2_lowestFor 19 3 f (nI p) (nI a) = some (optI (low1 ro g a p)) := by
  have hP := hr.ok.2.1
  have hQ1 := hr.ok.2.2.1
  have key : ∀ (r i n : Nat), i + r = ro.P → r < n → lowF (fun m => a.testBit m && decide (rfB ro g 0 m p = 0)) i = none → fX2_lowestFor_2 19 3 f (nI p) (nI a) n (nI i) = some (optI (low1 ro g a p)) := by
    intro r
    induction r with
    | zero =>
      intro i n hr2 hn e
      obtain ⟨n, rfl⟩ : ∃ k, n = k + 1 := ⟨n - 1, by omega⟩
      obtain rfl : i = ro.P := by omega
      rw [fX2_lowestFor_2, hr.c0, if_pos (Int32.le_refl _)]
      unfold low1
      rw [e]; rfl
    | succ r ih =>
      intro i n hr2 hn e
      obtain ⟨n, rfl⟩ : ∃ k, n = k + 1 := ⟨n - 1, by omega⟩
      have hi : i < ro.P := by omega
      have hb := sh_bit a ha i (by omega)
      have ln := lowF_none e
      rw [fX2_lowestFor_2, hr.c0, if_neg (fun z => by have := (nI_leI (by omega) (by omega)).mp z; omega), show (0 : Int32) = nI 0 from rfl, co_refuse (k := 19) h hr hc (show 0 < ro.Q by omega) hi hp, b1s, show nI i + 1 = nI (i + 1) from nadd i 1]
      cases q : a.testBit i with
      | false =>
        rw [if_neg (fun z => by rw [hb.2.mp z] at q; cases q)]
        refine ih (i + 1) n (by omega) (by omega) ?_
        rw [ln]
        exact if_neg (by show ¬ (a.testBit i && _) = true; rw [q]; simp)
      | true =>
        rw [if_pos (hb.2.mpr q)]
        by_cases w : rfB ro g 0 i p = 0
        · rw [if_pos (show rfB ro g 0 i p = nI 0 from w)]
          have : low1 ro g a p = some i := lowF_some (i := i + 1) (by omega) (by rw [ln]; exact if_pos (by show (a.testBit i && _) = true; rw [q, decide_eq_true w]; rfl))
          rw [this]; rfl
        · rw [if_neg (show ¬ rfB ro g 0 i p = nI 0 from w)]
          refine ih (i + 1) n (by omega) (by omega) ?_
          rw [ln]
          exact if_neg (by show ¬ (a.testBit i && _) = true; rw [decide_eq_false w]; simp)
  unfold fX2_lowestFor
  exact key ro.P 0 FU (by omega) (by unfold FU; omega) rfl
theorem co_touted {ro : RO} {T : Nat} {g : Nat → Int32} (h : VB ro.P T ro.fm g) {f : hF} (hr : RR ro f) (hc : CB f 20 g) {a0 y : Nat} (ha : a0 < 256) (hy : y < 256) : fX2_countTouted 19 3 f (nI y) (nI a0) = some (nI (pst ro g a0 y ro.P).2) := by
  have hP := hr.ok.2.1
  have hl := VB_ln h (p := 0) (by omega)
  have key : ∀ (r p n : Nat), p + r = ro.P → r < n → fX2_countTouted_8 19 3 f (nI y) (nI a0) n (nI (pst ro g a0 y p).1) (nI (pst ro g a0 y p).2) (nI p) = some (nI (pst ro g a0 y ro.P).2) := by
    intro r
    induction r with
    | zero =>
      intro p n hr2 hn
      obtain ⟨n, rfl⟩ : ∃ k, n = k + 1 := ⟨n - 1, by omega⟩
      obtain rfl : p = ro.P := by omega
      rw [fX2_countTouted_8, hr.c0, if_pos (Int32.le_refl _)]
    | succ r ih =>
      intro p n hr2 hn
      obtain ⟨n, rfl⟩ : ∃ k, n = k + 1 := ⟨n - 1, by omega⟩
      have hp : p < ro.P := by omega
      have ok := pst_ok (ro := ro) (g := g) (y := y) ha p
      have hb := sh_bit y hy p (by omega)
      have e := ih (p + 1) n (by omega) (by omega)
      rw [pst_s] at e
      have e71 : fX2_countTouted_71 19 3 f (nI y) (nI a0) (fX2_countTouted_8 19 3 f (nI y) (nI a0) n) (nI (pst ro g a0 y p).1) (nI (pst ro g a0 y p).2) (nI p) (-4) = fX2_countTouted_8 19 3 f (nI y) (nI a0) n (nI (pst ro g a0 y p).1) (nI (pst ro g a0 y p).2) (nI (p + 1)) := by
        unfold fX2_countTouted_71
        rw [if_pos rfl, show nI p + 1 = nI (p + 1) from nadd p 1]
      rw [fX2_countTouted_8, hr.c0, if_neg (fun z => by have := (nI_leI (by omega) (by omega)).mp z; omega), gd0 (by decide), cl0, hc.2.2.2.1 0 (by decide), Nat.add_zero, show g 12 = nI (vln g 0) from hl.1, nadd]
      unfold fX2_countTouted_51 fX2_countTouted_52
      rw [if_pos rfl, if_neg (show ¬ (1 : Int32) = 0 by decide), e71, co_lowest h hr hc ok.1 hp, b1s]
      cases q : y.testBit p with
      | false =>
        rw [q, if_neg (by decide)] at e
        rw [if_neg (fun z => by rw [hb.2.mp z] at q; cases q)]
        exact e
      | true =>
        rw [q, if_pos rfl] at e
        rw [if_pos (hb.2.mpr q)]
        by_cases w : 8 ≤ vln g 0 + (pst ro g a0 y p).2
        · rw [if_pos w] at e
          rw [if_pos (show (8 : Int32) ≤ nI (vln g 0 + (pst ro g a0 y p).2) from (nI_leI (a := 8) (by omega) (by omega)).mpr w)]
          exact e
        · rw [if_neg w] at e
          rw [if_neg (ge8 (p := vln g 0 + (pst ro g a0 y p).2) (by omega))]
          cases u : low1 ro g (pst ro g a0 y p).1 p with
          | none =>
            rw [u] at e
            show fX2_countTouted_71 19 3 f (nI y) (nI a0) (fX2_countTouted_8 19 3 f (nI y) (nI a0) n) (nI (pst ro g a0 y p).1) (nI (pst ro g a0 y p).2) (nI p) (-4) = _
            rw [e71]
            exact e
          | some m =>
            rw [u] at e
            have hm := (lowF_in u).1
            show fX2_countTouted_71 19 3 f (nI y) (nI a0) (fX2_countTouted_8 19 3 f (nI y) (nI a0) n) (nI (pst ro g a0 y p).1) (nI (pst ro g a0 y p).2) (nI p) (nI m) = _
            unfold fX2_countTouted_71
            rw [if_neg (n4 (b := m) (by omega)), clr_all _ ok.1 m (by omega), show nI p + 1 = nI (p + 1) from nadd p 1, show nI (pst ro g a0 y p).2 + 1 = nI ((pst ro g a0 y p).2 + 1) from nadd _ 1]
            exact e
  unfold fX2_countTouted
  exact key ro.P 0 FU (by omega) (by unfold FU; omega)
def prd (r x y : Nat) : Nat → Nat
  | 0 => 1
  | i+1 => if r.testBit i = true then prd r x y i * (if y.testBit i = true then x else 10 - x) else prd r x y i
theorem prd_s (r x y i : Nat) : prd r x y (i+1) = if r.testBit i = true then prd r x y i * (if y.testBit i = true then x else 10 - x) else prd r x y i := rfl
theorem co_ways {y r x : Nat} (hy : y < 256) (hr : r < 256) (hx : x ≤ 10) : fX2_waysToBring (nI y) (nI r) (nI x) = some (nI (prd r x y 8)) := by
  have key : ∀ (s i n : Nat), i + s = 8 → s < n → fX2_waysToBring_5 (nI y) (nI r) (nI x) n (nI (prd r x y i)) (nI i) = some (nI (prd r x y 8)) := by
    intro s
    induction s with
    | zero =>
      intro i n hr2 hn
      obtain ⟨n, rfl⟩ : ∃ k, n = k + 1 := ⟨n - 1, by omega⟩
      obtain rfl : i = 8 := by omega
      rw [fX2_waysToBring_5, if_pos (by decide)]
    | succ s ih =>
      intro i n hr2 hn
      obtain ⟨n, rfl⟩ : ∃ k, n = k + 1 := ⟨n - 1, by omega⟩
      have hi : i < 8 := by omega
      have hb := sh_bit y hy i hi
      have hb2 := sh_bit r hr i hi
      have e := ih (i + 1) n (by omega) (by omega)
      rw [prd_s] at e
      rw [fX2_waysToBring_5, if_neg (ge8 hi)]
      unfold fX2_waysToBring_41
      rw [show nI i + 1 = nI (i + 1) from nadd i 1]
      cases q : r.testBit i with
      | false =>
        rw [q, if_neg (by decide)] at e
        rw [if_neg (fun z => by rw [hb2.2.mp z] at q; cases q)]
        exact e
      | true =>
        rw [q, if_pos rfl] at e
        rw [if_pos (hb2.2.mpr q)]
        cases w : y.testBit i with
        | false =>
          rw [w, if_neg (by decide)] at e
          rw [if_neg (fun z => by rw [hb.2.mp z] at w; cases w), L10, nsub hx, nmul]
          exact e
        | true =>
          rw [w, if_pos rfl] at e
          rw [if_pos (hb.2.mpr w), nmul]
          exact e
  exact key 8 0 FU rfl (by decide)
def sm (h : Nat → Nat) : Nat → Nat
  | 0 => 0
  | i+1 => sm h i + h i
noncomputable def term (ro : RO) (g : Nat → Int32) (r a0 x n M y : Nat) : Nat := if sub8 y r = true ∧ n ≤ M + (pst ro g a0 y ro.P).2 then prd r x y 8 else 0
theorem co_sum {ro : RO} {T : Nat} {g : Nat → Int32} (h : VB ro.P T ro.fm g) {f : hF} (hr : RR ro f) (hc : CB f 20 g) {r a0 x n M : Nat} (hr6 : r < 256) (ha : a0 < 256) (hx : x ≤ 10) (hn : n ≤ 8) (hM : M ≤ 24) : fX2_waysToWed_25 19 3 (nI n) (nI x) FU f (nI r) (nI a0) (nI M) 0 0 = some (nI (sm (term ro g r a0 x n M) 256), f) := by
  have hP := hr.ok.2.1
  have key : ∀ (s y m : Nat), y + s = 256 → s < m → fX2_waysToWed_25 19 3 (nI n) (nI x) m f (nI r) (nI a0) (nI M) (nI (sm (term ro g r a0 x n M) y)) (nI y) = some (nI (sm (term ro g r a0 x n M) 256), f) := by
    intro s
    induction s with
    | zero =>
      intro y m hr2 hm
      obtain ⟨m, rfl⟩ : ∃ k, m = k + 1 := ⟨m - 1, by omega⟩
      obtain rfl : y = 256 := by omega
      rw [fX2_waysToWed_25, if_pos (by decide)]
    | succ s ih =>
      intro y m hr2 hm
      obtain ⟨m, rfl⟩ : ∃ k, m = k + 1 := ⟨m - 1, by omega⟩
      have hy : y < 256 := by omega
      have hk := (pst_ok (ro := ro) (g := g) (y := y) ha ro.P).2
      have e := ih (y + 1) m (by omega) (by omega)
      rw [show sm (term ro g r a0 x n M) (y + 1) = sm (term ro g r a0 x n M) y + term ro g r a0 x n M y from rfl] at e
      rw [fX2_waysToWed_25, if_neg (show ¬ (256 : Int32) ≤ nI y from fun z => by have := (nI_leI (a := 256) (by omega) (by omega)).mp z; omega), co_touted h hr hc ha hy, b1s, co_ways hy hr6 hx, b1s, nadd, show nI y + 1 = nI (y + 1) from nadd y 1, nadd]
      by_cases q : sub8 y r = true
      · rw [if_pos ((sub_iff hy hr6).mpr q)]
        by_cases w : n ≤ M + (pst ro g a0 y ro.P).2
        · rw [if_neg (fun z => by have := (nI_ltI (by omega) (by omega)).mp z; omega)]
          rw [show term ro g r a0 x n M y = prd r x y 8 from if_pos ⟨q, w⟩] at e
          exact e
        · rw [if_pos ((nI_ltI (by omega) (by omega)).mpr (by omega))]
          rw [show term ro g r a0 x n M y = 0 from if_neg (fun z => w z.2)] at e
          exact e
      · rw [if_neg (fun z => q ((sub_iff hy hr6).mp z))]
        rw [show term ro g r a0 x n M y = 0 from if_neg (fun z => q z.1)] at e
        exact e
  exact key 256 0 FU rfl (by decide)
theorem co_singles {ro : RO} {T : Nat} {g : Nat → Int32} (h : VB ro.P T ro.fm g) (hT : T < 1000000) {f : hF} (hr : RR ro f) (hc : CB f 20 g) (v : Bool) : ∃ f2, fX2_singles 19 3 f (bI v) = some (nI (msk (fun i => (ro.fm i == v) && !mtdB g i) ro.P), f2) ∧ ∀ j, j ≠ 30 → j ≠ 31 → f2 j = f j := by
  have hP := hr.ok.2.1
  obtain ⟨f2, c1, c2⟩ := co_set (k := 19) (r := 3) h hP hT hc
  have hr2 := RR_sc c2.sc hr
  have hd := VB_day h hT
  refine ⟨f2, ?_, fun j j1 j2 => c2.o j j1 j2⟩
  have key : ∀ (r i n : Nat), i + r = ro.P → r < n → fX2_singles_8 19 3 (bI v) n f2 (nI (msk (fun i => (ro.fm i == v) && !mtdB g i) i)) (nI i) = some (nI (msk (fun i => (ro.fm i == v) && !mtdB g i) ro.P), f2) := by
    intro r
    induction r with
    | zero =>
      intro i n hr3 hn
      obtain ⟨n, rfl⟩ : ∃ k, n = k + 1 := ⟨n - 1, by omega⟩
      obtain rfl : i = ro.P := by omega
      rw [fX2_singles_8, hr2.c0, if_pos (Int32.le_refl _)]
    | succ r ih =>
      intro i n hr3 hn
      obtain ⟨n, rfl⟩ : ∃ k, n = k + 1 := ⟨n - 1, by omega⟩
      have hi : i < ro.P := by omega
      have e := ih (i + 1) n (by omega) (by omega)
      rw [msk_s] at e
      obtain ⟨r0, q1, q2⟩ := co_mateOf h hP hT c2.c c2.h c2.m (show i < 8 by omega) (show (g 0).toNatClampNeg < 1000000 by omega)
      have hm := mtT_n4 h hP hT c2.h q2
      have hmt : fX1_mateOf (19 + 10) (19 + 1) f2 (nI i) (f2 (19 + 1) 0) = some (mtT g i) := by
        rw [c2.c.1, hd.1, co_mateB h hP hT c2 (by omega) (by omega)]
        rfl
      rw [fX2_singles_8, hr2.c0, if_neg (fun z => by have := (nI_leI (by omega) (by omega)).mp z; omega), gdk (by omega) (by omega), ncl (by omega), (hr2.ca i hi).1, hmt, b1s, show nI i + 1 = nI (i + 1) from nadd i 1]
      by_cases w : ro.fm i = v
      · rw [if_pos (show bI (ro.fm i) = bI v by rw [w])]
        rcases hm with ⟨m1, m2⟩ | ⟨⟨b, m1, m2⟩, m3⟩
        · rw [m2, w] at e
          rw [if_pos m1, show ((1 : Int32) <<< (nI i &&& 31)) = bt i from rfl, bt_pw i (by omega), nor]
          rw [if_pos (by simp)] at e
          exact e
        · rw [m3] at e
          rw [m2, if_neg (n4 (b := b) (by omega))]
          rw [if_neg (by simp)] at e
          exact e
      · rw [if_neg (show ¬ bI (ro.fm i) = bI v from fun z => w (by have := bI_inj (a := ro.fm i) (b := v); rw [this] at z; exact z))]
        rw [if_neg (by simp [w])] at e
        exact e
  unfold fX2_singles
  rw [c1, b1s]
  exact key ro.P 0 FU (by omega) (by unfold FU; omega)
