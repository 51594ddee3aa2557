/-! touts: sums over those brought, lowest terms; by both -/
theorem sm_congr {h h' : Nat → Nat} : ∀ {n : Nat}, (∀ i, i < n → h i = h' i) → sm h n = sm h' n
  | 0, _ => rfl
  | n+1, e => by
    show sm h n + h n = sm h' n + h' n
    rw [sm_congr (n := n) (fun i hi => e i (by omega)), e n (by omega)]
theorem sm_le {h h' : Nat → Nat} : ∀ {n : Nat}, (∀ i, i < n → h i ≤ h' i) → sm h n ≤ sm h' n
  | 0, _ => Nat.le_refl _
  | n+1, e => by
    have h1 := sm_le (n := n) (fun i hi => e i (by omega))
    have h2 := e n (by omega)
    show sm h n + h n ≤ sm h' n + h' n
    omega
theorem sm_add (h : Nat → Nat) (a : Nat) : ∀ b, sm h (a + b) = sm h a + sm (fun y => h (a + y)) b
  | 0 => rfl
  | b+1 => by
    show sm h (a + b) + h (a + b) = sm h a + (sm (fun y => h (a + y)) b + h (a + b))
    rw [sm_add h a b]
    omega
theorem sm_mul (h : Nat → Nat) (c : Nat) : ∀ n, sm (fun y => h y * c) n = sm h n * c
  | 0 => by show 0 = 0 * c; omega
  | n+1 => by
    show sm (fun y => h y * c) n + h n * c = (sm h n + h n) * c
    rw [sm_mul h c n, Nat.add_mul]
theorem sm_zero {h : Nat → Nat} : ∀ {n : Nat}, (∀ i, i < n → h i = 0) → sm h n = 0
  | 0, _ => rfl
  | n+1, e => by
    show sm h n + h n = 0
    rw [sm_zero (n := n) (fun i hi => e i (by omega)), e n (by omega)]
theorem prd_congr {r x y y' : Nat} : ∀ {k : Nat}, (∀ i, i < k → y.testBit i = y'.testBit i) → prd r x y k = prd r x y' k
  | 0, _ => rfl
  | k+1, e => by
    rw [prd_s, prd_s, prd_congr (k := k) (fun i hi => e i (by omega)), e k (by omega)]
theorem allB_congr {h h' : Nat → Bool} : ∀ {n : Nat}, (∀ i, i < n → h i = h' i) → allB h n = allB h' n
  | 0, _ => rfl
  | n+1, e => by
    show (allB h n && h n) = (allB h' n && h' n)
    rw [allB_congr (n := n) (fun i hi => e i (by omega)), e n (by omega)]
def subk (y r k : Nat) : Bool := allB (fun i => !y.testBit i || r.testBit i) k
theorem sm_prd {r x : Nat} (hx : x ≤ 10) : ∀ k, sm (fun y => if subk y r k = true then prd r x y k else 0) (2 ^ k) = 10 ^ cnt (fun i => r.testBit i) k
  | 0 => rfl
  | k+1 => by
    have ih := sm_prd (r := r) hx k
    rw [cnt_s, show (2 : Nat) ^ (k + 1) = 2 ^ k + 2 ^ k by rw [Nat.pow_succ]; omega, sm_add]
    have s1 : sm (fun y => if subk y r (k + 1) = true then prd r x y (k + 1) else 0) (2 ^ k) = sm (fun y => if subk y r k = true then prd r x y k else 0) (2 ^ k) * (if r.testBit k = true then 10 - x else 1) := by
      rw [← sm_mul]
      refine sm_congr (fun y hy => ?_)
      have b := Nat.testBit_lt_two_pow hy
      have e : subk y r (k + 1) = subk y r k := by
        show (subk y r k && (!y.testBit k || r.testBit k)) = _
        rw [b]; simp
      show (if subk y r (k + 1) = true then prd r x y (k + 1) else 0) = (if subk y r k = true then prd r x y k else 0) * _
      rw [e, prd_s, b, if_neg (show ¬ false = true by decide)]
      by_cases q : subk y r k = true
      · rw [if_pos q, if_pos q]
        by_cases w : r.testBit k = true
        · rw [if_pos w, if_pos w]
        · rw [if_neg w, if_neg w, Nat.mul_one]
      · rw [if_neg q, if_neg q, Nat.zero_mul]
    have s2 : sm (fun y => if subk (2 ^ k + y) r (k + 1) = true then prd r x (2 ^ k + y) (k + 1) else 0) (2 ^ k) = sm (fun y => if subk y r k = true then prd r x y k else 0) (2 ^ k) * (if r.testBit k = true then x else 0) := by
      rw [← sm_mul]
      refine sm_congr (fun y hy => ?_)
      have b := Nat.testBit_lt_two_pow hy
      have b1 : (2 ^ k + y).testBit k = true := by rw [Nat.testBit_two_pow_add_eq, b]; rfl
      have b2 : ∀ i, i < k → (2 ^ k + y).testBit i = y.testBit i := fun i hi => Nat.testBit_two_pow_add_gt hi y
      have e : subk (2 ^ k + y) r (k + 1) = (subk y r k && r.testBit k) := by
        show (subk (2 ^ k + y) r k && (!(2 ^ k + y).testBit k || r.testBit k)) = _
        rw [b1]
        have : subk (2 ^ k + y) r k = subk y r k := allB_congr (fun i hi => by rw [b2 i hi])
        rw [this]; simp
      show (if subk (2 ^ k + y) r (k + 1) = true then prd r x (2 ^ k + y) (k + 1) else 0) = (if subk y r k = true then prd r x y k else 0) * _
      rw [e, prd_s, b1, if_pos (show true = true from rfl), prd_congr b2]
      cases w : r.testBit k with
      | true =>
        rw [Bool.and_true, if_pos (show true = true from rfl), if_pos (show true = true from rfl)]
        by_cases q : subk y r k = true
        · rw [if_pos q, if_pos q]
        · rw [if_neg q, if_neg q, Nat.zero_mul]
      | false =>
        rw [Bool.and_false, if_neg (show ¬ false = true by decide), if_neg (show ¬ false = true by decide), Nat.mul_zero]
    show _ + sm (fun y => if subk (2 ^ k + y) r (k + 1) = true then prd r x (2 ^ k + y) (k + 1) else 0) (2 ^ k) = _
    rw [s1, s2, ih]
    cases w : r.testBit k with
    | true =>
      rw [if_pos (show true = true from rfl), if_pos (show true = true from rfl), if_pos (show true = true from rfl), Nat.pow_succ, ← Nat.mul_add, show 10 - x + x = 10 by omega]
    | false =>
      rw [if_neg (show ¬ false = true by decide), if_neg (show ¬ false = true by decide), if_neg (show ¬ false = true by decide), Nat.mul_one, Nat.mul_zero, Nat.add_zero, Nat.add_zero]
/-- lowest terms -/
theorem gcd_step (a b : Nat) : Nat.gcd a b = Nat.gcd b (a % b) := by rw [Nat.gcd_comm a b, Nat.gcd_rec b a, Nat.gcd_comm]
theorem co_gcd {u v : Int32} : ∀ (k a b i n : Nat), a < 2147483648 → b < 2147483648 → b < 2 ^ k → i + 2 * k ≤ 60 → 2 * k < n → fX7_commonDivisor_7 u v n (nI a) (nI b) (nI i) = some (nI (Nat.gcd a b)) := by
  have z : ∀ (a i n : Nat), i ≤ 60 → fX7_commonDivisor_7 u v (n + 1) (nI a) (nI 0) (nI i) = some (nI (Nat.gcd a 0)) := fun a i n hi => by
    rw [fX7_commonDivisor_7, if_neg (show ¬ (64 : Int32) ≤ nI i from fun z => by have := (nI_leI (a := 64) (by omega) (by omega)).mp z; omega), if_pos (show nI 0 = 0 from rfl), Nat.gcd_zero_right]
  have st : ∀ (a b i n : Nat), i ≤ 60 → a < 2147483648 → b < 2147483648 → 0 < b → fX7_commonDivisor_7 u v (n + 1) (nI a) (nI b) (nI i) = fX7_commonDivisor_7 u v n (nI b) (nI (a % b)) (nI (i + 1)) := fun a b i n hi ha hb hb0 => by
    have hne : ¬ nI b = 0 := fun z => by have := (nI_eq (b := 0) (by omega) (by omega)).mp z; omega
    rw [fX7_commonDivisor_7, if_neg (show ¬ (64 : Int32) ≤ nI i from fun z => by have := (nI_leI (a := 64) (by omega) (by omega)).mp z; omega), if_neg hne, nzk hne, nrem ha hb0 hb, show nI i + 1 = nI (i + 1) from nadd i 1]
  intro k
  induction k with
  | zero =>
    intro a b i n ha hb hk hi hn
    obtain ⟨n, rfl⟩ : ∃ k, n = k + 1 := ⟨n - 1, by omega⟩
    obtain rfl : b = 0 := by omega
    exact z a i n (by omega)
  | succ k ih =>
    intro a b i n ha hb hk hi hn
    obtain ⟨n, rfl⟩ : ∃ k, n = k + 3 := ⟨n - 3, by omega⟩
    by_cases b0 : b = 0
    · subst b0; exact z a i _ (by omega)
    · have hr := Nat.mod_lt a (show b > 0 by omega)
      rw [st a b i (n + 2) (by omega) ha hb (by omega), gcd_step a b]
      by_cases r0 : a % b = 0
      · rw [r0]; exact z b (i + 1) (n + 1) (by omega)
      · have hr2 := Nat.mod_lt b (show a % b > 0 by omega)
        have hlt : b % (a % b) < 2 ^ k := by
          have h2 : 2 ^ (k + 1) = 2 * 2 ^ k := by rw [Nat.pow_succ]; omega
          have h3 : 2 * (b % (a % b)) < b := by
            have h4 := Nat.mod_add_div b (a % b)
            have h5 : 1 ≤ b / (a % b) := (Nat.one_le_div_iff (by omega)).mpr (by omega)
            have h6 : (a % b) * 1 ≤ (a % b) * (b / (a % b)) := Nat.mul_le_mul_left _ h5
            omega
          omega
        rw [st b (a % b) (i + 1) (n + 1) (by omega) hb (by omega) (by omega), gcd_step b (a % b)]
        exact ih (a % b) (b % (a % b)) (i + 2) (n + 1) (by omega) (by omega) hlt (by omega) (by omega)
theorem mo_gcd {x1 x2 x3 : Int32} {f : hF} {t w : Nat} : ∀ (k a b n : Nat), a < 2147483648 → b < 2147483648 → b < 2 ^ k → 2 * k < n → 0 < Nat.gcd a b →
    fX8_touts_150 x1 x2 x3 n f (nI t) (nI w) (nI a) (nI b) = if x3 = 0 then some (nI w / nI (Nat.gcd a b), f) else some (nI t / nI (Nat.gcd a b), f) := by
  have z : ∀ (a n : Nat), a < 2147483648 → 0 < Nat.gcd a 0 → fX8_touts_150 x1 x2 x3 (n + 1) f (nI t) (nI w) (nI a) (nI 0) = if x3 = 0 then some (nI w / nI (Nat.gcd a 0), f) else some (nI t / nI (Nat.gcd a 0), f) := fun a n ha hg => by
    rw [Nat.gcd_zero_right] at hg ⊢
    have hne : ¬ nI a = 0 := fun z => by have := (nI_eq (b := 0) (by omega) (by omega)).mp z; omega
    rw [fX8_touts_150, if_pos (show nI 0 ≤ 0 by decide), nzk hne, nzk hne]
  have st : ∀ (a b n : Nat), a < 2147483648 → b < 2147483648 → 0 < b → fX8_touts_150 x1 x2 x3 (n + 1) f (nI t) (nI w) (nI a) (nI b) = fX8_touts_150 x1 x2 x3 n f (nI t) (nI w) (nI b) (nI (a % b)) := fun a b n ha hb hb0 => by
    have hne : ¬ nI b = 0 := fun z => by have := (nI_eq (b := 0) (by omega) (by omega)).mp z; omega
    rw [fX8_touts_150, if_neg (show ¬ nI b ≤ (0 : Int32) from fun z => by have := (nI_leI (b := 0) (by omega) (by omega)).mp z; omega), nzk hne, nrem ha hb0 hb]
  intro k
  induction k with
  | zero =>
    intro a b n ha hb hk hn hg
    obtain ⟨n, rfl⟩ : ∃ k, n = k + 1 := ⟨n - 1, by omega⟩
    obtain rfl : b = 0 := by omega
    exact z a n ha hg
  | succ k ih =>
    intro a b n ha hb hk hn hg
    obtain ⟨n, rfl⟩ : ∃ k, n = k + 3 := ⟨n - 3, by omega⟩
    by_cases b0 : b = 0
    · subst b0; exact z a _ ha hg
    · have hr := Nat.mod_lt a (show b > 0 by omega)
      rw [gcd_step a b] at hg
      rw [st a b (n + 2) ha hb (by omega), gcd_step a b]
      by_cases r0 : a % b = 0
      · rw [r0] at hg ⊢; exact z b (n + 1) hb hg
      · have hr2 := Nat.mod_lt b (show a % b > 0 by omega)
        have hlt : b % (a % b) < 2 ^ k := by
          have h2 : 2 ^ (k + 1) = 2 * 2 ^ k := by rw [Nat.pow_succ]; omega
          have h3 : 2 * (b % (a % b)) < b := by
            have h4 := Nat.mod_add_div b (a % b)
            have h5 : 1 ≤ b / (a % b) := (Nat.one_le_div_iff (by omega)).mpr (by omega)
            have h6 : (a % b) * 1 ≤ (a % b) * (b / (a % b)) := Nat.mul_le_mul_left _ h5
            omega
          omega
        rw [gcd_step b (a % b)] at hg
        rw [st b (a % b) (n + 1) hb (by omega) (by omega), gcd_step b (a % b)]
        exact ih (a % b) (b % (a % b)) (n + 1) (by omega) (by omega) hlt (by omega) hg
theorem co_ten {x1 x2 x3 : Int32} {f : hF} : ∀ (c j n : Nat), c + j ≤ 8 → c < n → fX7_touts_45 x1 x2 x3 n f (nI (10 ^ j)) (nI c) = (b2 (fX2_waysToWed 19 3 f x1 x2) fun r2 f3 => b1 (fX7_commonDivisor r2 (nI (10 ^ (j + c)))) fun r4 =>
    (if 1 ≤ r4 then (if x3 = 0 then nz r4 <| some ((r2 / r4), f3) else nz r4 <| some ((nI (10 ^ (j + c)) / r4), f3)) else some ((-4), f3))) := by
  intro c
  induction c with
  | zero =>
    intro j n hj hn
    obtain ⟨n, rfl⟩ : ∃ k, n = k + 1 := ⟨n - 1, by omega⟩
    rw [fX7_touts_45, if_pos (by decide), Nat.add_zero]
  | succ c ih =>
    intro j n hj hn
    obtain ⟨n, rfl⟩ : ∃ k, n = k + 1 := ⟨n - 1, by omega⟩
    rw [fX7_touts_45, if_neg (show ¬ nI (c + 1) ≤ (0 : Int32) from fun z => by have := (nI_leI (b := 0) (by omega) (by omega)).mp z; omega), show nI (10 ^ j) * 10 = nI (10 ^ (j + 1)) from by rw [Nat.pow_succ]; exact nmul _ 10, show nI (c + 1) + (-1) = nI c by rw [← Int32.sub_eq_add_neg, nI_pred], ih (j + 1) n (by omega) (by omega), show j + 1 + c = j + (c + 1) by omega]
theorem mo_ten {x1 x2 x3 : Int32} {f : hF} {P r : Nat} (hP : P ≤ 8) (hr : r < 256) (h0 : f 146 0 = nI P) : ∀ (s p n : Nat), p + s = P → s < n → fX8_touts_43 x1 x2 x3 n f (nI r) (nI (10 ^ cnt (fun i => r.testBit i) p)) (nI p) = fX8_touts_85 x1 x2 x3 FU f (nI r) (nI (10 ^ cnt (fun i => r.testBit i) P)) 0 0 := by
  intro s
  induction s with
  | zero =>
    intro p n hps hn
    obtain ⟨n, rfl⟩ : ∃ k, n = k + 1 := ⟨n - 1, by omega⟩
    obtain rfl : p = P := by omega
    rw [fX8_touts_43, h0, if_pos (Int32.le_refl _)]
  | succ s ih =>
    intro p n hps hn
    obtain ⟨n, rfl⟩ : ∃ k, n = k + 1 := ⟨n - 1, by omega⟩
    have e := ih (p + 1) n (by omega) (by omega)
    rw [cnt_s] at e
    rw [fX8_touts_43, h0, if_neg (fun z => by have := (nI_leI (by omega) (by omega)).mp z; omega), has_bit hr (by omega), b1s, bi_if]
    unfold fX8_touts_70
    rw [show nI p + 1 = nI (p + 1) from nadd p 1]
    cases q : r.testBit p with
    | false =>
      rw [q, if_neg (by decide), Nat.add_zero] at e
      rw [if_neg (by decide), Int32.mul_one]
      exact e
    | true =>
      rw [q, if_pos rfl, Nat.pow_succ] at e
      rw [if_pos rfl, show nI (10 ^ cnt (fun i => r.testBit i) p) * 10 = nI (10 ^ cnt (fun i => r.testBit i) p * 10) from nmul _ 10]
      exact e
theorem mo_singles {ro : RO} {T : Nat} {f : hF} (h : R T ro f) (hT : T < 1000000) : ∃ f5, fX8_singles f = some (nI (msk (fun i => (ro.fm i == true) && !mtdB (f 149) i) ro.P), f5) ∧ AH f f5 := by
  have hP := h.rr.ok.2.1
  obtain ⟨f5, a1, a2, a3⟩ := h.ah hT
  refine ⟨f5, ?_, a3⟩
  have hr5 := a3.rr h.rr
  have hV : VB ro.P T ro.fm (f5 158) := by rw [a3.b]; exact h.bk.1
  have key : ∀ (r i n : Nat), i + r = ro.P → r < n → fX8_singles_12 n f5 (nI (msk (fun i => (ro.fm i == true) && !mtdB (f 149) i) i)) (nI i) = some (nI (msk (fun i => (ro.fm i == true) && !mtdB (f 149) i) ro.P), f5) := by
    intro r
    induction r with
    | zero =>
      intro i n hr3 hn
      obtain ⟨n, rfl⟩ : ∃ k, n = k + 1 := ⟨n - 1, by omega⟩
      obtain rfl : i = ro.P := by omega
      rw [fX8_singles_12, hr5.m0, if_pos (Int32.le_refl _)]
    | succ r ih =>
      intro i n hr3 hn
      obtain ⟨n, rfl⟩ : ∃ k, n = k + 1 := ⟨n - 1, by omega⟩
      have hi : i < ro.P := by omega
      have e := ih (i + 1) n (by omega) (by omega)
      rw [msk_s] at e
      have hm := mo_isMated hV hP hT a3.h' a3.d' (show i < 8 by omega)
      rw [a3.b] at hm
      rw [fX8_singles_12, hr5.m0, if_neg (fun z => by have := (nI_leI (by omega) (by omega)).mp z; omega), mo_wom hr5 hi, b1s, hm, b1s, bi_if, bi_if]
      unfold fX8_singles_43 fX8_singles_44
      rw [show nI i + 1 = nI (i + 1) from nadd i 1, or_0, show ((1 : Int32) <<< (nI i &&& 31)) = bt i from rfl, bt_pw i (by omega), nor]
      cases a : ro.fm i with
      | false =>
        rw [if_neg (by rw [a]; simp)] at e
        rw [if_neg (by decide)]
        exact e
      | true =>
        rw [if_pos rfl]
        cases b : mtdB (f 149) i with
        | true =>
          rw [if_neg (by rw [b]; simp)] at e
          rw [if_pos rfl]
          exact e
        | false =>
          rw [if_pos (by rw [a, b]; rfl)] at e
          rw [if_neg (by decide)]
          exact e
  unfold fX8_singles
  rw [a1, b1s, a2, b1s]
  exact key ro.P 0 FU (by omega) (by unfold FU; omega)
theorem cnt_high {h : Nat → Bool} {P : Nat} : ∀ {n : Nat}, P ≤ n → (∀ i, P ≤ i → i < n → h i = false) → cnt h n = cnt h P
  | 0, a, _ => by obtain rfl : P = 0 := by omega
                  rfl
  | n+1, a, e => by
    by_cases q : P = n + 1
    · rw [q]
    · rw [cnt_s, e n (by omega) (by omega), cnt_high (n := n) (by omega) (fun i h1 h2 => e i h1 (by omega))]
      rfl
theorem prd_high {r x y P : Nat} : ∀ {n : Nat}, P ≤ n → (∀ i, P ≤ i → i < n → r.testBit i = false) → prd r x y n = prd r x y P
  | 0, a, _ => by obtain rfl : P = 0 := by omega
                  rfl
  | n+1, a, e => by
    by_cases q : P = n + 1
    · rw [q]
    · rw [prd_s, e n (by omega) (by omega), prd_high (n := n) (by omega) (fun i h1 h2 => e i h1 (by omega))]
      rfl
