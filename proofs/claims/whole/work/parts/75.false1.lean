/-! falseOnes: the fewest that cover, by the component -/
def elB (g : Nat → Int32) (i m w : Nat) : Bool := anyB (fun s => vtw g s && (decide (vmn g s = m) && decide (vwn g s = w))) i
theorem elB_s (g : Nat → Int32) (i m w : Nat) : elB g (i + 1) m w = (elB g i m w || (vtw g i && (decide (vmn g i = m) && decide (vwn g i = w)))) := rfl
theorem anyB_t {h : Nat → Bool} : ∀ {n : Nat}, anyB h n = true ↔ ∃ i, i < n ∧ h i = true
  | 0 => ⟨fun q => (by cases q), fun ⟨i, q, _⟩ => absurd q (Nat.not_lt_zero i)⟩
  | n+1 => by
    show (anyB h n || h n) = true ↔ _
    rw [Bool.or_eq_true, anyB_t]
    constructor
    · rintro (⟨i, a, b⟩ | q)
      · exact ⟨i, by omega, b⟩
      · exact ⟨n, by omega, q⟩
    · rintro ⟨i, a, b⟩
      by_cases e : i = n
      · exact Or.inr (by rw [← e]; exact b)
      · exact Or.inl ⟨i, by omega, b⟩
theorem elB_t {g : Nat → Int32} {i m w : Nat} : elB g i m w = true ↔ ∃ s, s < i ∧ vtw g s = true ∧ vmn g s = m ∧ vwn g s = w := by
  unfold elB
  rw [anyB_t]
  constructor
  · rintro ⟨s, a, b⟩
    simp only [Bool.and_eq_true, decide_eq_true_eq] at b
    exact ⟨s, a, b.1, b.2.1, b.2.2⟩
  · rintro ⟨s, a, b, c, d⟩
    exact ⟨s, a, by simp [b, c, d]⟩
theorem ibit_bt : ∀ w, w < 8 → ∀ p, p < 32 → ibit (bt w) p = decide (p = w) := by decide +kernel
theorem ibit_nI {n p : Nat} (hp : p < 32) : ibit (nI n) p = n.testBit p := by
  unfold ibit nI
  rw [show (Int32.ofNat n).toBitVec = BitVec.ofNat 32 n from rfl, BitVec.getLsbD_ofNat]
  simp [hp]
theorem ibit_not {x : Int32} {p : Nat} (hp : p < 32) : ibit (x ^^^ (-1)) p = !ibit x p := by
  unfold ibit
  rw [Int32.toBitVec_xor, BitVec.getLsbD_xor]
  have : (-1 : Int32).toBitVec = BitVec.allOnes 32 := by decide
  rw [this, BitVec.getLsbD_allOnes, decide_eq_true hp, Bool.xor_true]
theorem sh_bit : ∀ n, n < 256 → ∀ p, p < 8 → ((((nI n) >>> (nI p &&& 31)) &&& 1) = 0 ↔ n.testBit p = false) ∧ ((((nI n) >>> (nI p &&& 31)) &&& 1) = 1 ↔ n.testBit p = true) := by decide +kernel
def tbt (n : Nat) : Nat → Bool := fun p => n.testBit p
theorem bitc : ∀ n, n < 256 → fJ6_bitCount_0f7a4 (nI n) = some (nI (cnt (fun p => n.testBit p) 8)) := by decide +kernel
theorem cnt_cn (h : Nat → Bool) : cnt h 8 = cn r8 h := rfl
theorem co_link {ro : RO} {T : Nat} {g : Nat → Int32} (h : VB ro.P T ro.fm g) (hT : T < 1000000) {f : hF} (hr : RR ro f) (hc : CB f 20 g) : ∃ f2, fX2_linkPersons 19 3 f = some f2 ∧ (∀ j, j ≠ 32 → f2 j = f j) ∧ ∀ m, m < 8 → ∀ w, w < 32 → ibit (f2 32 m) w = elB g 24 m w := by
  have hP := hr.ok.2.1
  have lines : ∀ (r i n : Nat) (f' : hF), i + r = 24 → r < n → (∀ j, j ≠ 32 → f' j = f j) → (∀ m, m < 8 → ∀ w, w < 32 → ibit (f' 32 m) w = elB g i m w) → ∃ f2, fX2_linkPersons_23 19 3 n f' (nI i) = some f2 ∧ (∀ j, j ≠ 32 → f2 j = f j) ∧ ∀ m, m < 8 → ∀ w, w < 32 → ibit (f2 32 m) w = elB g 24 m w := by
    intro r
    induction r with
    | zero =>
      intro i n f' hr2 hn e hb
      obtain ⟨n, rfl⟩ : ∃ k, n = k + 1 := ⟨n - 1, by omega⟩
      obtain rfl : i = 24 := by omega
      exact ⟨f', by rw [fX2_linkPersons_23, if_pos (by decide)], e, hb⟩
    | succ r ih =>
      intro i n f' hr2 hn e hb
      obtain ⟨n, rfl⟩ : ∃ k, n = k + 1 := ⟨n - 1, by omega⟩
      have hi : i < 24 := by omega
      have hc' : CB f' 20 g := CB_frame (fun t t1 t2 => e t (by omega)) hc
      have hr' : RR ro f' := RR_of (fun j hj => e j (by omega)) hr
      rw [fX2_linkPersons_23, if_neg (show ¬ (24 : Int32) ≤ nI i by rw [L24, nleq (by omega) (by omega)]; omega), co_two h hc' hi, b1s, bi_if, show nI i + 1 = nI (i + 1) from nadd i 1]
      cases htw : vtw g i with
      | false =>
        rw [if_neg (by decide)]
        refine ih (i + 1) n f' (by omega) (by omega) e (fun m hm w hw => ?_)
        rw [elB_s, htw, Bool.false_and, Bool.or_false]
        exact hb m hm w hw
      | true =>
        obtain ⟨a1, a2, a2', a3, a4, a4', -⟩ := VB_two h hP hT hi htw
        have hm := CB_mw h hP hT hc' hi htw
        have hne : vmn g i ≠ vwn g i := fun q => by rw [q, a4'] at a2'; cases a2'
        rw [if_pos rfl, gdk hi (by omega), gdk hi (by omega), ncl (by omega), hm.1, hm.2.1, co_areTwo hr' a2 a4, b1s, bi_if, decide_eq_true hne, if_pos rfl, gdk hi (by omega), gdk (show vmn g i < 8 by omega) (by omega), gdk hi (by omega), gdk (show vmn g i < 8 by omega) (by omega), lte, ncl (show vmn g i < 2147483648 by omega)]
        refine ih (i + 1) n _ (by omega) (by omega) (fun j hj => by rw [s2_n hj, e j hj]) (fun m hm2 w hw => ?_)
        rw [elB_s, htw, Bool.true_and, s2_s]
        by_cases q : m = vmn g i
        · rw [q, u_s, ibit_or, hb _ (by omega) w hw, show ((1 : Int32) <<< (nI (vwn g i) &&& 31)) = bt (vwn g i) from rfl, ibit_bt _ (by omega) w hw, decide_eq_true rfl, Bool.true_and]
          by_cases y : w = vwn g i
          · rw [decide_eq_true y, decide_eq_true y.symm]
          · rw [decide_eq_false y, decide_eq_false (fun z => y z.symm)]
        · rw [u_n q, hb m hm2 w hw, decide_eq_false (fun z => q z.symm), Bool.false_and, Bool.or_false]
  have clr : ∀ (r i n : Nat) (f' : hF), i + r = 8 → r < n → (∀ j, j ≠ 32 → f' j = f j) → (∀ t, t < i → f' 32 t = 0) → ∃ f2, fX2_linkPersons_2 19 3 n f' (nI i) = some f2 ∧ (∀ j, j ≠ 32 → f2 j = f j) ∧ ∀ m, m < 8 → ∀ w, w < 32 → ibit (f2 32 m) w = elB g 24 m w := by
    intro r
    induction r with
    | zero =>
      intro i n f' hr2 hn e hz
      obtain ⟨n, rfl⟩ : ∃ k, n = k + 1 := ⟨n - 1, by omega⟩
      obtain rfl : i = 8 := by omega
      rw [fX2_linkPersons_2, if_pos (by decide)]
      exact lines 24 0 FU f' rfl (by decide) e (fun m hm w hw => by rw [hz m hm, ibit_0]; rfl)
    | succ r ih =>
      intro i n f' hr2 hn e hz
      obtain ⟨n, rfl⟩ : ∃ k, n = k + 1 := ⟨n - 1, by omega⟩
      rw [fX2_linkPersons_2, if_neg (ge8 (p := i) (by omega)), gdk (show i < 8 by omega) (by omega), lte, ncl (by omega), show nI i + 1 = nI (i + 1) from nadd i 1]
      refine ih (i + 1) n _ (by omega) (by omega) (fun j hj => by rw [s2_n hj, e j hj]) (fun t ht => ?_)
      rw [s2_s]
      by_cases q : t = i
      · rw [q, u_s]
      · rw [u_n q]; exact hz t (by omega)
  exact clr 8 0 FU f rfl (by decide) (fun _ _ => rfl) (fun t ht => absurd ht (Nat.not_lt_zero t))
def cvr (E : Nat → Nat → Bool) (n : Nat) : Prop := ∀ m w, m < 8 → w < 8 → E m w = true → n.testBit m = true ∨ n.testBit w = true
theorem co_every {f : hF} {E : Nat → Nat → Bool} (hE : ∀ m w, E m w = true → w < 8) (hb : ∀ m, m < 8 → ∀ w, w < 32 → ibit (f 32 m) w = E m w) {x : Nat} (hx : x < 256) : ∃ b, fX2_isInEveryLine 19 3 f (nI x) = some (bI b) ∧ (b = true ↔ cvr E x) := by
  have key : ∀ (r i n : Nat), i + r = 8 → r < n → (∀ m w, m < i → w < 8 → E m w = true → x.testBit m = true ∨ x.testBit w = true) → ∃ b, fX2_isInEveryLine_2 19 3 f (nI x) n (nI i) = some (bI b) ∧ (b = true ↔ cvr E x) := by
    intro r
    induction r with
    | zero =>
      intro i n hr hn hI
      obtain ⟨n, rfl⟩ : ∃ k, n = k + 1 := ⟨n - 1, by omega⟩
      obtain rfl : i = 8 := by omega
      exact ⟨true, by rw [fX2_isInEveryLine_2, if_pos (by decide)]; rfl, fun _ m w hm hw e => hI m w hm hw e, fun _ => rfl⟩
    | succ r ih =>
      intro i n hr hn hI
      obtain ⟨n, rfl⟩ : ∃ k, n = k + 1 := ⟨n - 1, by omega⟩
      have hi : i < 8 := by omega
      have hs := sh_bit x hx i hi
      rw [fX2_isInEveryLine_2, if_neg (ge8 hi), show nI i + 1 = nI (i + 1) from nadd i 1]
      have nx : (∀ w, w < 8 → E i w = true → x.testBit i = true ∨ x.testBit w = true) → ∃ b, fX2_isInEveryLine_2 19 3 f (nI x) n (nI (i + 1)) = some (bI b) ∧ (b = true ↔ cvr E x) := fun q => ih (i + 1) n (by omega) (by omega) (fun m w hm hw e => by
        by_cases z : m = i
        · rw [z] at e ⊢; exact q w hw e
        · exact hI m w (by omega) hw e)
      cases q : x.testBit i with
      | true =>
        rw [if_neg (fun z => by rw [hs.1.mp z] at q; cases q)]
        exact nx (fun w hw e => Or.inl q)
      | false =>
        rw [if_pos (hs.1.mpr q), gdk hi (by omega), ncl (by omega)]
        by_cases z : (f (19 + 13) i &&& (nI x ^^^ (-1))) = 0
        · rw [if_pos z]
          refine nx (fun w hw e => Or.inr ?_)
          have := (ibit_and0.mp z) w (by omega)
          rw [hb i hi w (by omega), ibit_not (by omega), ibit_nI (by omega), e] at this
          cases y : x.testBit w with
          | true => rfl
          | false => rw [y] at this; exact absurd ⟨rfl, rfl⟩ this
        · rw [if_neg z]
          refine ⟨false, rfl, fun y => (by cases y), fun y => absurd (ibit_and0.mpr (fun p hp => ?_)) z⟩
          rintro ⟨c1, c2⟩
          rw [hb i hi p hp] at c1
          have hp8 := hE i p c1
          rw [ibit_not hp, ibit_nI hp] at c2
          rcases y i p hi hp8 c1 with c | c
          · rw [q] at c; cases c
          · rw [c] at c2; cases c2
  exact key 8 0 FU rfl (by decide) (fun m w hm => absurd hm (Nat.not_lt_zero m))
theorem co_least {f : hF} {E : Nat → Nat → Bool} (hE : ∀ m w, E m w = true → w < 8) (hb : ∀ m, m < 8 → ∀ w, w < 32 → ibit (f 32 m) w = E m w) :
    ∃ c, fX2_mostLinesApart_9 19 3 FU f 8 0 = some (nI c, f) ∧ c ≤ 8 ∧ (∃ x, x < 256 ∧ cvr E x ∧ cnt (fun p => x.testBit p) 8 = c) ∧ ∀ x, x < 256 → cvr E x → c ≤ cnt (fun p => x.testBit p) 8 := by
  have key : ∀ (r i n c : Nat), i + r = 256 → r < n → c ≤ 8 → (∃ x, x < 256 ∧ cvr E x ∧ cnt (fun p => x.testBit p) 8 = c) → (∀ x, x < i → cvr E x → c ≤ cnt (fun p => x.testBit p) 8) →
      ∃ d, fX2_mostLinesApart_9 19 3 n f (nI c) (nI i) = some (nI d, f) ∧ d ≤ 8 ∧ (∃ x, x < 256 ∧ cvr E x ∧ cnt (fun p => x.testBit p) 8 = d) ∧ ∀ x, x < 256 → cvr E x → d ≤ cnt (fun p => x.testBit p) 8 := by
    intro r
    induction r with
    | zero =>
      intro i n c hr hn hc h1 h2
      obtain ⟨n, rfl⟩ : ∃ k, n = k + 1 := ⟨n - 1, by omega⟩
      obtain rfl : i = 256 := by omega
      exact ⟨c, by rw [fX2_mostLinesApart_9, if_pos (by decide)], hc, h1, h2⟩
    | succ r ih =>
      intro i n c hr hn hc h1 h2
      obtain ⟨n, rfl⟩ : ∃ k, n = k + 1 := ⟨n - 1, by omega⟩
      have hi : i < 256 := by omega
      have hcn := cnt_le (fun p => i.testBit p) 8
      obtain ⟨b, e1, e2⟩ := co_every hE hb hi
      rw [fX2_mostLinesApart_9, if_neg (show ¬ (256 : Int32) ≤ nI i from fun z => by have := (nI_leI (a := 256) (by omega) (by omega)).mp z; omega), bitc i hi, b1s, e1, b1s, bi_if, show nI i + 1 = nI (i + 1) from nadd i 1]
      by_cases z : c ≤ cnt (fun p => i.testBit p) 8
      · rw [if_pos ((nI_leI (by omega) (by omega)).mpr z)]
        refine ih (i + 1) n c (by omega) (by omega) hc h1 (fun x hx hcv => ?_)
        by_cases y : x = i
        · rw [y]; exact z
        · exact h2 x (by omega) hcv
      · rw [if_neg (fun y => z ((nI_leI (by omega) (by omega)).mp y))]
        cases b with
        | false =>
          rw [if_neg (by decide)]
          refine ih (i + 1) n c (by omega) (by omega) hc h1 (fun x hx hcv => ?_)
          by_cases y : x = i
          · rw [y] at hcv; exact absurd (e2.mpr hcv) (by decide)
          · exact h2 x (by omega) hcv
        | true =>
          rw [if_pos rfl]
          refine ih (i + 1) n _ (by omega) (by omega) hcn ⟨i, hi, e2.mp rfl, rfl⟩ (fun x hx hcv => ?_)
          by_cases y : x = i
          · rw [y]; exact Nat.le_refl _
          · have := h2 x (by omega) hcv; omega
  refine key 256 0 FU 8 rfl (by decide) (Nat.le_refl 8) ⟨255, by decide, fun m w hm _ _ => Or.inl ?_, by decide⟩ (fun x hx => absurd hx (Nat.not_lt_zero x))
  exact (by decide : ∀ m, m < 8 → (255 : Nat).testBit m = true) m hm
