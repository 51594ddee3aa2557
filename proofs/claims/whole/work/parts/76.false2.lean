/-! falseOnes: the most that are apart, by the reference; one number -/
def enc (v : Nat) : Int32 := if v = 0 then -1 else nI (v - 1)
theorem enc_neg {v : Nat} (h : v < 1000000) : enc v < 0 ↔ v = 0 := by
  unfold enc
  by_cases e : v = 0
  · rw [if_pos e]; exact ⟨fun _ => e, fun _ => by decide⟩
  · rw [if_neg e]; exact ⟨fun z => absurd z (nI_pos (by omega)), fun z => absurd z e⟩
theorem enc_add (v : Nat) : enc v + 1 = nI v := by
  unfold enc
  by_cases e : v = 0
  · rw [if_pos e, e]; decide
  · rw [if_neg e, show nI (v - 1) + 1 = nI (v - 1 + 1) from nadd _ 1, show v - 1 + 1 = v by omega]
theorem enc_s (v : Nat) : enc (v + 1) = nI v := by
  unfold enc
  rw [if_neg (by omega), show v + 1 - 1 = v by omega]
theorem enc_dec (t : Nat) : nI t + (-1) = enc t := by
  cases t with
  | zero => decide
  | succ t =>
    rw [enc_s, ← nI_pred t]
    rw [Int32.sub_eq_add_neg]
theorem enc_le {u v : Nat} (hu : u < 1000000) (hv : v < 1000000) : nI u ≤ enc v ↔ u + 1 ≤ v := by
  unfold enc
  by_cases e : v = 0
  · rw [if_pos e]
    exact ⟨fun z => absurd (Int32.lt_of_le_of_lt z (by decide)) (nI_pos (by omega)), fun z => by omega⟩
  · rw [if_neg e, nI_leI (by omega) (by omega)]; omega
theorem enc_ge {u v : Nat} (hu : u < 1000000) (hv : v < 1000000) : enc v ≤ nI u ↔ v ≤ u + 1 := by
  unfold enc
  by_cases e : v = 0
  · rw [if_pos e]
    exact ⟨fun _ => by omega, fun _ => Int32.le_of_lt (Int32.lt_of_lt_of_le (by decide) (nI_pos' (by omega)))⟩
  · rw [if_neg e, nI_leI (by omega) (by omega)]; omega
theorem nor (a b : Nat) : nI a ||| nI b = nI (a ||| b) := by
  apply Int32.toBitVec_inj.mp
  apply BitVec.eq_of_getLsbD_eq
  intro p hp
  have h1 := ibit_or (nI a) (nI b) p
  rw [ibit_nI hp, ibit_nI hp, ← Nat.testBit_or, ← ibit_nI hp] at h1
  exact h1
def pw (m w : Nat) : Nat := 2 ^ m ||| 2 ^ w
theorem i2_pw : ∀ m, m < 8 → ∀ w, w < 8 → i2 m w = nI (pw m w) := by decide +kernel
theorem pw_lt : ∀ m, m < 8 → ∀ w, w < 8 → pw m w < 256 := by decide +kernel
theorem pw_bit {m w i : Nat} : (pw m w).testBit i = true ↔ m = i ∨ w = i := by
  unfold pw
  rw [Nat.testBit_or, Nat.testBit_two_pow, Nat.testBit_two_pow]
  simp
def un : List (Nat × Nat) → Nat
  | [] => 0
  | p :: M => un M ||| pw p.1 p.2
theorem un_bit {M : List (Nat × Nat)} {i : Nat} : (un M).testBit i = true ↔ ∃ p, p ∈ M ∧ (p.1 = i ∨ p.2 = i) := by
  induction M with
  | nil => simp [un]
  | cons p M ih =>
    show (un M ||| pw p.1 p.2).testBit i = true ↔ _
    rw [Nat.testBit_or, Bool.or_eq_true, ih, pw_bit]
    constructor
    · rintro (⟨q, h1, h2⟩ | h)
      · exact ⟨q, List.mem_cons_of_mem _ h1, h2⟩
      · exact ⟨p, List.mem_cons_self, h⟩
    · rintro ⟨q, h1, h2⟩
      rcases List.mem_cons.mp h1 with rfl | h1
      · exact Or.inr h2
      · exact Or.inl ⟨q, h1, h2⟩
theorem un_lt {M : List (Nat × Nat)} (h : ∀ p ∈ M, p.1 < 8 ∧ p.2 < 8) : un M < 256 := by
  induction M with
  | nil => decide
  | cons p M ih =>
    have h1 := ih (fun q hq => h q (List.mem_cons_of_mem _ hq))
    have h2 := h p List.mem_cons_self
    exact Nat.or_lt_two_pow (n := 8) h1 (pw_lt _ h2.1 _ h2.2)
/-- who is a man, who a woman: the pairs keep it -/
def gen (fm : Nat → Bool) (E : Nat → Nat → Bool) : Prop := ∀ m w, E m w = true → fm m = false ∧ fm w = true
theorem weak {fm : Nat → Bool} {E : Nat → Nat → Bool} (hg : gen fm E) : ∀ (M : List (Nat × Nat)) (X : Nat → Bool), Mat E M → (∀ p ∈ M, X p.1 = true ∨ X p.2 = true) → M.length ≤ cn r8 X
  | [], _, _, _ => Nat.zero_le _
  | p :: M, X, hM, hX => by
    have hp := hM.1 p List.mem_cons_self
    have hgp := hg _ _ hp.2.2
    have hpw := List.pairwise_cons.mp hM.2
    have hM' : Mat E M := ⟨fun q hq => hM.1 q (List.mem_cons_of_mem _ hq), hpw.2⟩
    have fin : ∀ e, e < 8 → X e = true → (e = p.1 ∨ e = p.2) → (p :: M).length ≤ cn r8 X := by
      intro e he hXe hee
      have hne : ∀ q ∈ M, q.1 ≠ e ∧ q.2 ≠ e := by
        intro q hq
        have hgq := hg _ _ (hM'.1 q hq).2.2
        have h12 := hpw.1 q hq
        rcases hee with rfl | rfl
        · exact ⟨fun z => h12.1 z.symm, fun z => by rw [z, hgp.1] at hgq; exact absurd hgq.2 (by decide)⟩
        · exact ⟨fun z => by rw [z, hgp.2] at hgq; exact absurd hgq.1 (by decide), fun z => h12.2 z.symm⟩
      have h1 := weak hg M (fun x => X x && !(x == e)) hM' (fun q hq => by
        have := hne q hq
        rcases hX q (List.mem_cons_of_mem _ hq) with z | z
        · left; simp [z, this.1]
        · right; simp [z, this.2])
      have h2 := cn_add (p := fun x => X x && !(x == e)) he (by simp)
      have h3 : cn r8 (fun x => (X x && !(x == e)) || x == e) = cn r8 X := cn_eq (fun x _ => by
        by_cases z : x = e
        · rw [z, hXe]; simp
        · show ((X x && !(x == e)) || (x == e)) = X x
          rw [beq_false_of_ne z]
          cases X x <;> rfl)
      show M.length + 1 ≤ _
      omega
    rcases hX p List.mem_cons_self with z | z
    · exact fin p.1 hp.1 z (Or.inl rfl)
    · exact fin p.2 hp.2.1 z (Or.inr rfl)
theorem mat_le {fm : Nat → Bool} {E : Nat → Nat → Bool} (hg : gen fm E) {M : List (Nat × Nat)} (hM : Mat E M) : M.length ≤ 8 :=
  Nat.le_trans (weak hg M (fun _ => true) hM (fun _ _ => Or.inl rfl)) (by decide)
def InvA (E : Nat → Nat → Bool) (a : Nat → Nat) : Prop := ∀ x, x < 256 → a x = 0 ∨ ∃ M, Mat E M ∧ un M = x ∧ a x = M.length + 1
def InvB (E : Nat → Nat → Bool) (a : Nat → Nat) : Prop := ∀ M, Mat E M → M.length + 1 ≤ a (un M)
theorem InvA_le {fm : Nat → Bool} {E : Nat → Nat → Bool} {a : Nat → Nat} (hg : gen fm E) (h : InvA E a) {x : Nat} (hx : x < 256) : a x ≤ 9 := by
  rcases h x hx with e | ⟨M, h1, -, h3⟩
  · omega
  · have := mat_le hg h1; omega
/-- one line more: all that are apart are reached -/
theorem InvB_s {fm : Nat → Bool} {E E' : Nat → Nat → Bool} {a c : Nat → Nat} {m w : Nat} (hm : m < 8) (hw : w < 8) (hg : gen fm E') (hE : ∀ x y, E' x y = true ↔ E x y = true ∨ (x = m ∧ y = w)) (hB : InvB E a) (mono : ∀ x, x < 256 → a x ≤ c x)
    (done : ∀ y, y < 256 → 1 ≤ a y → y.testBit m = false → y.testBit w = false → a y + 1 ≤ c (y ||| pw m w)) : InvB E' c := by
  intro M hM
  have hlt := un_lt (fun p hp => ⟨(hM.1 p hp).1, (hM.1 p hp).2.1⟩)
  by_cases q : (m, w) ∈ M
  · obtain ⟨A, B, rfl⟩ := List.append_of_mem q
    have hgm := hg m w ((hE m w).mpr (Or.inr ⟨rfl, rfl⟩))
    have hp := List.pairwise_append.mp hM.2
    have hpc := List.pairwise_cons.mp hp.2.1
    have ne : ∀ p ∈ A ++ B, p.1 ≠ m ∧ p.2 ≠ w := by
      intro p hpm
      rcases List.mem_append.mp hpm with z | z
      · have := hp.2.2 p z (m, w) List.mem_cons_self
        exact this
      · have := hpc.1 p z
        exact ⟨fun y => this.1 y.symm, fun y => this.2 y.symm⟩
    have mem : ∀ p, p ∈ A ++ B → p ∈ A ++ (m, w) :: B := by
      intro p hpm
      rcases List.mem_append.mp hpm with z | z
      · exact List.mem_append.mpr (Or.inl z)
      · exact List.mem_append.mpr (Or.inr (List.mem_cons_of_mem _ z))
    have hM2 : Mat E (A ++ B) := by
      refine ⟨fun p hpm => ?_, ?_⟩
      · have := hM.1 p (mem p hpm)
        refine ⟨this.1, this.2.1, ?_⟩
        rcases (hE _ _).mp this.2.2 with z | ⟨z, -⟩
        · exact z
        · exact absurd z (ne p hpm).1
      · exact List.pairwise_append.mpr ⟨hp.1, hpc.2, fun x hx y hy => hp.2.2 x hx y (List.mem_cons_of_mem _ hy)⟩
    have hb := hB _ hM2
    have hlt2 := un_lt (fun p hp => ⟨(hM2.1 p hp).1, (hM2.1 p hp).2.1⟩)
    have bm : (un (A ++ B)).testBit m = false := by
      cases z : (un (A ++ B)).testBit m with
      | false => rfl
      | true =>
        obtain ⟨p, h1, h2⟩ := un_bit.mp z
        rcases h2 with h2 | h2
        · exact absurd h2 (ne p h1).1
        · have := hg _ _ (hM.1 p (mem p h1)).2.2
          rw [h2, hgm.1] at this
          exact absurd this.2 (by decide)
    have bw : (un (A ++ B)).testBit w = false := by
      cases z : (un (A ++ B)).testBit w with
      | false => rfl
      | true =>
        obtain ⟨p, h1, h2⟩ := un_bit.mp z
        rcases h2 with h2 | h2
        · have := hg _ _ (hM.1 p (mem p h1)).2.2
          rw [h2, hgm.2] at this
          exact absurd this.1 (by decide)
        · exact absurd h2 (ne p h1).2
    have hd := done _ hlt2 (by omega) bm bw
    have eu : un (A ++ B) ||| pw m w = un (A ++ (m, w) :: B) := by
      apply Nat.eq_of_testBit_eq
      intro i
      rw [Bool.eq_iff_iff, Nat.testBit_or, Bool.or_eq_true, un_bit, pw_bit, un_bit]
      constructor
      · rintro (⟨p, h1, h2⟩ | h)
        · exact ⟨p, mem p h1, h2⟩
        · exact ⟨(m, w), List.mem_append.mpr (Or.inr List.mem_cons_self), h⟩
      · rintro ⟨p, h1, h2⟩
        rcases List.mem_append.mp h1 with z | z
        · exact Or.inl ⟨p, List.mem_append.mpr (Or.inl z), h2⟩
        · rcases List.mem_cons.mp z with rfl | z
          · exact Or.inr h2
          · exact Or.inl ⟨p, List.mem_append.mpr (Or.inr z), h2⟩
    rw [eu] at hd
    rw [List.length_append, List.length_cons]
    rw [List.length_append] at hb
    omega
  · have hM2 : Mat E M := ⟨fun p hp => by
      have := hM.1 p hp
      refine ⟨this.1, this.2.1, ?_⟩
      rcases (hE _ _).mp this.2.2 with z | ⟨z1, z2⟩
      · exact z
      · exact absurd (show (m, w) ∈ M by rw [← z1, ← z2]; exact hp) q, hM.2⟩
    exact Nat.le_trans (hB M hM2) (mono _ hlt)
theorem fo_pass {fm : Nat → Bool} {E E' : Nat → Nat → Bool} {a : Nat → Nat} {m w : Nat} (hm : m < 8) (hw : w < 8) (hg : gen fm E') (hE : ∀ x y, E' x y = true ↔ E x y = true ∨ (x = m ∧ y = w)) (q38 : hF → Int32 → Int32 → Option (Int32 × hF)) (y1 y2 : Int32) (f0 : hF) :
    ∀ (t n : Nat) (f : hF) (c : Nat → Nat), t ≤ 256 → t < n → (∀ j, j ≠ 161 → f j = f0 j) → (∀ x, x < 256 → f 161 x = enc (c x)) → InvA E' c → (∀ x, x < 256 → a x ≤ c x) → (∀ y, t ≤ y → y < 256 → 1 ≤ a y → y.testBit m = false → y.testBit w = false → a y + 1 ≤ c (y ||| pw m w)) →
      ∃ f2 c2, fX8_falseOnes_76 q38 n f y1 y2 (i2 m w) (enc t) = q38 f2 y1 (y2 + 1) ∧ (∀ j, j ≠ 161 → f2 j = f0 j) ∧ (∀ x, x < 256 → f2 161 x = enc (c2 x)) ∧ InvA E' c2 ∧ (∀ x, x < 256 → a x ≤ c2 x) ∧ ∀ y, y < 256 → 1 ≤ a y → y.testBit m = false → y.testBit w = false → a y + 1 ≤ c2 (y ||| pw m w) := by
  intro t
  induction t with
  | zero =>
    intro n f c _ hn e h1 h2 h3 h4
    obtain ⟨n, rfl⟩ : ∃ k, n = k + 1 := ⟨n - 1, by omega⟩
    exact ⟨f, c, by rw [fX8_falseOnes_76, if_pos (by decide)], e, h1, h2, h3, fun y => h4 y (Nat.zero_le y)⟩
  | succ t ih =>
    intro n f c ht hn e h1 h2 h3 h4
    obtain ⟨n, rfl⟩ : ∃ k, n = k + 1 := ⟨n - 1, by omega⟩
    have ht6 : t < 256 := by omega
    have hc9 := InvA_le hg h2 ht6
    have keep : (1 ≤ a t → t.testBit m = false → t.testBit w = false → a t + 1 ≤ c (t ||| pw m w)) → ∃ f2 c2, fX8_falseOnes_76 q38 n f y1 y2 (i2 m w) (enc t) = q38 f2 y1 (y2 + 1) ∧ (∀ j, j ≠ 161 → f2 j = f0 j) ∧ (∀ x, x < 256 → f2 161 x = enc (c2 x)) ∧ InvA E' c2 ∧ (∀ x, x < 256 → a x ≤ c2 x) ∧ ∀ y, y < 256 → 1 ≤ a y → y.testBit m = false → y.testBit w = false → a y + 1 ≤ c2 (y ||| pw m w) := fun q => ih n f c (by omega) (by omega) e h1 h2 h3 (fun y hy hy2 => by
      by_cases z : y = t
      · rw [z]; exact q
      · exact h4 y (by omega) hy2)
    rw [fX8_falseOnes_76, enc_s, if_neg (nI_pos (by omega)), gdk ht6 (by omega), ncl (by omega), h1 t ht6]
    have e102 : fX8_falseOnes_102 q38 (fX8_falseOnes_76 q38 n) f y1 y2 (i2 m w) (nI t) = fX8_falseOnes_76 q38 n f y1 y2 (i2 m w) (enc t) := by
      unfold fX8_falseOnes_102 fX8_falseOnes_103
      rw [if_pos rfl, enc_dec]
    rw [e102]
    by_cases z0 : c t = 0
    · rw [if_pos ((enc_neg (by omega)).mpr z0)]
      exact keep (fun q => by have := h3 t ht6; omega)
    · rw [if_neg (fun y => z0 ((enc_neg (by omega)).mp y))]
      have free : (nI t &&& i2 m w) = 0 ↔ t.testBit m = false ∧ t.testBit w = false := by
        rw [ibit_and0]
        constructor
        · intro q
          refine ⟨?_, ?_⟩
          · cases y : t.testBit m with
            | false => rfl
            | true => exact absurd ⟨by rw [ibit_nI (by omega)]; exact y, by rw [ibit_i2 m hm w hw m (by omega)]; simp⟩ (q m (by omega))
          · cases y : t.testBit w with
            | false => rfl
            | true => exact absurd ⟨by rw [ibit_nI (by omega)]; exact y, by rw [ibit_i2 m hm w hw w (by omega)]; simp⟩ (q w (by omega))
        · rintro ⟨q1, q2⟩ p hp ⟨y1, y2⟩
          rw [ibit_nI hp] at y1
          rw [ibit_i2 m hm w hw p hp] at y2
          simp only [Bool.or_eq_true, beq_iff_eq] at y2
          rcases y2 with y2 | y2
          · rw [y2, q1] at y1; cases y1
          · rw [y2, q2] at y1; cases y1
      by_cases z1 : (nI t &&& i2 m w) = 0
      · obtain ⟨fr1, fr2⟩ := free.mp z1
        rw [if_pos z1]
        have hx : t ||| pw m w < 256 := Nat.or_lt_two_pow (n := 8) ht6 (pw_lt m hm w hw)
        have hcx := InvA_le hg h2 hx
        unfold fX8_falseOnes_103
        rw [if_neg (by decide), enc_dec, i2_pw m hm w hw, nor, gdk ht6 (by omega), gdk hx (by omega), gdk ht6 (by omega), gdk hx (by omega), ncl (by omega), ncl (by omega), h1 t ht6, h1 _ hx, enc_add]
        rw [i2_pw m hm w hw] at keep
        by_cases z2 : c t + 1 ≤ c (t ||| pw m w)
        · rw [if_pos ((enc_le (by omega) (by omega)).mpr z2)]
          exact keep (fun q _ _ => by have := h3 t ht6; omega)
        · rw [if_neg (fun y => z2 ((enc_le (by omega) (by omega)).mp y)), lte]
          have hne : t ||| pw m w ≠ t := fun y => by
            have : (t ||| pw m w).testBit m = true := by rw [Nat.testBit_or, pw_bit.mpr (Or.inl rfl), Bool.or_true]
            rw [y, fr1] at this; cases this
          have := ih n (st2 f 161 (t ||| pw m w) (nI (c t))) (fun x => if x = t ||| pw m w then c t + 1 else c x) (by omega) (by omega) (fun j hj => by rw [s2_n hj, e j hj]) (fun x hx2 => by
            rw [s2_s]
            by_cases y : x = t ||| pw m w
            · simp only [y, if_true]; rw [u_s, enc_s]
            · simp only [y, if_false]; rw [u_n y]; exact h1 x hx2) (fun x hx2 => by
            by_cases y : x = t ||| pw m w
            · simp only [y, if_true]
              right
              rcases h2 t ht6 with k | ⟨M, k1, k2, k3⟩
              · exact absurd k z0
              · refine ⟨(m, w) :: M, ⟨fun p hp => ?_, List.pairwise_cons.mpr ⟨fun p hp => ?_, k1.2⟩⟩, ?_, by rw [List.length_cons, k3]⟩
                · rcases List.mem_cons.mp hp with rfl | hp
                  · exact ⟨hm, hw, (hE m w).mpr (Or.inr ⟨rfl, rfl⟩)⟩
                  · exact k1.1 p hp
                · have tm : ∀ i, t.testBit i = false → p.1 ≠ i ∧ p.2 ≠ i := fun i hi => by
                    have : ¬ (un M).testBit i = true := by rw [k2, hi]; decide
                    exact ⟨fun y => this (un_bit.mpr ⟨p, hp, Or.inl y⟩), fun y => this (un_bit.mpr ⟨p, hp, Or.inr y⟩)⟩
                  exact ⟨fun y => (tm m fr1).1 y.symm, fun y => (tm w fr2).2 y.symm⟩
                · show un M ||| pw m w = _
                  rw [k2]
            · simp only [y, if_false]; exact h2 x hx2) (fun x hx2 => by
            by_cases y : x = t ||| pw m w
            · simp only [y, if_true]
              have := h3 _ hx; omega
            · simp only [y, if_false]; exact h3 x hx2) (fun y hy hy2 k1 k2 k3 => by
            by_cases z : y = t
            · rw [z]; simp only [if_true]
              have := h3 t ht6; omega
            · have k := h4 y (by omega) hy2 k1 k2 k3
              by_cases z2 : y ||| pw m w = t ||| pw m w
              · simp only [z2, if_true]
                rw [z2] at k; omega
              · simp only [z2, if_false]; exact k)
          rw [i2_pw m hm w hw] at this
          exact this
      · rw [if_neg z1]
        exact keep (fun _ q1 q2 => absurd (free.mpr ⟨q1, q2⟩) z1)
theorem fo_max {fm : Nat → Bool} {E : Nat → Nat → Bool} {c : Nat → Nat} (hg : gen fm E) {f : hF} (h1 : ∀ x, x < 256 → f 161 x = enc (c x)) (hA : InvA E c) (hB : InvB E c) (y1 : Int32) : ∃ v, v ≤ 8 ∧ fX8_falseOnes_165 FU f y1 0 0 = some (y1 - nI v, f) ∧ (∃ M, Mat E M ∧ M.length = v) ∧ ∀ M, Mat E M → M.length ≤ v := by
  have key : ∀ (r i n v : Nat), i + r = 256 → r < n → (∃ M, Mat E M ∧ M.length = v) → (∀ x, x < i → c x ≤ v + 1) → ∃ u, fX8_falseOnes_165 n f y1 (nI v) (nI i) = some (y1 - nI u, f) ∧ (∃ M, Mat E M ∧ M.length = u) ∧ ∀ x, x < 256 → c x ≤ u + 1 := by
    intro r
    induction r with
    | zero =>
      intro i n v hr hn hM hx
      obtain ⟨n, rfl⟩ : ∃ k, n = k + 1 := ⟨n - 1, by omega⟩
      obtain rfl : i = 256 := by omega
      exact ⟨v, by rw [fX8_falseOnes_165, if_pos (by decide)], hM, hx⟩
    | succ r ih =>
      intro i n v hr hn hM hx
      obtain ⟨n, rfl⟩ : ∃ k, n = k + 1 := ⟨n - 1, by omega⟩
      have hi : i < 256 := by omega
      have hci := InvA_le hg hA hi
      have hv : v ≤ 8 := by obtain ⟨M, q1, q2⟩ := hM; have := mat_le hg q1; omega
      rw [fX8_falseOnes_165, if_neg (show ¬ (256 : Int32) ≤ nI i from fun z => by have := (nI_leI (a := 256) (by omega) (by omega)).mp z; omega), gdk hi (by omega), gdk hi (by omega), ncl (by omega), h1 i hi, show nI i + 1 = nI (i + 1) from nadd i 1]
      by_cases z : c i ≤ v + 1
      · rw [if_pos ((enc_ge (by omega) (by omega)).mpr z)]
        refine ih (i + 1) n v (by omega) (by omega) hM (fun x hx2 => ?_)
        by_cases y : x = i
        · rw [y]; exact z
        · exact hx x (by omega)
      · rw [if_neg (fun y => z ((enc_ge (by omega) (by omega)).mp y))]
        rcases hA i hi with k | ⟨M, k1, k2, k3⟩
        · omega
        · have e : enc (c i) = nI (c i - 1) := by rw [k3, enc_s]; rfl
          rw [e]
          refine ih (i + 1) n (c i - 1) (by omega) (by omega) ⟨M, k1, by omega⟩ (fun x hx2 => ?_)
          by_cases y : x = i
          · rw [y]; omega
          · have := hx x (by omega); omega
  obtain ⟨u, a1, a2, a3⟩ := key 256 0 FU 0 rfl (by decide) ⟨[], ⟨fun p hp => (by cases hp), List.Pairwise.nil⟩, rfl⟩ (fun x hx => absurd hx (Nat.not_lt_zero x))
  have hu : u ≤ 8 := by obtain ⟨M, q1, q2⟩ := a2; have := mat_le hg q1; omega
  refine ⟨u, hu, a1, a2, fun M hM => ?_⟩
  have h1 := hB M hM
  have h2 := a3 _ (un_lt (fun p hp => ⟨(hM.1 p hp).1, (hM.1 p hp).2.1⟩))
  omega
