/-! two that can be wed, coins, the law, room; can asked of both -/
def mnW (ro : RO) (a b : Nat) : Nat := if ro.fm a = true then b else a
def wmW (ro : RO) (a b : Nat) : Nat := if ro.fm a = true then a else b
def cpB (ro : RO) (a b : Nat) : Bool := decide (ro.fm a ≠ ro.fm b) && (decide (ro.kd (wmW ro a b) ≠ 2) || decide (ro.kd (mnW ro a b) = 2))
theorem nI2 {n : Nat} (h : n ≤ 2) : (nI n = (2 : Int32)) = (n = 2) := by rw [L2, neqq (by omega) (by omega)]
theorem bI_inj {a b : Bool} : (bI a = bI b) = (a = b) := by cases a <;> cases b <;> simp [bI]
theorem co_areTwo {ro : RO} {f : hF} (hr : RR ro f) {a b : Nat} (ha : a < ro.P) (hb : b < ro.P) : fX3_areTwo 3 f (nI a) (nI b) = some (bI (decide (a ≠ b))) := by
  have hP := hr.ok.2.1
  unfold fX3_areTwo
  by_cases e : a = b
  · rw [e, if_pos rfl, decide_eq_false (by omega)]; rfl
  · rw [if_neg (by rw [neqq (by omega) (by omega)]; exact e), if_neg (nI_pos (by omega)), hr.c0, if_neg (fun z => by have := (nI_leI (by omega) (by omega)).mp z; omega), if_neg (nI_pos (by omega)), if_neg (fun z => by have := (nI_leI (by omega) (by omega)).mp z; omega), decide_eq_true e]; rfl
theorem co_canPair {ro : RO} {f : hF} (hr : RR ro f) {a b : Nat} (ha : a < ro.P) (hb : b < ro.P) : fX3_canPair 3 f (nI a) (nI b) = some (bI (cpB ro a b)) := by
  have hP := hr.ok.2.1
  have ka := (hr.ok.2.2.2.2.2.1 a ha).1
  have kb := (hr.ok.2.2.2.2.2.1 b hb).1
  unfold fX3_canPair
  rw [co_areTwo hr ha hb, b1s]
  by_cases e : a = b
  · subst e
    have : cpB ro a a = false := by unfold cpB; rw [decide_eq_false (by simp)]; rfl
    rw [this, decide_eq_false (by omega), if_pos bf0]; rfl
  · rw [decide_eq_true e, if_neg bt0, gdk (by omega) (by omega), gdk (by omega) (by omega), gdk (by omega) (by omega), ncl (by omega), ncl (by omega), (hr.ca a ha).1, (hr.ca b hb).1]
    simp only [bI_inj]
    unfold cpB mnW wmW fX3_canPair_40
    cases fa : ro.fm a <;> cases fb : ro.fm b
    · rw [if_pos rfl]; rfl
    · rw [if_neg (by decide), if_pos bf0, gdk (by omega) (by omega), ncl (by omega), (hr.ca a ha).1, fa, if_pos bf0]
      unfold fX3_canPair_55
      rw [gdk (by omega) (by omega), gdk (by omega) (by omega), ncl (by omega), ncl (by omega), (hr.ca a ha).2.1, (hr.ca b hb).2.1]
      simp only [nI2 ka, nI2 kb]
      by_cases z : ro.kd b = 2 <;> by_cases y : ro.kd a = 2 <;> simp [z, y, bI]
    · rw [if_neg (by decide), if_neg bt0, gdk (by omega) (by omega), ncl (by omega), (hr.ca a ha).1, fa, if_neg bt0]
      unfold fX3_canPair_55
      rw [gdk (by omega) (by omega), gdk (by omega) (by omega), ncl (by omega), ncl (by omega), (hr.ca a ha).2.1, (hr.ca b hb).2.1]
      simp only [nI2 ka, nI2 kb]
      by_cases z : ro.kd b = 2 <;> by_cases y : ro.kd a = 2 <;> simp [z, y, bI]
    · rw [if_pos rfl]; rfl
theorem mo_manOfTwo {ro : RO} {f : hF} (hr : RR ro f) {a b : Nat} (ha : a < ro.P) : fX8_manOfTwo f (nI a) (nI b) = some (nI (mnW ro a b)) := by
  unfold fX8_manOfTwo mnW
  rw [mo_wom hr ha, b1s]
  cases ro.fm a <;> rfl
theorem mo_womOfTwo {ro : RO} {f : hF} (hr : RR ro f) {a b : Nat} (ha : a < ro.P) : fX8_womanOfTwo f (nI a) (nI b) = some (nI (wmW ro a b)) := by
  unfold fX8_womanOfTwo wmW
  rw [mo_wom hr ha, b1s]
  cases ro.fm a <;> rfl
theorem mnW_lt {ro : RO} {a b : Nat} (ha : a < ro.P) (hb : b < ro.P) : mnW ro a b < ro.P ∧ wmW ro a b < ro.P := by
  unfold mnW wmW
  cases ro.fm a <;> exact ⟨by assumption, by assumption⟩
theorem mo_canBeTwo {ro : RO} {f : hF} (hr : RR ro f) {a b : Nat} (ha : a < ro.P) (hb : b < ro.P) : fX8_canBeTwo f (nI a) (nI b) = some (bI (cpB ro a b)) := by
  have hl := mnW_lt ha hb
  have ka := (hr.ok.2.2.2.2.2.1 _ hl.1).1
  have kb := (hr.ok.2.2.2.2.2.1 _ hl.2).1
  unfold fX8_canBeTwo
  rw [mo_manOfTwo hr ha, b1s, mo_womOfTwo hr ha, b1s, mo_wom hr ha, b1s, mo_wom hr hb, b1s, mo_kind hr hl.2, b1s, mo_kind hr hl.1]
  unfold cpB
  simp only [bI_inj, nI2 kb]
  by_cases e : ro.fm a = ro.fm b
  · rw [if_pos e, decide_eq_false (by simp [e])]; rfl
  · rw [if_neg e, decide_eq_true e, b1s]
    simp only [nI2 ka]
    by_cases z : ro.kd (wmW ro a b) = 2 <;> by_cases y : ro.kd (mnW ro a b) = 2 <;> simp [z, y, bI]
theorem cpB_mw {ro : RO} {a b : Nat} (h : cpB ro a b = true) : a ≠ b ∧ ro.fm (mnW ro a b) = false ∧ ro.fm (wmW ro a b) = true := by
  unfold cpB at h
  have h1 : ro.fm a ≠ ro.fm b := of_decide_eq_true (by simp only [Bool.and_eq_true] at h; exact h.1)
  refine ⟨fun e => h1 (by rw [e]), ?_⟩
  unfold mnW wmW
  cases fa : ro.fm a <;> cases fb : ro.fm b <;> simp_all
def pyB (g : Nat → Int32) (a b : Nat) (c : Int32) : Bool := !decide (g (1 + a) + g (1 + b) < c)
theorem co_canPay {ro : RO} {f : hF} {k : Nat} {g : Nat → Int32} (hr : RR ro f) (hc : CB f (k+1) g) {a b : Nat} (ha : a < ro.P) (hb : b < ro.P) {c : Int32} : fX2_canPay k 3 f (nI a) (nI b) c = some (bI (pyB g a b c)) := by
  have hP := hr.ok.2.1
  unfold fX2_canPay pyB
  rw [hr.cper, per_t (by omega) ha, b1s, if_neg bt0, hr.cper, per_t (by omega) hb, b1s, if_neg bt0, gdk (by omega) (by omega), gdk (by omega) (by omega), ncl (by omega), ncl (by omega), hc.2.1 a (by omega), hc.2.1 b (by omega)]
  by_cases z : g (1 + a) + g (1 + b) < c
  · rw [if_pos z, decide_eq_true z]; rfl
  · rw [if_neg z, decide_eq_false z]; rfl
theorem mo_canPay {f : hF} {a b : Nat} (ha : a < 8) (hb : b < 8) {c : Int32} : fX8_canPay f (nI a) (nI b) c = some (bI (pyB (f 158) a b c)) := by
  unfold fX8_canPay pyB
  rw [L1, nadd, nadd, gdk (by omega) (by omega), gdk (by omega) (by omega), ncl (by omega), ncl (by omega)]
  by_cases z : f 158 (1 + a) + f 158 (1 + b) < c
  · rw [if_pos z, decide_eq_true z]; rfl
  · rw [if_neg z, decide_eq_false z]; rfl
def lwB (ro : RO) (g : Nat → Int32) : Bool := !decide (g 0 < nI ro.law)
theorem co_law {ro : RO} {f : hF} {k : Nat} {g : Nat → Int32} (hr : RR ro f) (hc : CB f (k+1) g) : fX2_isLaw k 3 f = some (bI (lwB ro g)) := by
  unfold fX2_isLaw lwB
  rw [hc.1, hr.c2]
  by_cases z : g 0 < nI ro.law
  · rw [if_pos z, decide_eq_true z]; rfl
  · rw [if_neg z, decide_eq_false z]; rfl
theorem mo_law {ro : RO} {f : hF} (hr : RR ro f) : fX8_isLaw f = some (bI (lwB ro (f 158))) := by
  unfold fX8_isLaw lwB
  rw [gd0 (by decide), cl0, hr.m2]
  by_cases z : f 158 0 < nI ro.law
  · rw [if_pos z, decide_eq_true z]; rfl
  · rw [if_neg z, decide_eq_false z]; rfl
theorem co_room {P T : Nat} {fm : Nat → Bool} {g : Nat → Int32} (h : VB P T fm g) {f : hF} {bk : Nat} (hc : CB f bk g) {p : Nat} (hp : p < 3) : fX0_hasRoom bk f (nI p) = some (bI (decide (vln g p < 8))) := by
  have hl := VB_ln h hp
  unfold fX0_hasRoom
  rw [if_neg (nI_pos (by omega)), if_neg (ge3 (p := p) (by omega)), gdk hp (by omega), ncl (by omega), hc.2.2.2.1 p hp, hl.1]
  by_cases z : vln g p < 8
  · rw [if_neg (fun y => by have := (nI_leI (a := 8) (by omega) (by omega)).mp y; omega), decide_eq_true z]; rfl
  · rw [if_pos (show (8 : Int32) ≤ nI (vln g p) from (nI_leI (a := 8) (by omega) (by omega)).mpr (by omega)), decide_eq_false z]; rfl
def wdB (ro : RO) (g : Nat → Int32) (p a b : Nat) : Bool := cpB ro a b && !lwB ro g && pyB g a b (nI (ro.pr p))
def rfB (ro : RO) (g : Nat → Int32) (p a b : Nat) : Int32 := if wdB ro g p a b = true then (if vln g p < 8 then 0 else -3) else -2
theorem co_refuse {ro : RO} {T : Nat} {g : Nat → Int32} (h : VB ro.P T ro.fm g) {f : hF} {k : Nat} (hr : RR ro f) (hc : CB f (k+1) g) {p a b : Nat} (hp : p < ro.Q) (ha : a < ro.P) (hb : b < ro.P) : fX2_refuseWedding k 3 f (nI p) (nI a) (nI b) = some (rfB ro g p a b) := by
  have hQ := hr.ok.2.2.2.1
  unfold fX2_refuseWedding rfB wdB
  rw [hr.cpar, per_t (by omega) hp, b1s, if_neg bt0, co_canPair hr ha hb, b1s]
  cases cpB ro a b with
  | false => rfl
  | true =>
    rw [if_neg bt0, co_law hr hc, b1s]
    cases lwB ro g with
    | true => rfl
    | false =>
      rw [if_pos bf0, gdk (by omega) (by omega), ncl (by omega), (hr.cp p hp).2, co_canPay hr hc ha hb, b1s]
      cases pyB g a b (nI (ro.pr p)) with
      | false => rfl
      | true =>
        rw [if_neg bt0, co_room h hc (by omega), b1s]
        by_cases z : vln g p < 8
        · rw [decide_eq_true z, if_neg bt0]
          show some (0 : Int32) = some (if vln g p < 8 then 0 else -3)
          rw [if_pos z]
        · rw [decide_eq_false z, if_pos bf0]
          show some (-3 : Int32) = some (if vln g p < 8 then 0 else -3)
          rw [if_neg z]
theorem mo_canWed {ro : RO} {f : hF} (hr : RR ro f) {p a b : Nat} (hp : p < ro.Q) (ha : a < ro.P) (hb : b < ro.P) : fX8_canWed f (nI p) (nI a) (nI b) = some (bI (wdB ro (f 158) p a b)) := by
  have hQ := hr.ok.2.2.2.1
  have hP := hr.ok.2.1
  unfold fX8_canWed wdB
  rw [mo_canBeTwo hr ha hb, b1s]
  cases cpB ro a b with
  | false => rfl
  | true =>
    rw [if_neg bt0, mo_law hr, b1s]
    cases lwB ro (f 158) with
    | true => rfl
    | false =>
      rw [if_pos bf0, L2, nmul, L1, nadd, gdk (by omega) (by omega), ncl (by omega), (hr.mp p hp).2, mo_canPay (by omega) (by omega), b1s]
      cases pyB (f 158) a b (nI (ro.pr p)) <;> rfl
def swB (ro : RO) (g : Nat → Int32) (a b i : Nat) : Bool := (List.range i).any (fun p => decide (rfB ro g p a b = 0))
theorem swB_s (ro : RO) (g : Nat → Int32) (a b i : Nat) : swB ro g a b (i + 1) = (swB ro g a b i || decide (rfB ro g i a b = 0)) := by
  unfold swB
  rw [List.range_succ, List.any_append]
  simp
theorem swB_t {ro : RO} {g : Nat → Int32} {a b i Q : Nat} (hi : i < Q) (h : rfB ro g i a b = 0) : swB ro g a b Q = true := by
  unfold swB
  exact List.any_eq_true.mpr ⟨i, List.mem_range.mpr hi, decide_eq_true h⟩
theorem co_somewh {ro : RO} {T : Nat} {g : Nat → Int32} (h : VB ro.P T ro.fm g) {f : hF} {k : Nat} (hr : RR ro f) (hc : CB f (k+1) g) {a b : Nat} (ha : a < ro.P) (hb : b < ro.P) : fX2_canWedSomewhere k 3 f (nI a) (nI b) = some (bI (swB ro g a b ro.Q)) := by
  have hQ := hr.ok.2.2.2.1
  have key : ∀ (r i n : Nat), i + r = ro.Q → r < n → swB ro g a b i = false → fX2_canWedSomewhere_2 k 3 f (nI a) (nI b) n (nI i) = some (bI (swB ro g a b ro.Q)) := by
    intro r
    induction r with
    | zero =>
      intro i n hr2 hn h0
      obtain ⟨m, rfl⟩ : ∃ m, n = m + 1 := ⟨n - 1, by omega⟩
      obtain rfl : i = ro.Q := by omega
      rw [fX2_canWedSomewhere_2, hr.c1, if_pos ((nI_leI (by omega) (by omega)).mpr (Nat.le_refl _)), h0]; rfl
    | succ r ih =>
      intro i n hr2 hn h0
      obtain ⟨m, rfl⟩ : ∃ m, n = m + 1 := ⟨n - 1, by omega⟩
      rw [fX2_canWedSomewhere_2, hr.c1, if_neg (fun z => by have := (nI_leI (by omega) (by omega)).mp z; omega), co_refuse h hr hc (show i < ro.Q by omega) ha hb, b1s]
      by_cases q : rfB ro g i a b = 0
      · rw [if_pos q, swB_t (show i < ro.Q by omega) q]; rfl
      · rw [if_neg q, show nI i + 1 = nI (i + 1) from nadd i 1]
        exact ih (i + 1) m (by omega) (by omega) (by rw [swB_s, h0, decide_eq_false q]; rfl)
  exact key ro.Q 0 FU (by omega) (by unfold FU; omega) rfl
def bt (i : Nat) : Int32 := 1 <<< (nI i &&& 31)
theorem or_or (x y : Int32) : (x ||| y) ||| y = x ||| y := Int32.toBitVec_inj.mp (by simp [BitVec.or_assoc])
theorem can_same {T : Nat} {ro : RO} {f : hF} (h : R T ro f) (hT : T < 1000000) (x : Int32) : Same T ro f (fun f => b1 (fX7_can f x) fun r => some (r, f)) (fun f => fX8_can f x) := by
  have hP := h.rr.ok.2.1
  have hQ := h.rr.ok.2.2.2.1
  cases hp : decide (0 ≤ x ∧ x < nI ro.P) with
  | false =>
    refine Same.mk' (r := -1) h ⟨f, ?_, Sc.refl f, rfl⟩ (fun f' h' _ => ⟨f', ?_, Sc.refl f'⟩)
    · show b1 (fX7_can f x) _ = _
      unfold fX7_can
      rw [h.rr.cper, hp]; rfl
    · show fX8_can f' x = _
      unfold fX8_can
      rw [h'.rr.mper, hp]; rfl
  | true =>
    obtain ⟨a, ha, rfl⟩ := person_nI (by omega) hp
    have inner : ∀ (f5 : hF), RR ro f5 → f5 158 = f 149 → f5 149 = f 149 → ∀ (b : Nat), b < ro.P → ∀ (q18 : hF → Int32 → Int32 → Option (Int32 × hF)) (m : Int32) (r i n : Nat), i + r = ro.Q → r < n →
        fX8_can_29 (nI a) q18 n f5 (if swB ro (f 149) a b i = true then m ||| bt b else m) (nI b) (nI i) = q18 f5 (if swB ro (f 149) a b ro.Q = true then m ||| bt b else m) (nI (b + 1)) := by
      intro f5 h5 e8 e9 b hb q18 m r
      induction r with
      | zero =>
        intro i n hr hn
        obtain ⟨n, rfl⟩ : ∃ k, n = k + 1 := ⟨n - 1, by omega⟩
        obtain rfl : i = ro.Q := by omega
        rw [fX8_can_29, h5.m1, if_pos ((nI_leI (by omega) (by omega)).mpr (Nat.le_refl _)), show nI b + 1 = nI (b + 1) from nadd b 1]
      | succ r ih =>
        intro i n hr hn
        obtain ⟨n, rfl⟩ : ∃ k, n = k + 1 := ⟨n - 1, by omega⟩
        have hl := VB_ln h.bk.1 (p := i) (by omega)
        have e := ih (i + 1) n (by omega) (by omega)
        rw [swB_s] at e
        rw [fX8_can_29, h5.m1, if_neg (fun z => by have := (nI_leI (by omega) (by omega)).mp z; omega)]
        have no : rfB ro (f 149) i a b ≠ 0 → fX8_can_76 (nI a) q18 (fX8_can_29 (nI a) q18 n) f5 (nI b) (nI i) (if swB ro (f 149) a b i = true then m ||| bt b else m) = q18 f5 (if swB ro (f 149) a b ro.Q = true then m ||| bt b else m) (nI (b + 1)) := fun q => by
          unfold fX8_can_76 fX8_can_77
          rw [or_0, show nI i + 1 = nI (i + 1) from nadd i 1]
          rw [decide_eq_false q, Bool.or_false] at e
          exact e
        by_cases eq : b = a
        · rw [if_pos (by rw [eq])]
          refine no ?_
          unfold rfB wdB cpB
          rw [eq, decide_eq_false (show ¬ ro.fm a ≠ ro.fm a by simp)]
          show ¬ ((-2 : Int32) = 0)
          decide
        · rw [if_neg (by rw [neqq (by omega) (by omega)]; exact eq), mo_canWed h5 (by omega) ha hb, b1s, e8]
          cases hw : wdB ro (f 149) i a b with
          | false =>
            rw [if_pos bf0]
            refine no ?_
            unfold rfB
            rw [hw]
            show ¬ ((-2 : Int32) = 0)
            decide
          | true =>
            rw [if_neg bt0, L12, nadd, gdk (by omega) (by omega), ncl (by omega), e9, hl.1]
            by_cases z : vln (f 149) i < 8
            · have q : rfB ro (f 149) i a b = 0 := by unfold rfB; rw [if_pos hw, if_pos z]
              rw [if_neg (fun y => by have := (nI_leI (a := 8) (by omega) (by omega)).mp y; omega)]
              unfold fX8_can_77
              rw [show nI i + 1 = nI (i + 1) from nadd i 1]
              rw [decide_eq_true q, Bool.or_true, if_pos rfl] at e
              have e2 : ((if swB ro (f 149) a b i = true then m ||| bt b else m) ||| (1 <<< (nI b &&& 31))) = m ||| bt b := by
                show _ ||| bt b = _
                cases swB ro (f 149) a b i
                · rfl
                · exact or_or _ _
              rw [e2]
              exact e
            · rw [if_pos (show (8 : Int32) ≤ nI (vln (f 149) i) from (nI_leI (a := 8) (by omega) (by omega)).mpr (by omega))]
              refine no ?_
              unfold rfB
              rw [if_pos hw, if_neg z]
              decide
    have key : ∀ (f5 : hF), RR ro f5 → f5 158 = f 149 → f5 149 = f 149 → ∀ (r i n m : Nat) (v : Int32), i + r = ro.P → r < n → r < m → ∃ q, fX7_can_17 f (nI a) n v (nI i) = some q ∧ fX8_can_18 (nI a) m f5 v (nI i) = some (q, f5) := by
      intro f5 h5 e8 e9 r
      induction r with
      | zero =>
        intro i n m v hr hn hm
        obtain ⟨n, rfl⟩ : ∃ k, n = k + 1 := ⟨n - 1, by omega⟩
        obtain ⟨m, rfl⟩ : ∃ k, m = k + 1 := ⟨m - 1, by omega⟩
        refine ⟨v, ?_, ?_⟩
        · rw [fX7_can_17, h.rr.c0, if_pos ((nI_leI (by omega) (by omega)).mpr (by omega))]
        · rw [fX8_can_18, h5.m0, if_pos ((nI_leI (by omega) (by omega)).mpr (by omega))]
      | succ r ih =>
        intro i n m v hr hn hm
        obtain ⟨n, rfl⟩ : ∃ k, n = k + 1 := ⟨n - 1, by omega⟩
        obtain ⟨m, rfl⟩ : ∃ k, m = k + 1 := ⟨m - 1, by omega⟩
        have hlt : ¬ nI ro.P ≤ nI i := fun z => by have := (nI_leI (by omega) (by omega)).mp z; omega
        have hin := inner f5 h5 e8 e9 i (by omega) (fX8_can_18 (nI a) m) v ro.Q 0 FU (by omega) (by unfold FU; omega)
        rw [show swB ro (f 149) a i 0 = false from rfl, if_neg (by decide)] at hin
        rw [fX7_can_17, h.rr.c0, if_neg hlt, co_somewh (k := 19) h.bk.1 h.rr h.cb ha (show i < ro.P by omega), b1s, fX8_can_18, h5.m0, if_neg hlt, show (0 : Int32) = nI 0 from rfl, hin, show nI i + 1 = nI (i + 1) from nadd i 1]
        cases swB ro (f 149) a i ro.Q with
        | false =>
          rw [if_pos (show bI false = nI 0 from rfl), if_neg (by decide)]
          exact ih (i + 1) n m v (by omega) (by omega) (by omega)
        | true =>
          rw [if_neg (show ¬ bI true = nI 0 by decide), if_pos rfl]
          exact ih (i + 1) n m _ (by omega) (by omega) (by omega)
    have h5 : RR ro (stA f 158 (f 149)) := RR_sc h.sc1 h.rr
    obtain ⟨q, k1, k2⟩ := key _ h5 (sA_s _ _ _) (sA_n (by decide)) ro.P 0 FU FU 0 (by omega) (by unfold FU; omega) (by unfold FU; omega)
    refine ⟨q, f, _, ?_, Sc.refl f, ?_, h.sc1⟩
    · show b1 (fX7_can f _) _ = _
      unfold fX7_can
      rw [h.rr.cper, hp, b1s, if_neg bt0, show (0 : Int32) = nI 0 from rfl, ← L0]
      exact congrArg (fun o => b1 o fun r => some (r, f)) k1
    · show fX8_can f _ = _
      unfold fX8_can
      rw [h.rr.mper, hp, b1s, if_neg bt0, h.as, b1s]
      exact k2
