/-! items of a text: entered by both -/
abbrev DR := RO × (Nat → Nat)
def DC (k : Nat) (d : DR) (f : hF) : Prop := f k 0 = nI d.1.P ∧ f k 1 = nI d.1.Q ∧ f k 2 = nI d.1.law ∧ (∀ a, a < d.1.P → f (k+1) a = bI (d.1.fm a) ∧ f (k+2) a = nI (d.1.kd a) ∧ f (k+3) a = nI (d.1.db a) ∧ f (k+4) a = nI (d.2 a)) ∧ ∀ p, p < d.1.Q → f (k+5) p = nI (d.1.tr p) ∧ f (k+6) p = nI (d.1.pr p)
def DM (d : DR) (f : hF) : Prop := f 146 16 = nI d.1.P ∧ f 146 19 = nI d.1.Q ∧ f 146 21 = nI d.1.law ∧ (∀ a, a < d.1.P → f 155 (3 * a) = bI (d.1.fm a) ∧ f 155 (3 * a + 1) = nI (d.1.kd a) ∧ f 155 (3 * a + 2) = nI (d.1.db a) ∧ f 156 a = nI (d.2 a)) ∧ ∀ p, p < d.1.Q → f 157 (2 * p) = nI (d.1.tr p) ∧ f 157 (2 * p + 1) = nI (d.1.pr p)
def DOK (d : DR) : Prop := d.1.P ≤ 8 ∧ d.1.Q ≤ 3 ∧ d.1.law ≤ 99 ∧ (∀ a, a < d.1.P → d.1.kd a ≤ 2 ∧ d.1.db a ≤ 60 ∧ d.2 a ≤ 60) ∧ ∀ p, p < d.1.Q → d.1.tr p ≤ 2 ∧ d.1.pr p ≤ 20
def fu {α : Type} (h : Nat → α) (k : Nat) (x : α) : Nat → α := fun a => if a = k then x else h a
theorem fu_s {α : Type} (h : Nat → α) (k : Nat) (x : α) : fu h k x k = x := if_pos rfl
theorem fu_n {α : Type} {h : Nat → α} {k a : Nat} {x : α} (e : a ≠ k) : fu h k x a = h a := if_neg e
def dP (d : DR) (w : Bool) (x y z : Nat) : DR := ((d.1.P + 1, d.1.Q, d.1.law, fu d.1.fm d.1.P w, fu d.1.kd d.1.P x, fu d.1.db d.1.P y, d.1.tr, d.1.pr), fu d.2 d.1.P z)
def dQ (d : DR) (x y : Nat) : DR := ((d.1.P, d.1.Q + 1, d.1.law, d.1.fm, d.1.kd, d.1.db, fu d.1.tr d.1.Q x, fu d.1.pr d.1.Q y), d.2)
def dL (d : DR) (x : Nat) : DR := ((d.1.P, d.1.Q, x, d.1.fm, d.1.kd, d.1.db, d.1.tr, d.1.pr), d.2)
def ent (d : DR) (c : Nat) (v : Nat → Nat) : Option DR :=
  if c = 109 ∨ c = 119 then (if d.1.P < 8 ∧ v 0 ≤ 2 ∧ v 1 ≤ 60 ∧ v 2 ≤ 60 then some (dP d (decide (c = 119)) (v 0) (v 1) (v 2)) else none)
  else if c = 112 then (if d.1.Q < 3 ∧ v 0 ≤ 2 ∧ v 1 ≤ 20 then some (dQ d (v 0) (v 1)) else none)
  else if 1 ≤ v 0 then some (dL d (v 0)) else none
def nmb (c : Nat) : Nat := if c = 109 ∨ c = 119 then 3 else if c = 112 then 2 else if c = 108 then 1 else 0
theorem nmb_le (c : Nat) : nmb c ≤ 3 := by
  unfold nmb
  by_cases a : c = 109 ∨ c = 119
  · rw [if_pos a]; omega
  · rw [if_neg a]
    by_cases b : c = 112
    · rw [if_pos b]; omega
    · rw [if_neg b]
      by_cases d : c = 108
      · rw [if_pos d]; omega
      · rw [if_neg d]; omega
theorem cq {c k : Nat} (h : c < 1000) (hk : k < 1000) : (nI c = nI k) ↔ c = k := nI_eq (by omega) (by omega)
theorem co_numbers {c : Nat} (h : c < 1000) : fX3_numbersOf (nI c) = some (nI (nmb c)) := by
  have c109 : nI c = (109 : Int32) ↔ c = 109 := cq (k := 109) h (by decide)
  have c119 : nI c = (119 : Int32) ↔ c = 119 := cq (k := 119) h (by decide)
  have c112 : nI c = (112 : Int32) ↔ c = 112 := cq (k := 112) h (by decide)
  have c108 : nI c = (108 : Int32) ↔ c = 108 := cq (k := 108) h (by decide)
  unfold fX3_numbersOf nmb
  simp only [c109, c119, c112, c108]
  by_cases a : c = 109
  · rw [if_pos a, if_pos (Or.inl a)]; rfl
  · rw [if_neg a]
    by_cases b : c = 119
    · rw [if_pos b, if_pos (Or.inr b)]; rfl
    · rw [if_neg b, if_neg (show ¬ (c = 109 ∨ c = 119) by omega)]
      by_cases d : c = 112
      · rw [if_pos d, if_pos d]; rfl
      · rw [if_neg d, if_neg d]
        by_cases e : c = 108
        · rw [if_pos e, if_pos e]; rfl
        · rw [if_neg e, if_neg e]; rfl
theorem gt2 {x : Nat} (h : x < 1000) {k : Nat} (hk : k < 1000) : (nI k < nI x) ↔ k < x := nI_ltI (by omega) (by omega)
theorem le2 {x : Nat} (h : x < 1000) {k : Nat} (hk : k < 1000) : (nI x ≤ nI k) ↔ x ≤ k := nI_leI (by omega) (by omega)
theorem co_enterP {k : Nat} {d : DR} {f : hF} {v : Nat → Nat} (hk : 3 ≤ k) (ok : DOK d) (h : DC k d f) (hv : ∀ t, t < 3 → f (k+7) t = nI (v t)) (hv9 : ∀ t, v t ≤ 99) (w : Bool) :
    (¬ (d.1.P < 8 ∧ v 0 ≤ 2 ∧ v 1 ≤ 60 ∧ v 2 ≤ 60) ∧ fX3_enterPerson k f (bI w) = some (0, f)) ∨ ((d.1.P < 8 ∧ v 0 ≤ 2 ∧ v 1 ≤ 60 ∧ v 2 ≤ 60) ∧ ∃ f2, fX3_enterPerson k f (bI w) = some (1, f2) ∧ DC k (dP d w (v 0) (v 1) (v 2)) f2 ∧ ∀ j, ¬ (k ≤ j ∧ j ≤ k + 6) → f2 j = f j) := by
  have hP := ok.1
  have v0 := hv9 0
  have v1 := hv9 1
  have v2 := hv9 2
  unfold fX3_enterPerson
  rw [h.1, gd0 (by decide), cl0, show (1 : Int32) = nI 1 from rfl, gdk (show 1 < 3 by decide) (by omega), ncl (show 1 < 2147483648 by omega), show gd (2 : Int32) 3 = gd (nI 2) 3 from rfl]
  rw [show ∀ q : Option (Int32 × hF), gd (nI 2) 3 q = q from fun q => gdk (by decide) (by omega), show (2 : Int32).toNatClampNeg = 2 from rfl, hv 0 (by omega), hv 1 (by omega), hv 2 (by omega)]
  by_cases a : d.1.P < 8
  · rw [if_neg (ge8 a)]
    by_cases b : v 0 ≤ 2
    · rw [if_neg (show ¬ (2 : Int32) < nI (v 0) from fun z => by have := (gt2 (k := 2) (by omega) (by omega)).mp z; omega)]
      by_cases c : v 1 ≤ 60
      · rw [if_neg (show ¬ (60 : Int32) < nI (v 1) from fun z => by have := (gt2 (k := 60) (by omega) (by omega)).mp z; omega)]
        by_cases e : v 2 ≤ 60
        · right
          refine ⟨⟨a, b, c, e⟩, ?_⟩
          rw [if_pos (show nI (v 2) ≤ (60 : Int32) from (le2 (k := 60) (by omega) (by omega)).mpr e), gdk a (by omega), lte, ncl (by omega), bI_nar, gd0 (by decide), s2_n (j := k) (by omega), h.1, gdk a (by omega), lte, ncl (by omega), s2_n (j := k + 7) (by omega), hv 0 (by omega), gdk (show 1 < 3 by decide) (by omega), s2_n (j := k) (by omega), s2_n (j := k) (by omega), h.1, gdk a (by omega), lte, ncl (by omega), s2_n (j := k + 7) (by omega), s2_n (j := k + 7) (by omega), hv 1 (by omega), s2_n (j := k) (by omega), s2_n (j := k) (by omega), s2_n (j := k) (by omega), h.1, gdk a (by omega), lte, ncl (by omega), s2_n (j := k + 7) (by omega), s2_n (j := k + 7) (by omega), s2_n (j := k + 7) (by omega), hv 2 (by omega), s2_n (j := k) (by omega), s2_n (j := k) (by omega), s2_n (j := k) (by omega), s2_n (j := k) (by omega), h.1, lte, nadd]
          refine ⟨_, rfl, ⟨?_, ?_, ?_, fun x hx => ?_, fun p hp => ?_⟩, fun j hj => ?_⟩
          · rw [s2_s, u_s]; rfl
          · rw [s2_s, u_n (by decide), s2_n (by omega), s2_n (by omega), s2_n (by omega), s2_n (by omega)]; exact h.2.1
          · rw [s2_s, u_n (by decide), s2_n (by omega), s2_n (by omega), s2_n (by omega), s2_n (by omega)]; exact h.2.2.1
          · have q1 : ∀ F : hF, st2 F k 0 (nI (d.1.P + 1)) (k+1) = F (k+1) ∧ st2 F k 0 (nI (d.1.P + 1)) (k+2) = F (k+2) ∧ st2 F k 0 (nI (d.1.P + 1)) (k+3) = F (k+3) ∧ st2 F k 0 (nI (d.1.P + 1)) (k+4) = F (k+4) := fun F => ⟨s2_n (by omega), s2_n (by omega), s2_n (by omega), s2_n (by omega)⟩
            obtain ⟨r1, r2, r3, r4⟩ := q1 (st2 (st2 (st2 (st2 f (k + 1) d.1.P (bI w)) (k + 2) d.1.P (nI (v 0))) (k + 3) d.1.P (nI (v 1))) (k + 4) d.1.P (nI (v 2)))
            have s1 : st2 (st2 (st2 (st2 f (k + 1) d.1.P (bI w)) (k + 2) d.1.P (nI (v 0))) (k + 3) d.1.P (nI (v 1))) (k + 4) d.1.P (nI (v 2)) (k + 1) = upd (f (k+1)) d.1.P (bI w) := by rw [s2_n (by omega), s2_n (by omega), s2_n (by omega), s2_s]
            have s2 : st2 (st2 (st2 (st2 f (k + 1) d.1.P (bI w)) (k + 2) d.1.P (nI (v 0))) (k + 3) d.1.P (nI (v 1))) (k + 4) d.1.P (nI (v 2)) (k + 2) = upd (f (k+2)) d.1.P (nI (v 0)) := by rw [s2_n (by omega), s2_n (by omega), s2_s, s2_n (by omega)]
            have s3 : st2 (st2 (st2 (st2 f (k + 1) d.1.P (bI w)) (k + 2) d.1.P (nI (v 0))) (k + 3) d.1.P (nI (v 1))) (k + 4) d.1.P (nI (v 2)) (k + 3) = upd (f (k+3)) d.1.P (nI (v 1)) := by rw [s2_n (by omega), s2_s, s2_n (by omega), s2_n (by omega)]
            have s4 : st2 (st2 (st2 (st2 f (k + 1) d.1.P (bI w)) (k + 2) d.1.P (nI (v 0))) (k + 3) d.1.P (nI (v 1))) (k + 4) d.1.P (nI (v 2)) (k + 4) = upd (f (k+4)) d.1.P (nI (v 2)) := by rw [s2_s, s2_n (by omega), s2_n (by omega), s2_n (by omega)]
            rw [r1, r2, r3, r4, s1, s2, s3, s4]
            show upd (f (k+1)) d.1.P (bI w) x = bI (fu d.1.fm d.1.P w x) ∧ upd (f (k+2)) d.1.P (nI (v 0)) x = nI (fu d.1.kd d.1.P (v 0) x) ∧ upd (f (k+3)) d.1.P (nI (v 1)) x = nI (fu d.1.db d.1.P (v 1) x) ∧ upd (f (k+4)) d.1.P (nI (v 2)) x = nI (fu d.2 d.1.P (v 2) x)
            by_cases y : x = d.1.P
            · rw [y, u_s, u_s, u_s, u_s, fu_s, fu_s, fu_s, fu_s]; exact ⟨rfl, rfl, rfl, rfl⟩
            · rw [u_n y, u_n y, u_n y, u_n y, fu_n y, fu_n y, fu_n y, fu_n y]
              have hx' : x < d.1.P + 1 := hx
              exact h.2.2.2.1 x (by omega)
          · rw [s2_n (by omega), s2_n (by omega), s2_n (by omega), s2_n (by omega), s2_n (by omega), s2_n (by omega), s2_n (by omega), s2_n (by omega), s2_n (by omega), s2_n (by omega)]
            exact h.2.2.2.2 p hp
          · rw [s2_n (by omega), s2_n (by omega), s2_n (by omega), s2_n (by omega), s2_n (by omega)]
        · rw [if_neg (show ¬ nI (v 2) ≤ (60 : Int32) from fun z => e ((le2 (k := 60) (by omega) (by omega)).mp z))]
          exact Or.inl ⟨fun z => e z.2.2.2, rfl⟩
      · rw [if_pos (show (60 : Int32) < nI (v 1) from (gt2 (k := 60) (by omega) (by omega)).mpr (by omega))]
        exact Or.inl ⟨fun z => c z.2.2.1, rfl⟩
    · rw [if_pos (show (2 : Int32) < nI (v 0) from (gt2 (k := 2) (by omega) (by omega)).mpr (by omega))]
      exact Or.inl ⟨fun z => b z.2.1, rfl⟩
  · rw [if_pos (show (8 : Int32) ≤ nI d.1.P from (nI_leI (a := 8) (by omega) (by omega)).mpr (by omega))]
    exact Or.inl ⟨fun z => a z.1, rfl⟩
theorem co_enterQ {k : Nat} {d : DR} {f : hF} {v : Nat → Nat} (hk : 3 ≤ k) (ok : DOK d) (h : DC k d f) (hv : ∀ t, t < 2 → f (k+7) t = nI (v t)) (hv9 : ∀ t, v t ≤ 99) :
    (¬ (d.1.Q < 3 ∧ v 0 ≤ 2 ∧ v 1 ≤ 20) ∧ fX3_enterParson k f = some (0, f)) ∨ ((d.1.Q < 3 ∧ v 0 ≤ 2 ∧ v 1 ≤ 20) ∧ ∃ f2, fX3_enterParson k f = some (1, f2) ∧ DC k (dQ d (v 0) (v 1)) f2 ∧ ∀ j, ¬ (k ≤ j ∧ j ≤ k + 6) → f2 j = f j) := by
  have hQ := ok.2.1
  have v0 := hv9 0
  have v1 := hv9 1
  unfold fX3_enterParson
  rw [h.2.1, gd0 (by decide), gd0 (by decide), cl0, show (1 : Int32) = nI 1 from rfl, gdk (show 1 < 3 by decide) (by omega), ncl (show 1 < 2147483648 by omega), hv 0 (by omega), hv 1 (by omega)]
  by_cases a : d.1.Q < 3
  · rw [if_neg (ge3 a)]
    by_cases b : v 0 ≤ 2
    · rw [if_neg (show ¬ (2 : Int32) < nI (v 0) from fun z => by have := (gt2 (k := 2) (by omega) (by omega)).mp z; omega)]
      by_cases c : v 1 ≤ 20
      · right
        refine ⟨⟨a, b, c⟩, ?_⟩
        rw [if_pos (show nI (v 1) ≤ (20 : Int32) from (le2 (k := 20) (by omega) (by omega)).mpr c), gdk a (by omega), lte, ncl (by omega), gdk (show 1 < 3 by decide) (by omega), s2_n (j := k) (by omega), h.2.1, gdk a (by omega), lte, ncl (by omega), s2_n (j := k + 7) (by omega), hv 1 (by omega), s2_n (j := k) (by omega), s2_n (j := k) (by omega), h.2.1, lte, nadd]
        refine ⟨_, rfl, ⟨?_, ?_, ?_, fun x hx => ?_, fun p hp => ?_⟩, fun j hj => ?_⟩
        · rw [s2_s, u_n (by decide), s2_n (by omega), s2_n (by omega)]; exact h.1
        · rw [s2_s, u_s]; rfl
        · rw [s2_s, u_n (by decide), s2_n (by omega), s2_n (by omega)]; exact h.2.2.1
        · have e : ∀ j, k + 1 ≤ j → j ≤ k + 4 → st2 (st2 (st2 f (k + 5) d.1.Q (nI (v 0))) (k + 6) d.1.Q (nI (v 1))) k 1 (nI (d.1.Q + 1)) j = f j := fun j j1 j2 => by rw [s2_n (by omega), s2_n (by omega), s2_n (by omega)]
          rw [e (k+1) (by omega) (by omega), e (k+2) (by omega) (by omega), e (k+3) (by omega) (by omega), e (k+4) (by omega) (by omega)]
          exact h.2.2.2.1 x hx
        · have s5 : st2 (st2 (st2 f (k + 5) d.1.Q (nI (v 0))) (k + 6) d.1.Q (nI (v 1))) k 1 (nI (d.1.Q + 1)) (k + 5) = upd (f (k+5)) d.1.Q (nI (v 0)) := by rw [s2_n (by omega), s2_n (by omega), s2_s]
          have s6 : st2 (st2 (st2 f (k + 5) d.1.Q (nI (v 0))) (k + 6) d.1.Q (nI (v 1))) k 1 (nI (d.1.Q + 1)) (k + 6) = upd (f (k+6)) d.1.Q (nI (v 1)) := by rw [s2_n (by omega), s2_s, s2_n (by omega)]
          rw [s5, s6]
          show upd (f (k+5)) d.1.Q (nI (v 0)) p = nI (fu d.1.tr d.1.Q (v 0) p) ∧ upd (f (k+6)) d.1.Q (nI (v 1)) p = nI (fu d.1.pr d.1.Q (v 1) p)
          by_cases y : p = d.1.Q
          · rw [y, u_s, u_s, fu_s, fu_s]; exact ⟨rfl, rfl⟩
          · rw [u_n y, u_n y, fu_n y, fu_n y]
            have hp' : p < d.1.Q + 1 := hp
            exact h.2.2.2.2 p (by omega)
        · rw [s2_n (by omega), s2_n (by omega), s2_n (by omega)]
      · rw [if_neg (show ¬ nI (v 1) ≤ (20 : Int32) from fun z => c ((le2 (k := 20) (by omega) (by omega)).mp z))]
        exact Or.inl ⟨fun z => c z.2.2, rfl⟩
    · rw [if_pos (show (2 : Int32) < nI (v 0) from (gt2 (k := 2) (by omega) (by omega)).mpr (by omega))]
      exact Or.inl ⟨fun z => b z.2.1, rfl⟩
  · rw [if_pos (show (3 : Int32) ≤ nI d.1.Q from (nI_leI (a := 3) (by omega) (by omega)).mpr (by omega))]
    exact Or.inl ⟨fun z => a z.1, rfl⟩
/-- an item entered, by the component -/
theorem co_enter {k c : Nat} {d : DR} {f : hF} {v : Nat → Nat} (hk : 3 ≤ k) (ok : DOK d) (h : DC k d f) (hc : c < 1000) (hn : nmb c ≠ 0) (hv : ∀ t, t < nmb c → f (k+7) t = nI (v t)) (hv9 : ∀ t, v t ≤ 99) :
    (ent d c v = none ∧ fX3_enter k f (nI c) = some (0, f)) ∨ ∃ d' f2, ent d c v = some d' ∧ fX3_enter k f (nI c) = some (1, f2) ∧ DC k d' f2 ∧ ∀ j, ¬ (k ≤ j ∧ j ≤ k + 6) → f2 j = f j := by
  have c109 : nI c = (109 : Int32) ↔ c = 109 := cq (k := 109) hc (by decide)
  have c119 : nI c = (119 : Int32) ↔ c = 119 := cq (k := 119) hc (by decide)
  have c112 : nI c = (112 : Int32) ↔ c = 112 := cq (k := 112) hc (by decide)
  unfold fX3_enter fX3_enter_12 fX3_enter_24 ent
  simp only [c109, c119, c112]
  by_cases a : c = 109 ∨ c = 119
  · rw [if_pos a]
    have n3 : nmb c = 3 := if_pos a
    rw [n3] at hv
    have key : ∀ w : Bool, w = decide (c = 119) → (((if d.1.P < 8 ∧ v 0 ≤ 2 ∧ v 1 ≤ 60 ∧ v 2 ≤ 60 then some (dP d (decide (c = 119)) (v 0) (v 1) (v 2)) else none) = none ∧ (b2 (fX3_enterPerson k f (bI w)) fun r1 f2 => nr .boolean r1 <| some (r1, f2)) = some (0, f)) ∨ ∃ d' f2, (if d.1.P < 8 ∧ v 0 ≤ 2 ∧ v 1 ≤ 60 ∧ v 2 ≤ 60 then some (dP d (decide (c = 119)) (v 0) (v 1) (v 2)) else none) = some d' ∧ (b2 (fX3_enterPerson k f (bI w)) fun r1 f2 => nr .boolean r1 <| some (r1, f2)) = some (1, f2) ∧ DC k d' f2 ∧ ∀ j, ¬ (k ≤ j ∧ j ≤ k + 6) → f2 j = f j) := by
      intro w hw
      rcases co_enterP hk ok h hv hv9 w with ⟨q, e⟩ | ⟨q, f2, e1, e2, e3⟩
      · rw [if_neg q, e]; exact Or.inl ⟨rfl, rfl⟩
      · rw [if_pos q, e1, ← hw]; exact Or.inr ⟨_, f2, rfl, rfl, e2, e3⟩
    by_cases b : c = 109
    · rw [if_pos b, if_neg (show ¬ c = 119 by omega)]
      exact key false (by rw [decide_eq_false (by omega)])
    · rw [if_neg b, if_pos (show c = 119 by omega), if_pos (show c = 119 by omega)]
      exact key true (by rw [decide_eq_true (by omega)])
  · rw [if_neg a, if_neg (show ¬ c = 109 by omega), if_neg (show ¬ c = 119 by omega)]
    by_cases b : c = 112
    · have n2 : nmb c = 2 := by unfold nmb; rw [if_neg a, if_pos b]
      rw [n2] at hv
      rw [if_pos b, if_pos b]
      rcases co_enterQ hk ok h hv hv9 with ⟨q, e⟩ | ⟨q, f2, e1, e2, e3⟩
      · rw [if_neg q, e]; exact Or.inl ⟨rfl, rfl⟩
      · rw [if_pos q, e1]; exact Or.inr ⟨_, f2, rfl, rfl, e2, e3⟩
    · have n0 : f (k+7) 0 = nI (v 0) := hv 0 (by omega)
      have v0 := hv9 0
      rw [if_neg b, if_neg b]
      unfold fX3_enterLaw
      rw [gd0 (by decide), gd0 (by decide), cl0, n0]
      by_cases e : 1 ≤ v 0
      · rw [if_pos (show (1 : Int32) ≤ nI (v 0) from (nI_leI (a := 1) (by omega) (by omega)).mpr e), if_pos e, lte]
        refine Or.inr ⟨_, st2 f k 2 (nI (v 0)), rfl, rfl, ⟨?_, ?_, ?_, fun x hx => ?_, fun p hp => ?_⟩, fun j hj => s2_n (by omega)⟩
        · rw [s2_s, u_n (by decide)]; exact h.1
        · rw [s2_s, u_n (by decide)]; exact h.2.1
        · rw [s2_s, u_s]; rfl
        · rw [s2_n (by omega), s2_n (by omega), s2_n (by omega), s2_n (by omega)]; exact h.2.2.2.1 x hx
        · rw [s2_n (by omega), s2_n (by omega)]; exact h.2.2.2.2 p hp
      · rw [if_neg (show ¬ (1 : Int32) ≤ nI (v 0) from fun z => e ((nI_leI (a := 1) (by omega) (by omega)).mp z)), if_neg e]
        exact Or.inl ⟨rfl, rfl⟩
theorem ent_ok {d d' : DR} {c : Nat} {v : Nat → Nat} (ok : DOK d) (hv9 : ∀ t, v t ≤ 99) (h : ent d c v = some d') : DOK d' := by
  obtain ⟨o1, o2, o3, o4, o5⟩ := ok
  unfold ent at h
  by_cases a : c = 109 ∨ c = 119
  · rw [if_pos a] at h
    by_cases q : d.1.P < 8 ∧ v 0 ≤ 2 ∧ v 1 ≤ 60 ∧ v 2 ≤ 60
    · rw [if_pos q] at h
      cases h
      refine ⟨q.1, o2, o3, fun x hx => ?_, o5⟩
      show fu d.1.kd d.1.P (v 0) x ≤ 2 ∧ fu d.1.db d.1.P (v 1) x ≤ 60 ∧ fu d.2 d.1.P (v 2) x ≤ 60
      by_cases y : x = d.1.P
      · rw [y, fu_s, fu_s, fu_s]; exact q.2
      · rw [fu_n y, fu_n y, fu_n y]
        have hx' : x < d.1.P + 1 := hx
        exact o4 x (by omega)
    · rw [if_neg q] at h; cases h
  · rw [if_neg a] at h
    by_cases b : c = 112
    · rw [if_pos b] at h
      by_cases q : d.1.Q < 3 ∧ v 0 ≤ 2 ∧ v 1 ≤ 20
      · rw [if_pos q] at h
        cases h
        refine ⟨o1, q.1, o3, o4, fun x hx => ?_⟩
        show fu d.1.tr d.1.Q (v 0) x ≤ 2 ∧ fu d.1.pr d.1.Q (v 1) x ≤ 20
        by_cases y : x = d.1.Q
        · rw [y, fu_s, fu_s]; exact q.2
        · rw [fu_n y, fu_n y]
          have hx' : x < d.1.Q + 1 := hx
          exact o5 x (by omega)
      · rw [if_neg q] at h; cases h
    · rw [if_neg b] at h
      by_cases q : 1 ≤ v 0
      · rw [if_pos q] at h
        cases h
        exact ⟨o1, o2, hv9 0, o4, o5⟩
      · rw [if_neg q] at h; cases h
