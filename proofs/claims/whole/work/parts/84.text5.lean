/-! write, wipe, lay by both -/
theorem R_text {T : Nat} {ro : RO} {f f3 : hF} (h : R T ro f) (e : ∀ j, j ≠ 1 → j ≠ 2 → j ≠ 146 → j ≠ 153 → f3 j = f j) (e2 : ∀ i, i ≠ 13 → f3 146 i = f 146 i) (hs : TX f3) : R T ro f3 := by
  have hr := h.rr
  refine ⟨⟨hr.ok, by rw [e 3 (by omega) (by omega) (by omega) (by omega)]; exact hr.c0, by rw [e 3 (by omega) (by omega) (by omega) (by omega)]; exact hr.c1, by rw [e 3 (by omega) (by omega) (by omega) (by omega)]; exact hr.c2, ?_, ?_, by rw [e2 0 (by omega)]; exact hr.m0, by rw [e2 2 (by omega)]; exact hr.m1, by rw [e2 4 (by omega)]; exact hr.m2, by rw [e 147 (by omega) (by omega) (by omega) (by omega)]; exact hr.ma, by rw [e 148 (by omega) (by omega) (by omega) (by omega)]; exact hr.mp⟩, ?_, ?_, ?_, ?_, ?_, ?_, hs⟩
  · rw [e 4 (by omega) (by omega) (by omega) (by omega), e 5 (by omega) (by omega) (by omega) (by omega), e 6 (by omega) (by omega) (by omega) (by omega)]; exact hr.ca
  · rw [e 8 (by omega) (by omega) (by omega) (by omega), e 9 (by omega) (by omega) (by omega) (by omega)]; exact hr.cp
  · rw [e 149 (by omega) (by omega) (by omega) (by omega)]; exact h.bk
  · rw [e 149 (by omega) (by omega) (by omega) (by omega)]; exact CB_frame (fun t t1 t2 => e t (by omega) (by omega) (by omega) (by omega)) h.cb
  · rw [e 158 (by omega) (by omega) (by omega) (by omega)]; exact h.z
  · obtain ⟨m, gk, km, k1, k2, k3⟩ := SH_out h.past
    exact SH_in km (SHc_fr (fun t t1 t2 => e t (by omega) (by omega) (by omega) (by omega)) km k1) (SHm_fr (e2 6 (by omega)) (e 150 (by omega) (by omega) (by omega) (by omega)) k2) k3
  · obtain ⟨m, gk, km, k1, k2, k3⟩ := SH_out h.kept
    exact SH_in km (SHc_fr (fun t t1 t2 => e t (by omega) (by omega) (by omega) (by omega)) km k1) (SHm_fr (e2 8 (by omega)) (e 151 (by omega) (by omega) (by omega) (by omega)) k2) k3
  · have h := h.seen
    unfold SE at h ⊢
    rw [e 47 (by omega) (by omega) (by omega) (by omega), e2 10 (by omega), e 48 (by omega) (by omega) (by omega) (by omega), e 49 (by omega) (by omega) (by omega) (by omega), e 50 (by omega) (by omega) (by omega) (by omega), e 51 (by omega) (by omega) (by omega) (by omega), e 152 (by omega) (by omega) (by omega) (by omega)]
    exact h
theorem wipe_step {T : Nat} {ro : RO} {f : hF} (h : R T ro f) : Act2 (R T ro) f (fun f => fX7_wipe f) (fun f => fX8_wipe f) := by
  obtain ⟨m, h1, h2, h3, h4⟩ := h.text
  refine ⟨nI m, st2 f 1 1 0, st2 (st2 f 1 1 0) 146 13 0, ?_, ?_, ?_⟩
  · show fX7_wipe f = _
    unfold fX7_wipe
    rw [lte, h2]
  · show fX8_wipe _ = _
    unfold fX8_wipe
    rw [lte, s2_n (by decide), h3]
  · refine R_text h (fun j j1 j2 j3 j4 => by rw [s2_n j3, s2_n j1]) (fun i hi => by rw [s2_s, u_n hi, s2_n (by decide)]) ⟨0, by omega, ?_, ?_, fun i hi => absurd hi (Nat.not_lt_zero i)⟩
    · rw [s2_n (by decide), s2_s, u_s]; rfl
    · rw [s2_s, u_s]; rfl
theorem char_all : ∀ c, c < 127 → vp_nar .char (((nI c).toUInt32 % 65536).toInt32) = nI c := by decide +kernel
theorem write_step {T : Nat} {ro : RO} {f : hF} (h : R T ro f) (x : Int32) : Act2 (R T ro) f (fun f => fX7_write f x) (fun f => fX8_write f x) := by
  obtain ⟨m, h1, h2, h3, h4⟩ := h.text
  rcases in_or x 32 126 (by omega) (by omega) with ⟨c, c1, c2, rfl, hin⟩ | ⟨hin, hout⟩
  · have k1 : ¬ nI c < (32 : Int32) := fun z => by have := (nI_ltI (b := 32) (by omega) (by omega)).mp z; omega
    have k2 : nI c ≤ (126 : Int32) := (nI_leI (b := 126) (by omega) (by omega)).mpr c2
    by_cases e : m = 200
    · subst e
      refine ⟨-3, f, f, ?_, ?_, h⟩
      · show fX7_write f _ = _
        unfold fX7_write fX4_add
        rw [if_neg k1, if_pos k2, h2, if_neg (by decide), if_neg (by decide), b2s, if_pos rfl]
      · show fX8_write f _ = _
        unfold fX8_write
        rw [show fX8_in (nI c) (32 : Int32) (126 : Int32) = some 1 from hin, b1s, if_neg (by decide), h3, if_pos (by decide)]
    · have hm : m < 200 := by omega
      refine ⟨nI (m + 1), st2 (st2 f 2 m (nI c)) 1 1 (nI (m + 1)), st2 (st2 (st2 (st2 f 2 m (nI c)) 1 1 (nI (m + 1))) 153 m (nI c)) 146 13 (nI (m + 1)), ?_, ?_, ?_⟩
      · show fX7_write f _ = _
        unfold fX7_write fX4_add
        rw [if_neg k1, if_pos k2, h2, if_neg (nI_pos (by omega)), if_pos (show nI m < (200 : Int32) from (nI_ltI (b := 200) (by omega) (by omega)).mpr hm), gdk hm (by omega), lte, ncl (by omega), char_all c (by omega), s2_n (j := 1) (by decide), h2, lte, show nI m + 1 = nI (m + 1) from nadd m 1, b2s, if_neg (by decide), s2_s, u_s]
      · show fX8_write _ _ = _
        unfold fX8_write
        rw [show fX8_in (nI c) (32 : Int32) (126 : Int32) = some 1 from hin, b1s, if_neg (by decide), s2_n (j := 146) (by decide), s2_n (j := 146) (by decide), h3, if_neg (show ¬ nI m = (200 : Int32) from fun z => e ((nI_eq (b := 200) (by omega) (by omega)).mp z)), gdk hm (by omega), lte, ncl (by omega), s2_n (j := 146) (by decide), s2_n (j := 146) (by decide), s2_n (j := 146) (by decide), h3, lte, show nI m + 1 = nI (m + 1) from nadd m 1, s2_s, u_s]
      · refine R_text h (fun j j1 j2 j3 j4 => by rw [s2_n j3, s2_n j4, s2_n j1, s2_n j2]) (fun i hi => by rw [s2_s, u_n hi, s2_n (by decide), s2_n (by decide), s2_n (by decide)]) ⟨m + 1, by omega, ?_, ?_, fun i hi => ?_⟩
        · rw [s2_n (by decide), s2_n (by decide), s2_s, u_s]
        · rw [s2_s, u_s]
        · have g2 : st2 (st2 (st2 (st2 f 2 m (nI c)) 1 1 (nI (m + 1))) 153 m (nI c)) 146 13 (nI (m + 1)) 2 = upd (f 2) m (nI c) := by rw [s2_n (by decide), s2_n (by decide), s2_n (by decide), s2_s]
          have g153 : st2 (st2 (st2 (st2 f 2 m (nI c)) 1 1 (nI (m + 1))) 153 m (nI c)) 146 13 (nI (m + 1)) 153 = upd (f 153) m (nI c) := by rw [s2_n (by decide), s2_s, s2_n (by decide), s2_n (by decide)]
          rw [g2, g153]
          by_cases y : i = m
          · rw [y, u_s, u_s]; exact ⟨c, c1, c2, rfl, rfl⟩
          · rw [u_n y, u_n y]; exact h4 i (by omega)
  · refine ⟨-1, f, f, ?_, ?_, h⟩
    · show fX7_write f x = _
      unfold fX7_write
      rcases hout with q | q
      · rw [if_pos (show x < (32 : Int32) from q)]
      · by_cases z : x < 32
        · rw [if_pos z]
        · rw [if_neg z, if_neg (show ¬ x ≤ (126 : Int32) from Int32.not_le.mpr q)]
    · show fX8_write f x = _
      unfold fX8_write
      rw [show fX8_in x (32 : Int32) (126 : Int32) = some 0 from hin, b1s, if_pos rfl]
/-- the book of a gaol just laid -/
def gO (d : DR) : Nat → Int32 := fun t => if 1 ≤ t ∧ t ≤ d.1.P then nI (d.2 (t - 1)) else 0
theorem gO_0 {d : DR} {t : Nat} (h : t = 0 ∨ d.1.P < t) : gO d t = 0 := if_neg (by omega)
theorem gO_vth {d : DR} (hP : d.1.P ≤ 8) {s : Nat} : vth (gO d) s = false := by
  unfold vth vln
  rw [gO_0 (Or.inr (by omega))]
  exact decide_eq_false (fun z => absurd z (Nat.not_lt_zero _))
theorem gO_BK {d : DR} (hP : d.1.P ≤ 8) (T : Nat) : BK d.1 T (gO d) := by
  refine ⟨⟨⟨0, gO_0 (Or.inl rfl), Nat.zero_le _⟩, fun p hp => ⟨0, by omega, gO_0 (Or.inr (by omega))⟩, fun s hs hv => ?_, fun s t hs ht h1 h2 hv => ?_⟩, fun p h1 h2 => gO_0 (Or.inr (by omega)), fun i hi => gO_0 (Or.inr (by omega))⟩
  · rw [gO_vth hP] at hv; cases hv
  · rw [gO_vth hP] at hv; cases hv
theorem co_open45 {f0 : hF} : ∀ (r i n : Nat) (f : hF), i + r = 3 → r < n → (∀ j, j ≠ 22 → j ≠ 23 → f j = f0 j) → (∀ t, t < i → f 22 t = 0 ∧ f 23 t = 0) → ∃ f2, fX0_open_45 20 3 n f (nI i) = some f2 ∧ (∀ j, j ≠ 22 → j ≠ 23 → f2 j = f0 j) ∧ ∀ t, t < 3 → f2 22 t = 0 ∧ f2 23 t = 0 := by
  intro r
  induction r with
  | zero =>
    intro i n f hr hn e h
    obtain ⟨n, rfl⟩ : ∃ k, n = k + 1 := ⟨n - 1, by omega⟩
    obtain rfl : i = 3 := by omega
    exact ⟨f, by rw [fX0_open_45, if_pos (by decide)], e, h⟩
  | succ r ih =>
    intro i n f hr hn e h
    obtain ⟨n, rfl⟩ : ∃ k, n = k + 1 := ⟨n - 1, by omega⟩
    have hi : i < 3 := by omega
    rw [fX0_open_45, if_neg (ge3 hi), gdk hi (by omega), lte, ncl (by omega), gdk hi (by omega), lte, show nI i + 1 = nI (i + 1) from nadd i 1]
    refine ih (i + 1) n _ (by omega) (by omega) (fun j j1 j2 => by rw [s2_n (by omega), s2_n (by omega), e j j1 j2]) (fun t ht => ?_)
    rw [s2_n (show (22 : Nat) ≠ 20 + 3 by decide), s2_s, s2_s (k := 20 + 3), s2_n (show (20 : Nat) + 3 ≠ 20 + 2 by decide)]
    by_cases y : t = i
    · rw [y, u_s, u_s]; exact ⟨rfl, rfl⟩
    · rw [u_n y, u_n y]; exact h t (by omega)
theorem co_open7 {f0 : hF} {P : Nat} {pu : Nat → Nat} (hP : P ≤ 8) (h0 : f0 3 0 = nI P) (hpu : ∀ a, a < P → f0 7 a = nI (pu a)) : ∀ (r i n : Nat) (f : hF), i + r = 8 → r < n → (∀ j, j ≠ 21 → j ≠ 22 → j ≠ 23 → f j = f0 j) → (∀ t, t < i → f 21 t = if t < P then nI (pu t) else 0) →
    ∃ f2, fX0_open_7 20 3 n f (nI i) = some f2 ∧ (∀ j, j ≠ 21 → j ≠ 22 → j ≠ 23 → f2 j = f0 j) ∧ (∀ t, t < 8 → f2 21 t = if t < P then nI (pu t) else 0) ∧ ∀ t, t < 3 → f2 22 t = 0 ∧ f2 23 t = 0 := by
  intro r
  induction r with
  | zero =>
    intro i n f hr hn e h
    obtain ⟨n, rfl⟩ : ∃ k, n = k + 1 := ⟨n - 1, by omega⟩
    obtain rfl : i = 8 := by omega
    obtain ⟨f2, a1, a2, a3⟩ := co_open45 (f0 := f) 3 0 FU f rfl (by decide) (fun _ _ _ => rfl) (fun t ht => absurd ht (Nat.not_lt_zero t))
    refine ⟨f2, ?_, fun j j1 j2 j3 => by rw [a2 j j2 j3, e j j1 j2 j3], fun t ht => by rw [a2 21 (by decide) (by decide)]; exact h t ht, a3⟩
    rw [fX0_open_7, if_pos (by decide)]
    exact a1
  | succ r ih =>
    intro i n f hr hn e h
    obtain ⟨n, rfl⟩ : ∃ k, n = k + 1 := ⟨n - 1, by omega⟩
    have hi : i < 8 := by omega
    have hper : fX3_isPerson 3 f (nI i) = some (bI (decide (0 ≤ nI i ∧ nI i < nI P))) := co_person (by rw [e 3 (by decide) (by decide) (by decide)]; exact h0) _
    have e36 : ∀ v : Int32, v = (if i < P then nI (pu i) else 0) → ∃ f2, fX0_open_36 20 3 (fX0_open_7 20 3 n) f (nI i) (nI i) v = some f2 ∧ (∀ j, j ≠ 21 → j ≠ 22 → j ≠ 23 → f2 j = f0 j) ∧ (∀ t, t < 8 → f2 21 t = if t < P then nI (pu t) else 0) ∧ ∀ t, t < 3 → f2 22 t = 0 ∧ f2 23 t = 0 := by
      intro v hv
      unfold fX0_open_36
      rw [gdk hi (by omega), lte, ncl (by omega), show nI i + 1 = nI (i + 1) from nadd i 1]
      refine ih (i + 1) n _ (by omega) (by omega) (fun j j1 j2 j3 => by rw [s2_n (by omega), e j j1 j2 j3]) (fun t ht => ?_)
      rw [s2_s]
      by_cases y : t = i
      · rw [y, u_s, hv]
      · rw [u_n y]; exact h t (by omega)
    rw [fX0_open_7, if_neg (ge8 hi), hper, b1s, bi_if]
    by_cases q : i < P
    · rw [per_t (by omega) q, if_pos rfl, gdk hi (by omega), ncl (by omega), e 7 (by decide) (by decide) (by decide), hpu i q]
      exact e36 _ (by rw [if_pos q])
    · rw [decide_eq_false (fun z => q ((nI_ltI (by omega) (by omega)).mp z.2)), if_neg (show ¬ false = true by decide)]
      exact e36 _ (by rw [if_neg q])
theorem mo_zero {f0 : hF} : ∀ (r i n : Nat) (f : hF), i + r = 111 → r < n → (∀ j, j ≠ 149 → f j = f0 j) → (∀ t, f 149 t = if t < i then 0 else f0 149 t) →
    ∃ f2, fX8_settles_56 n f (nI i) = (b1 (fX8_copies 149 111 156 8 f2 (1 : Int32) (0 : Int32) (f2 146 0)) fun f2 => lt (st2 f2 146 6 0) fun f3 => lt (st2 f3 146 8 0) fun f4 => lt (st2 f4 146 10 0) fun f5 => some f5) ∧ (∀ j, j ≠ 149 → f2 j = f0 j) ∧ ∀ t, f2 149 t = if t < 111 then 0 else f0 149 t := by
  intro r
  induction r with
  | zero =>
    intro i n f hr hn e h
    obtain ⟨n, rfl⟩ : ∃ k, n = k + 1 := ⟨n - 1, by omega⟩
    obtain rfl : i = 111 := by omega
    exact ⟨f, by rw [fX8_settles_56, if_pos (by decide)], e, h⟩
  | succ r ih =>
    intro i n f hr hn e h
    obtain ⟨n, rfl⟩ : ∃ k, n = k + 1 := ⟨n - 1, by omega⟩
    rw [fX8_settles_56, if_neg (show ¬ (111 : Int32) ≤ nI i from fun z => by have := (nI_leI (a := 111) (by omega) (by omega)).mp z; omega), gdk (show i < 111 by omega) (by omega), lte, ncl (by omega), show nI i + 1 = nI (i + 1) from nadd i 1]
    refine ih (i + 1) n _ (by omega) (by omega) (fun j hj => by rw [s2_n hj, e j hj]) (fun t => ?_)
    rw [s2_s]
    by_cases y : t = i
    · rw [y, u_s, if_pos (by omega)]
    · rw [u_n y, h]
      by_cases z : t < i
      · rw [if_pos z, if_pos (by omega)]
      · rw [if_neg z, if_neg (by omega)]
theorem mo_settles {d : DR} {f : hF} (ok : DOK d) (h : DM d f) (hz : ∀ i, 111 ≤ i → f 149 i = 0) : ∃ f6, fX8_settles f = some f6 ∧ f6 146 0 = nI d.1.P ∧ f6 146 2 = nI d.1.Q ∧ f6 146 4 = nI d.1.law ∧ f6 146 6 = 0 ∧ f6 146 8 = 0 ∧ f6 146 10 = 0 ∧ f6 146 13 = f 146 13 ∧ f6 149 = gO d ∧
    (∀ a, a < d.1.P → f6 147 (3 * a) = bI (d.1.fm a) ∧ f6 147 (3 * a + 1) = nI (d.1.kd a) ∧ f6 147 (3 * a + 2) = nI (d.1.db a)) ∧ (∀ p, p < d.1.Q → f6 148 (2 * p) = nI (d.1.tr p) ∧ f6 148 (2 * p + 1) = nI (d.1.pr p)) ∧ ∀ j, j ≠ 146 → j ≠ 147 → j ≠ 148 → j ≠ 149 → f6 j = f j := by
  have hP := ok.1
  have hQ := ok.2.1
  have b1' : ∀ a b : hF, a = b → a = b := fun _ _ h => h
  obtain ⟨F, hF⟩ : ∃ F, st2 (st2 (st2 f 146 0 (nI d.1.P)) 146 2 (nI d.1.Q)) 146 4 (nI d.1.law) = F := ⟨_, rfl⟩
  have o1 : ∀ j, j ≠ 146 → F j = f j := fun j hj => by rw [← hF, s2_n hj, s2_n hj, s2_n hj]
  have m1 : ∀ i, i ≠ 0 → i ≠ 2 → i ≠ 4 → F 146 i = f 146 i := fun i h0 h2 h4 => by rw [← hF, s2_s, u_n h4, s2_s, u_n h2, s2_s, u_n h0]
  have m10 : F 146 0 = nI d.1.P := by rw [← hF, s2_s, u_n (by decide), s2_s, u_n (by decide), s2_s, u_s]
  have m12 : F 146 2 = nI d.1.Q := by rw [← hF, s2_s, u_n (by decide), s2_s, u_s]
  have m14 : F 146 4 = nI d.1.law := by rw [← hF, s2_s, u_s]
  have k1 := mo_copies (f := F) (a0 := 147) (n0 := 24) (a2 := 155) (n2 := 24) (u := 0) (v := 0) (c := 24) (by decide) (by decide) (by decide) (by decide) (by decide)
  obtain ⟨G, hG⟩ : ∃ G, stA F 147 (cpf F 147 155 0 0 24) = G := ⟨_, rfl⟩
  rw [hG] at k1
  have o2 : ∀ j, j ≠ 147 → G j = F j := fun j hj => by rw [← hG, sA_n hj]
  have v147 : ∀ t, t < 24 → G 147 t = f 155 t := fun t ht => by
    have := cpf_in (f := F) (a0 := 147) (a2 := 155) (u := 0) (v := 0) (c := 24) ht
    rw [Nat.zero_add] at this
    rw [← hG, sA_s, this, o1 155 (by decide)]
  have k2 := mo_copies (f := G) (a0 := 148) (n0 := 6) (a2 := 157) (n2 := 6) (u := 0) (v := 0) (c := 6) (by decide) (by decide) (by decide) (by decide) (by decide)
  obtain ⟨H, hH⟩ : ∃ H, stA G 148 (cpf G 148 157 0 0 6) = H := ⟨_, rfl⟩
  rw [hH] at k2
  have o3 : ∀ j, j ≠ 148 → H j = G j := fun j hj => by rw [← hH, sA_n hj]
  have v148 : ∀ t, t < 6 → H 148 t = f 157 t := fun t ht => by
    have := cpf_in (f := G) (a0 := 148) (a2 := 157) (u := 0) (v := 0) (c := 6) ht
    rw [Nat.zero_add] at this
    rw [← hH, sA_s, this, o2 157 (by decide), o1 157 (by decide)]
  obtain ⟨K, z1, z2, z3⟩ := mo_zero (f0 := H) 111 0 FU H rfl (by decide) (fun _ _ => rfl) (fun t => by rw [if_neg (by omega)])
  have k146 : ∀ i, K 146 i = F 146 i := fun i => by rw [z2 146 (by decide), o3 146 (by decide), o2 146 (by decide)]
  have k4 := mo_copies (f := K) (a0 := 149) (n0 := 111) (a2 := 156) (n2 := 8) (u := 1) (v := 0) (c := d.1.P) (by decide) (by omega) (by omega) (by decide) (by decide)
  have g9 : cpf K 149 156 1 0 d.1.P = gO d := by
    funext t
    unfold cpf gO
    by_cases q : 1 ≤ t ∧ t < 1 + d.1.P
    · rw [if_pos q, if_pos (by omega), Nat.zero_add, z2 156 (by decide), o3 156 (by decide), o2 156 (by decide), o1 156 (by decide)]
      exact (h.2.2.2.1 (t - 1) (by omega)).2.2.2
    · rw [if_neg q, if_neg (by omega), z3]
      by_cases y : t < 111
      · rw [if_pos y]
      · rw [if_neg y, o3 149 (by decide), o2 149 (by decide), o1 149 (by decide)]; exact hz t (by omega)
  rw [g9] at k4
  refine ⟨st2 (st2 (st2 (stA K 149 (gO d)) 146 6 0) 146 8 0) 146 10 0, ?_, ?_, ?_, ?_, ?_, ?_, ?_, ?_, ?_, fun a ha => ?_, fun p hp => ?_, fun j j1 j2 j3 j4 => ?_⟩
  · unfold fX8_settles
    rw [h.1, lte, lte, s2_s, u_n (by decide), h.2.1, lte, s2_s, u_n (by decide), s2_s, u_n (by decide), h.2.2.1, hF]
    rw [show fX8_copies 147 24 155 24 F (0 : Int32) (0 : Int32) (24 : Int32) = some G from k1, b1s, show fX8_copies 148 6 157 6 G (0 : Int32) (0 : Int32) (6 : Int32) = some H from k2, b1s]
    rw [show fX8_settles_56 FU H 0 = _ from z1, k146, m10, show fX8_copies 149 111 156 8 K (1 : Int32) (0 : Int32) (nI d.1.P) = _ from k4, b1s, lte, lte, lte]
  · rw [s2_s, u_n (by decide), s2_s, u_n (by decide), s2_s, u_n (by decide), sA_n (by decide), k146, m10]
  · rw [s2_s, u_n (by decide), s2_s, u_n (by decide), s2_s, u_n (by decide), sA_n (by decide), k146, m12]
  · rw [s2_s, u_n (by decide), s2_s, u_n (by decide), s2_s, u_n (by decide), sA_n (by decide), k146, m14]
  · rw [s2_s, u_n (by decide), s2_s, u_n (by decide), s2_s, u_s]
  · rw [s2_s, u_n (by decide), s2_s, u_s]
  · rw [s2_s, u_s]
  · rw [s2_s, u_n (by decide), s2_s, u_n (by decide), s2_s, u_n (by decide), sA_n (by decide), k146, m1 13 (by decide) (by decide) (by decide)]
  · rw [s2_n (by decide), s2_n (by decide), s2_n (by decide), sA_s]
  · rw [s2_n (by decide), s2_n (by decide), s2_n (by decide), sA_n (by decide), z2 147 (by decide), o3 147 (by decide), v147 _ (by omega), v147 _ (by omega), v147 _ (by omega)]
    have := h.2.2.2.1 a ha
    exact ⟨this.1, this.2.1, this.2.2.1⟩
  · rw [s2_n (by decide), s2_n (by decide), s2_n (by decide), sA_n (by decide), z2 148 (by decide), v148 _ (by omega), v148 _ (by omega)]
    exact h.2.2.2.2 p hp
  · rw [s2_n j1, s2_n j1, s2_n j1, sA_n j4, z2 j j4, o3 j j3, o2 j j2, o1 j j1]
theorem prs_lt {n : Nat} {L : Nat → Nat} : ∀ (m i : Nat) (d : DR), ∀ j, (prs n L m i d).1 = some j → j < n
  | 0, i, d, j, h => by cases h
  | m+1, i, d, j, h => by
    unfold prs at h
    by_cases z : n ≤ i
    · rw [if_pos z] at h; cases h
    · rw [if_neg z] at h
      cases q : item n L i d with
      | none => rw [q] at h; cases h; omega
      | some p =>
        obtain ⟨d', i'⟩ := p
        rw [q] at h
        exact prs_lt m i' d' j h
theorem a3c {d : DR} (h : DOK d) (z1 : d.1.P ≠ 0) (z2 : d.1.Q ≠ 0) : ROk d.1 := ⟨by omega, h.1, by omega, h.2.1, h.2.2.1, fun a ha => ⟨(h.2.2.2.1 a ha).1, (h.2.2.2.1 a ha).2.1⟩, h.2.2.2.2⟩
theorem lay_step {T : Nat} {ro : RO} {f : hF} (h : R T ro f) : Act2 (fun f => ∃ ro, R T ro f) f (fun f => fX7_lay f) (fun f => fX8_lay f) := by
  obtain ⟨n, L, hL, hC, hM⟩ := TX_out h.text
  obtain ⟨f2, a1, a2, a3, a4⟩ := co_read (k := 11) hL (by omega) hC
  have s2' : Sc f f2 := Sc.co (fun j j1 _ => a4 j (by omega))
  have hM2 : TM n L f2 := ⟨by rw [a4 146 (by omega)]; exact hM.1, fun i hi => by rw [a4 153 (by omega)]; exact hM.2 i hi⟩
  obtain ⟨r, hr⟩ : ∃ r, (prs n L (n + 1) 0 d0).1 = r := ⟨_, rfl⟩
  obtain ⟨d, hd⟩ : ∃ d, (prs n L (n + 1) 0 d0).2 = d := ⟨_, rfl⟩
  rw [hr] at a1
  rw [hd] at a2 a3
  cases r with
  | some i =>
    obtain ⟨f3, k1, -, k3⟩ := mo_read hL hM2
    rw [hr] at k1
    have hne : ansP (some i) ≠ -4 := fun q => by
      have hb := prs_lt (n := n) (L := L) (n + 1) 0 d0
      exact n4 (b := i) (by have := hL.1; have := hb i hr; omega) q
    refine ⟨-2, f2, f3, ?_, ?_, ⟨ro, R_sc (FR.sc k3) (R_sc s2' h)⟩⟩
    · show fX7_lay f = _
      unfold fX7_lay
      rw [a1, b2s, if_neg hne]
    · show fX8_lay f2 = _
      unfold fX8_lay
      rw [k1, b2s, if_neg hne]
  | none =>
    obtain ⟨f3, k1, k2, k3⟩ := mo_read hL hM2
    have hD := k2 hr
    rw [hd] at hD
    rw [hr] at k1
    have hP := a3.1
    have hQ := a3.2.1
    have no : (d.1.P = 0 ∨ d.1.Q = 0) → Act2 (fun f => ∃ ro, R T ro f) f (fun f => fX7_lay f) (fun f => fX8_lay f) := by
      intro q
      refine ⟨-2, f2, f3, ?_, ?_, ⟨ro, R_sc (FR.sc k3) (R_sc s2' h)⟩⟩
      · show fX7_lay f = _
        unfold fX7_lay
        rw [a1, b2s, if_pos (show ansP none = -4 from rfl), a2.1, a2.2.1]
        by_cases z : d.1.P = 0
        · rw [if_pos (show nI d.1.P < (1 : Int32) from (nI_ltI (b := 1) (by omega) (by omega)).mpr (by omega))]
        · rw [if_neg (show ¬ nI d.1.P < (1 : Int32) from fun y => by have := (nI_ltI (b := 1) (by omega) (by omega)).mp y; omega), if_neg (show ¬ (1 : Int32) ≤ nI d.1.Q from fun y => by have := (nI_leI (a := 1) (by omega) (by omega)).mp y; omega)]
      · show fX8_lay f2 = _
        unfold fX8_lay
        rw [k1, b2s, if_pos (show ansP none = -4 from rfl), hD.1, hD.2.1]
        by_cases z : d.1.P = 0
        · rw [if_pos (show nI d.1.P = 0 by rw [z]; rfl)]
        · rw [if_neg (show ¬ nI d.1.P = 0 from fun y => z ((nI_eq (b := 0) (by omega) (by omega)).mp y)), if_pos (show nI d.1.Q = 0 by rw [q.resolve_left z]; rfl)]
    by_cases z1 : d.1.P = 0
    · exact no (Or.inl z1)
    by_cases z2 : d.1.Q = 0
    · exact no (Or.inr z2)
    obtain ⟨f7, c1, c2, -, c4⟩ := co_read (k := 3) hL (by omega) (TC_fr (a4 1 (by omega)) (a4 2 (by omega)) hC)
    rw [hr] at c1
    rw [hd] at c2
    obtain ⟨f8, o1, o2, o3, o4⟩ := co_open7 (f0 := st2 f7 20 0 0) hP (by rw [s2_n (by decide)]; exact c2.1) (fun a ha => by rw [s2_n (by decide)]; exact (c2.2.2.2.1 a ha).2.2.2) 8 0 FU (st2 f7 20 0 0) rfl (by decide) (fun _ _ _ _ => rfl) (fun t ht => absurd ht (Nat.not_lt_zero t))
    have e8 : ∀ j, ¬ (3 ≤ j ∧ j ≤ 23) → f8 j = f j := fun j hj => by rw [o2 j (by omega) (by omega) (by omega), s2_n (by omega), c4 j (by omega), a4 j (by omega)]
    have e8b : ∀ j, 3 ≤ j → j ≤ 10 → f8 j = f7 j := fun j j1 j2 => by rw [o2 j (by omega) (by omega) (by omega), s2_n (by omega)]
    have f11e : ∀ j, j ≠ 47 → j ≠ 52 → j ≠ 126 → st2 (st2 (st2 f8 47 0 0) 52 1 0) 126 1 0 j = f8 j := fun j j1 j2 j3 => by rw [s2_n j3, s2_n j2, s2_n j1]
    have hMb : TM n L (st2 (st2 (st2 f8 47 0 0) 52 1 0) 126 1 0) := ⟨by rw [f11e 146 (by decide) (by decide) (by decide), e8 146 (by omega)]; exact hM.1, fun i hi => by rw [f11e 153 (by decide) (by decide) (by decide), e8 153 (by omega)]; exact hM.2 i hi⟩
    obtain ⟨f3b, m1, m2, m3⟩ := mo_read hL hMb
    have hDb := m2 hr
    rw [hd] at hDb
    rw [hr] at m1
    have hz : ∀ i, 111 ≤ i → f3b 149 i = 0 := fun i hi => by rw [m3.1 149 (by omega) (by omega), f11e 149 (by decide) (by decide) (by decide), e8 149 (by omega)]; exact h.bk.2.2 i hi
    obtain ⟨f6, q1, q2, q3, q4, q5, q6, q7, q8, q9, q10, q11, q12⟩ := mo_settles a3 hDb hz
    have e6 : ∀ j, j ≠ 146 → ¬ (147 ≤ j ∧ j ≤ 149) → ¬ (154 ≤ j ∧ j ≤ 157) → f6 j = st2 (st2 (st2 f8 47 0 0) 52 1 0) 126 1 0 j := fun j j1 j2 j3 => by rw [q12 j j1 (by omega) (by omega) (by omega), m3.1 j j1 j3]
    refine ⟨nI d.1.P, st2 (st2 (st2 f8 47 0 0) 52 1 0) 126 1 0, f6, ?_, ?_, ⟨d.1, ⟨a3c a3 z1 z2, ?_, ?_, ?_, fun a ha => ?_, fun p hp => ?_, q2, q3, q4, q10, q11⟩, ?_, ?_, fun i hi => ?_, ?_, ?_, ?_, ?_⟩⟩
    · show fX7_lay f = _
      unfold fX7_lay fX2_open fX0_open
      rw [a1, b2s, if_pos (show ansP none = -4 from rfl), a2.1, a2.2.1, if_neg (show ¬ nI d.1.P < (1 : Int32) from fun y => by have := (nI_ltI (b := 1) (by omega) (by omega)).mp y; omega), if_pos (show (1 : Int32) ≤ nI d.1.Q from (nI_leI (a := 1) (by omega) (by omega)).mpr (by omega)), c1, b2s, lte]
      rw [show fX0_open_7 (19 + 1) 3 FU (st2 f7 (19 + 1) 0 0) 0 = some f8 from o1, b1s, b1s, lte, lte, lte, f11e 3 (by decide) (by decide) (by decide), e8b 3 (by omega) (by omega), c2.1]
    · show fX8_lay _ = _
      unfold fX8_lay
      rw [m1, b2s, if_pos (show ansP none = -4 from rfl), hDb.1, hDb.2.1, if_neg (show ¬ nI d.1.P = 0 from fun y => z1 ((nI_eq (b := 0) (by omega) (by omega)).mp y)), if_neg (show ¬ nI d.1.Q = 0 from fun y => z2 ((nI_eq (b := 0) (by omega) (by omega)).mp y)), q1, b1s, q2]
    · rw [e6 3 (by omega) (by omega) (by omega), f11e 3 (by decide) (by decide) (by decide), e8b 3 (by omega) (by omega)]; exact c2.1
    · rw [e6 3 (by omega) (by omega) (by omega), f11e 3 (by decide) (by decide) (by decide), e8b 3 (by omega) (by omega)]; exact c2.2.1
    · rw [e6 3 (by omega) (by omega) (by omega), f11e 3 (by decide) (by decide) (by decide), e8b 3 (by omega) (by omega)]; exact c2.2.2.1
    · rw [e6 4 (by omega) (by omega) (by omega), f11e 4 (by decide) (by decide) (by decide), e8b 4 (by omega) (by omega), e6 5 (by omega) (by omega) (by omega), f11e 5 (by decide) (by decide) (by decide), e8b 5 (by omega) (by omega), e6 6 (by omega) (by omega) (by omega), f11e 6 (by decide) (by decide) (by decide), e8b 6 (by omega) (by omega)]
      have := c2.2.2.2.1 a ha
      exact ⟨this.1, this.2.1, this.2.2.1⟩
    · rw [e6 8 (by omega) (by omega) (by omega), f11e 8 (by decide) (by decide) (by decide), e8b 8 (by omega) (by omega), e6 9 (by omega) (by omega) (by omega), f11e 9 (by decide) (by decide) (by decide), e8b 9 (by omega) (by omega)]
      exact c2.2.2.2.2 p hp
    · rw [q9]; exact gO_BK hP T
    · rw [q9]
      have e20 : ∀ j, 20 ≤ j → j ≤ 28 → f6 j = f8 j := fun j j1 j2 => by rw [e6 j (by omega) (by omega) (by omega), f11e j (by omega) (by omega) (by omega)]
      refine ⟨?_, fun p hp => ?_, fun p hp => ?_, fun p hp => ?_, fun s hs hv => by rw [gO_vth hP] at hv; cases hv⟩
      · rw [e20 20 (by omega) (by omega), o2 20 (by decide) (by decide) (by decide), s2_s, u_s, gO_0 (Or.inl rfl)]
      · rw [e20 (20 + 1) (by omega) (by omega), o3 p hp]
        unfold gO
        by_cases y : p < d.1.P
        · rw [if_pos y, if_pos (by omega), show 1 + p - 1 = p by omega]
        · rw [if_neg y, if_neg (by omega)]
      · rw [e20 (20 + 2) (by omega) (by omega), (o4 p hp).1, gO_0 (Or.inr (by omega))]
      · rw [e20 (20 + 3) (by omega) (by omega), (o4 p hp).2, gO_0 (Or.inr (by omega))]
    · rw [e6 158 (by omega) (by omega) (by omega), f11e 158 (by decide) (by decide) (by decide), e8 158 (by omega)]; exact h.z i hi
    · obtain ⟨m, gk, km, ⟨w1, nd, w2, w3, w4⟩, k2, k3⟩ := SH_out h.past
      refine SH_in (n := 0) (gs := gk) (by omega) ⟨?_, nd, fun j hj => ?_, w3, fun j hj => absurd hj (Nat.not_lt_zero j)⟩ ⟨q5, fun j hj => absurd hj (Nat.not_lt_zero j)⟩ (fun j hj => absurd hj (Nat.not_lt_zero j))
      · rw [e6 52 (by omega) (by omega) (by omega), s2_n (by decide), s2_s, u_s]; rfl
      · rw [e6 (52 + 1) (by omega) (by omega) (by omega), f11e (52 + 1) (by decide) (by decide) (by decide), e8 (52 + 1) (by omega)]; exact w2 j hj
    · obtain ⟨m, gk, km, ⟨w1, nd, w2, w3, w4⟩, k2, k3⟩ := SH_out h.kept
      refine SH_in (n := 0) (gs := gk) (by omega) ⟨?_, nd, fun j hj => ?_, w3, fun j hj => absurd hj (Nat.not_lt_zero j)⟩ ⟨q6, fun j hj => absurd hj (Nat.not_lt_zero j)⟩ (fun j hj => absurd hj (Nat.not_lt_zero j))
      · rw [e6 126 (by omega) (by omega) (by omega), s2_s, u_s]; rfl
      · rw [e6 (126 + 1) (by omega) (by omega) (by omega), f11e (126 + 1) (by decide) (by decide) (by decide), e8 (126 + 1) (by omega)]; exact w2 j hj
    · refine ⟨0, by omega, ?_, q7, fun i hi => absurd hi (Nat.not_lt_zero i)⟩
      rw [e6 47 (by omega) (by omega) (by omega), s2_n (by decide), s2_n (by decide), s2_s, u_s]; rfl
    · have ht := h.text
      unfold TX at ht ⊢
      rw [e6 1 (by omega) (by omega) (by omega), f11e 1 (by decide) (by decide) (by decide), e8 1 (by omega), e6 2 (by omega) (by omega) (by omega), f11e 2 (by decide) (by decide) (by decide), e8 2 (by omega), e6 153 (by omega) (by omega) (by omega), f11e 153 (by decide) (by decide) (by decide), e8 153 (by omega), q8, m3.2 13 (by omega), f11e 146 (by decide) (by decide) (by decide), e8 146 (by omega)]
      exact ht
