/-! THE HEAP AS ONE VALUE: shapes S (what each node is), addresses ad (where it lies), contents f (its ints) -/
abbrev hSh : Type := (Nat × List (Option (Option Nat))) ⊕ (Nat × Nat)
abbrev hF : Type := Nat → Nat → Int32
def fV (ad : Nat → Nat) (f : Nat → Int32) (j : Nat) (o : Option (Option Nat)) : Value := match o with
  | none => .int (f j)
  | some none => .null
  | some (some t) => .ref (ad t)
/-- a node's cell: an object of class ci with its fields (none: an int; some none: null; some (some t): node t), or an array of kind t and length n (kind 3: of nodes) -/
def hCell (ac : Nat → ClassId) (ad : Nat → Nat) (sh : hSh) (f : Nat → Int32) : va_E := match sh with
  | .inl (ci, fl) => .inr (ci, fl.mapIdx (fV ad f))
  | .inr (t, n) => match t with
      | 3 => .inl (ac 3, n, .inr (.inr (.inr (.inr (fun i => if f i ≤ 0 then none else some (ad (f i).toNatClampNeg))))))
      | t => .inl (ac t, n, .inl f)
def hW (ac : Nat → ClassId) (ad : Nat → Nat) (S : List hSh) (f : hF) : va_W := S.mapIdx (fun k sh => (ad k, hCell ac ad sh (f k)))
def stA (f : hF) (k : Nat) (g : Nat → Int32) : hF := fun j => if j = k then g else f j
def st2 (f : hF) (k i : Nat) (x : Int32) : hF := stA f k (upd (f k) i x)
abbrev hT (ac : Nat → ClassId) : List (ClassId × FieldType) := [(ac 0, .int), (ac 1, .char), (ac 2, .boolean), (ac 3, .object "PrisonWeddings$Books")]
def hAd (ad : Nat → Nat) (n : Nat) : Nat → Prop := fun q => ∃ k, k < n ∧ q = ad k
theorem hW_get {ac : Nat → ClassId} {ad : Nat → Nat} {S : List hSh} {f : hF} {k : Nat} {sh : hSh} (h : S[k]? = some sh) : (hW ac ad S f)[k]? = some (ad k, hCell ac ad sh (f k)) := by
  simp [hW, List.getElem?_mapIdx, h]
theorem hW_len {ac : Nat → ClassId} {ad : Nat → Nat} {S : List hSh} {f : hF} : (hW ac ad S f).length = S.length := by simp [hW]
theorem hW_some {ac : Nat → ClassId} {ad : Nat → Nat} {S : List hSh} {f : hF} {k : Nat} {q : Nat × va_E} (h : (hW ac ad S f)[k]? = some q) : ∃ sh, S[k]? = some sh ∧ q = (ad k, hCell ac ad sh (f k)) := by
  simp only [hW, List.getElem?_mapIdx] at h
  cases hs : S[k]? with
  | none => rw [hs] at h; cases h
  | some sh => rw [hs] at h; exact ⟨sh, rfl, (Option.some.inj h).symm⟩
theorem hW_setA {ac : Nat → ClassId} {ad : Nat → Nat} {S : List hSh} {f : hF} {k : Nat} {sh : hSh} {e : va_E} {g : Nat → Int32} (h : S[k]? = some sh) (he : hCell ac ad sh g = e) : (hW ac ad S f).set k (ad k, e) = hW ac ad S (stA f k g) := by
  subst he
  apply List.ext_getElem?
  intro j
  have hk : k < (hW ac ad S f).length := by rw [hW_len]; exact (List.getElem?_eq_some_iff.mp h).1
  by_cases hj : j = k
  · subst hj
    rw [List.getElem?_set_self hk, hW_get h]
    simp [stA]
  · rw [List.getElem?_set_ne (fun q => hj q.symm)]
    simp [hW, List.getElem?_mapIdx, stA, hj]
theorem hW_set {ac : Nat → ClassId} {ad : Nat → Nat} {S : List hSh} {f : hF} {k i : Nat} {sh : hSh} {e : va_E} {x : Int32} (h : S[k]? = some sh) (he : hCell ac ad sh (upd (f k) i x) = e) : (hW ac ad S f).set k (ad k, e) = hW ac ad S (st2 f k i x) := hW_setA h he
theorem hCell_int (ac : Nat → ClassId) (ad : Nat → Nat) (n : Nat) (f : Nat → Int32) : hCell ac ad (.inr (0, n)) f = .inl (ac 0, n, .inl f) := rfl
theorem hCell_char (ac : Nat → ClassId) (ad : Nat → Nat) (n : Nat) (f : Nat → Int32) : hCell ac ad (.inr (1, n)) f = .inl (ac 1, n, .inl f) := rfl
theorem hCell_bool (ac : Nat → ClassId) (ad : Nat → Nat) (n : Nat) (f : Nat → Int32) : hCell ac ad (.inr (2, n)) f = .inl (ac 2, n, .inl f) := rfl
theorem hCell_ref (ac : Nat → ClassId) (ad : Nat → Nat) (n : Nat) (f : Nat → Int32) : hCell ac ad (.inr (3, n)) f = .inl (ac 3, n, .inr (.inr (.inr (.inr (fun i => if f i ≤ 0 then none else some (ad (f i).toNatClampNeg)))))) := rfl
/-- the world: it lies in the heap, apart, and nothing else was written -/
def hOk (D : va_G) (ac : Nat → ClassId) (ad : Nat → Nat) (S : List hSh) (A : Nat → Prop) (H0 : Heap) (f : hF) (H : Heap) (locs : List Loc) : Prop :=
  va_P D vwCl (hW ac ad S f) H ∧ va_D A (hW ac ad S f) ∧ va_S A H0 H locs
theorem hD_alike {ac : Nat → ClassId} {ad : Nat → Nat} {S : List hSh} {A : Nat → Prop} {f g : hF} (h : va_D A (hW ac ad S f)) : va_D A (hW ac ad S g) := by
  refine ⟨fun i j p q hp hq e => ?_, fun k q hq => ?_⟩
  · obtain ⟨s1, e1, rfl⟩ := hW_some hp
    obtain ⟨s2, e2, rfl⟩ := hW_some hq
    exact h.1 i j _ _ (hW_get e1) (hW_get e2) e
  · obtain ⟨s1, e1, rfl⟩ := hW_some hq
    exact h.2 k (ad k, hCell ac ad s1 (f k)) (hW_get (f := f) e1)
theorem hD_ad {ac : Nat → ClassId} {ad : Nat → Nat} {S : List hSh} {A : Nat → Prop} {f : hF} (h : va_D A (hW ac ad S f)) : va_D (hAd ad S.length) (hW ac ad S f) := by
  refine ⟨h.1, fun k q hq => ?_⟩
  obtain ⟨s1, e1, rfl⟩ := hW_some hq
  exact ⟨k, (List.getElem?_eq_some_iff.mp e1).1, rfl⟩
theorem hAd_in {ac : Nat → ClassId} {ad : Nat → Nat} {S : List hSh} {A : Nat → Prop} {f : hF} (h : va_D A (hW ac ad S f)) {q : Nat} (hq : hAd ad S.length q) : A q := by
  obtain ⟨k, hk, rfl⟩ := hq
  exact h.2 k _ (hW_get (List.getElem?_eq_getElem hk))
/-! a contract's start and its ends -/
def hPc (D : va_G) (ac : Nat → ClassId) (ad : Nat → Nat) (S : List hSh) (f : hF) (av : List Value) : Array Value → State → Prop :=
  va_Pc av (fun U => va_P D vwCl (hW ac ad S f) U.heap ∧ va_K D vwCl (hT ac) U ∧ va_D (fun _ => True) (hW ac ad S f))
/-- it only reads -/
def hRi (r : Int32) : Array Value → State → Outcome → State → Prop := fun _ st o t => o = .returned (some (.int r)) ∧ t.heap = st.heap
def hQi (D : va_G) (ac : Nat → ClassId) (ad : Nat → Nat) (S : List hSh) (r : Int32) (g : hF) : Array Value → State → Outcome → State → Prop := fun _ st o t => o = .returned (some (.int r)) ∧ va_P D vwCl (hW ac ad S g) t.heap ∧ va_F (hAd ad S.length) st t
def hQv (D : va_G) (ac : Nat → ClassId) (ad : Nat → Nat) (S : List hSh) (g : hF) : Array Value → State → Outcome → State → Prop := fun _ st o t => o = .returned none ∧ va_P D vwCl (hW ac ad S g) t.heap ∧ va_F (hAd ad S.length) st t
def hNo : Addr → Prop := fun _ => False
/-! what a pure program says -/
def inA (i : Int32) (n : Nat) : Prop := ¬ (i < 0 ∨ n ≤ i.toNatClampNeg)
theorem inA_dec (i : Int32) (n : Nat) : inA i n ∨ ¬ inA i n := Classical.em _
/-- an index is looked at -/
def gd {α : Type} (i : Int32) (n : Nat) (k : Option α) : Option α := if i < 0 ∨ n ≤ i.toNatClampNeg then none else k
/-- a divisor is looked at -/
def nz {α : Type} (y : Int32) (k : Option α) : Option α := if y = 0 then none else k
def nzL {α : Type} (y : Int64) (k : Option α) : Option α := if y = 0 then none else k
/-- a small answer is so -/
def nr {α : Type} (t : FieldType) (x : Int32) (k : Option α) : Option α := if narrow t (.int x) = .int x then k else none
def b1 {α β : Type} (o : Option α) (k : α → Option β) : Option β := match o with
  | none => none
  | some a => k a
def b2 {α β γ : Type} (o : Option (α × β)) (k : α → β → Option γ) : Option γ := match o with
  | none => none
  | some (a, b) => k a b
def lt {α β : Type} (x : α) (k : α → β) : β := k x
/-- the row of a shelf is one of its rows -/
def ckB {α : Type} (k n : Nat) (x : Int32) (c : Nat → Option α) : Option α := match (List.range n).find? (fun i => x == nI (k + 2 + 9 * i)) with
  | some i => c (k + 2 + 9 * i)
  | none => none
theorem ckB_s {α : Type} {k n : Nat} {x : Int32} {c : Nat → Option α} {r : α} (h : ckB k n x c = some r) : ∃ b, x = nI b ∧ (∃ i, i < n ∧ b = k + 2 + 9 * i) ∧ c b = some r := by
  unfold ckB at h
  split at h
  · rename_i i hi
    have h1 := List.find?_some hi
    have h2 := List.mem_of_find?_eq_some hi
    exact ⟨_, by simpa using h1, ⟨i, List.mem_range.mp h2, rfl⟩, h⟩
  · cases h
def FU : Nat := 100000
theorem it {c : Prop} {i : Decidable c} {α : Type} {a b r : α} (hc : c) (h : (if c then a else b) = r) : a = r := by rw [if_pos hc] at h; exact h
theorem ie {c : Prop} {i : Decidable c} {α : Type} {a b r : α} (hc : ¬ c) (h : (if c then a else b) = r) : b = r := by rw [if_neg hc] at h; exact h
theorem gd_s {α : Type} {i : Int32} {n : Nat} {k : Option α} {r : α} (h : gd i n k = some r) : vp_in i n ∧ k = some r := by
  unfold gd at h
  split at h
  · cases h
  · rename_i hc; exact ⟨hc, h⟩
theorem nz_s {α : Type} {y : Int32} {k : Option α} {r : α} (h : nz y k = some r) : y ≠ 0 ∧ k = some r := by
  unfold nz at h
  split at h
  · cases h
  · rename_i hc; exact ⟨hc, h⟩
theorem nzL_s {α : Type} {y : Int64} {k : Option α} {r : α} (h : nzL y k = some r) : y ≠ 0 ∧ k = some r := by
  unfold nzL at h
  split at h
  · cases h
  · rename_i hc; exact ⟨hc, h⟩
theorem nr_s {α : Type} {t : FieldType} {x : Int32} {k : Option α} {r : α} (h : nr t x k = some r) : narrow t (.int x) = .int x ∧ k = some r := by
  unfold nr at h
  split at h
  · rename_i hc; exact ⟨hc, h⟩
  · cases h
theorem b1_s {α β : Type} {o : Option α} {k : α → Option β} {r : β} (h : b1 o k = some r) : ∃ a, o = some a ∧ k a = some r := by
  cases o with
  | none => cases h
  | some a => exact ⟨a, rfl, h⟩
theorem b2_s {α β γ : Type} {o : Option (α × β)} {k : α → β → Option γ} {r : γ} (h : b2 o k = some r) : ∃ a b, o = some (a, b) ∧ k a b = some r := by
  cases o with
  | none => cases h
  | some a => obtain ⟨x, y⟩ := a; exact ⟨x, y, rfl, h⟩
theorem lt_s2 {α β : Type} {x : α} {k : α → β} {r : β} (h : lt x k = r) : ∃ y, y = x ∧ k y = r := ⟨x, rfl, h⟩
theorem so1 {α : Type} {x r : α} (h : some x = some r) : r = x := (Option.some.inj h).symm
theorem so2 {α β : Type} {x r : α} {y t : β} (h : some (x, y) = some (r, t)) : r = x ∧ t = y := by cases h; exact ⟨rfl, rfl⟩
section HR
variable {p : Program} {l : Launch} {e : Env} {R : Room} {s : State} {m : MethodId} {args : Array Value} {below : List Frame} {meth : Method} {c : Code} {H : Heap} {locs : List Loc} {cells slots : Nat} {Q : State → Prop}
variable {cc : ByteArray} {pc : Nat} {ls : Array Slot} {rest : List Value} {D : va_G} {ac : Nat → ClassId} {ad : Nat → Nat} {S : List hSh} {A : Nat → Prop} {f : hF} {H0 : Heap}
theorem h_field {ad : Nat → Nat} {f : Nat → Int32} {fl : List (Option (Option Nat))} {j : Nat} {o : Option (Option Nat)} (h : fl[j]? = some o) : (fl.mapIdx (fV ad f))[j]? = some (fV ad f j o) := by
  simp [List.getElem?_mapIdx, h]
theorem h_fset {ac : Nat → ClassId} {ad : Nat → Nat} {f : Nat → Int32} {ci : Nat} {fl : List (Option (Option Nat))} {j : Nat} {x : Int32} (h : fl[j]? = some none) : hCell ac ad (.inl (ci, fl)) (upd f j x) = .inr (ci, (fl.mapIdx (fV ad f)).set j (.int x)) := by
  show Sum.inr (ci, fl.mapIdx (fV ad (upd f j x))) = _
  congr 2
  apply List.ext_getElem?
  intro i
  have hl : j < (fl.mapIdx (fV ad f)).length := by
    have := (List.getElem?_eq_some_iff.mp h).1
    simpa using this
  by_cases hi : i = j
  · subst hi
    rw [List.getElem?_set_self hl, List.getElem?_mapIdx, h]
    simp [fV, upd]
  · rw [List.getElem?_set_ne (fun q => hi q.symm), List.getElem?_mapIdx, List.getElem?_mapIdx]
    cases fl[i]? with
    | none => rfl
    | some o =>
      match o with
      | none => simp [fV, upd, hi]
      | some none => rfl
      | some (some t) => rfl
theorem h_getI (hexec : p.tables.exec = Jvm.exec) (hb : c.code = cc) {own C : String} {T : u_T} {N ci index : Nat} {Ts : List Cond} (hts : ∀ w ∈ Ts, w.before args s = true) (hin : ∀ w ∈ u_ws C T N, w ∈ Ts) (hown : s.vm.findClass own = some m.cls) (hK : va_K D vwCl (hT ac) s) (hw : hOk D ac ad S A H0 f H locs) {k : Nat} {fl : List (Option (Option Nat))} (hk : S[k]? = some (.inl (ci, fl))) (hc : vwCl[ci]? = some (C, T, N)) (j : Nat) (hj : j < N) (hf : fl[j]? = some none) (hlink : Cond.fieldLink own index (T j).1 (T j).2.1 (T j).2.2.1 ∈ Ts) (hdg : decode cc pc = .ok (.getfield index, 3))
    (kk : W p l e R s m args below meth c H locs cells slots Q (F0 m (pc + 3) ls (.int (f k j) :: rest))) : W p l e R s m args below meth c H locs cells slots Q (F0 m pc ls (.ref (ad k) :: rest)) :=
  va_get hexec hb hts hin hown hK hw.1 k (hW_get hk) hc j hj (hts _ hlink) (fun _ h9 => h9) (h_field hf) hdg kk
theorem h_getR (hexec : p.tables.exec = Jvm.exec) (hb : c.code = cc) {own C : String} {T : u_T} {N ci index : Nat} {Ts : List Cond} (hts : ∀ w ∈ Ts, w.before args s = true) (hin : ∀ w ∈ u_ws C T N, w ∈ Ts) (hown : s.vm.findClass own = some m.cls) (hK : va_K D vwCl (hT ac) s) (hw : hOk D ac ad S A H0 f H locs) {k t : Nat} {fl : List (Option (Option Nat))} (hk : S[k]? = some (.inl (ci, fl))) (hc : vwCl[ci]? = some (C, T, N)) (j : Nat) (hj : j < N) (hf : fl[j]? = some (some (some t))) (hlink : Cond.fieldLink own index (T j).1 (T j).2.1 (T j).2.2.1 ∈ Ts) (hdg : decode cc pc = .ok (.getfield index, 3))
    (kk : W p l e R s m args below meth c H locs cells slots Q (F0 m (pc + 3) ls (.ref (ad t) :: rest))) : W p l e R s m args below meth c H locs cells slots Q (F0 m pc ls (.ref (ad k) :: rest)) :=
  va_get hexec hb hts hin hown hK hw.1 k (hW_get hk) hc j hj (hts _ hlink) (fun _ h9 => h9) (h_field hf) hdg kk
theorem h_putI {g : hF} {k j : Nat} {x : Int32} (hg : g = st2 f k j x) (hexec : p.tables.exec = Jvm.exec) (hb : c.code = cc) {own C : String} {T : u_T} {N ci index : Nat} {Ts : List Cond} (hts : ∀ w ∈ Ts, w.before args s = true) (hin : ∀ w ∈ u_ws C T N, w ∈ Ts) (ty0 : Nat → FieldType) (hty : ∀ k, k < N → parseFieldDescriptor (T k).2.2.1 = some (ty0 k)) (hnm : ∀ a, a < N → ∀ b, b < N → a ≠ b → (T a).2.1 ≠ (T b).2.1) (hown : s.vm.findClass own = some m.cls) (hK : va_K D vwCl (hT ac) s) (hw : hOk D ac ad S A H0 f H locs) {fl : List (Option (Option Nat))} (hk : S[k]? = some (.inl (ci, fl))) (hc : vwCl[ci]? = some (C, T, N)) (j' : Nat) (hjj : j' = j) (hj : j < N) (hf : fl[j]? = some none) (hlink : Cond.fieldLink own index (T j).1 (T j).2.1 (T j).2.2.1 ∈ Ts) (hfin : (T j).2.2.2 = false) (hd : parseFieldDescriptor (T j).2.2.1 = some .int) (hdg : decode cc pc = .ok (.putfield index, 3))
    (kk : ∀ (H1 : Heap) (locs1 : List Loc), hOk D ac ad S A H0 g H1 locs1 → W p l e R s m args below meth c H1 locs1 cells slots Q (F0 m (pc + 3) ls rest)) : W p l e R s m args below meth c H locs cells slots Q (F0 m pc ls (.int x :: .ref (ad k) :: rest)) := by
  subst hg
  have hset : (hW ac ad S f).set k (ad k, .inr (ci, (fl.mapIdx (fV ad (f k))).set j (.int x))) = hW ac ad S (st2 f k j x) := hW_set hk (h_fset hf)
  refine va_put hexec hb hts hin ty0 hty hnm hown hK hw.1 hw.2.1 hw.2.2 k (hW_get hk) hc j hj (hts _ hlink) (fun _ h9 => h9) hfin hd rfl rfl ?_ hdg (fun H1 locs1 q1 q2 q3 => ?_)
  · have := (List.getElem?_eq_some_iff.mp hf).1
    simpa using this
  · exact kk H1 locs1 ⟨by rw [← hset]; exact q1, by rw [← hset]; exact q2, q3⟩
theorem h_iald (hexec : p.tables.exec = Jvm.exec) (hb : c.code = cc) (hK : va_K D vwCl (hT ac) s) (hw : hOk D ac ad S A H0 f H locs) {k n : Nat} (hk : S[k]? = some (.inr (0, n))) {i : Int32} (hin : vp_in i n) (hdg : decode cc pc = .ok (.iaload, 1))
    (kk : W p l e R s m args below meth c H locs cells slots Q (F0 m (pc + 1) ls (.int (f k i.toNatClampNeg) :: rest))) : W p l e R s m args below meth c H locs cells slots Q (F0 m pc ls (.int i :: .ref (ad k) :: rest)) :=
  va_iald hexec hb hK hw.1 k 0 (hW_get hk) rfl hin hdg kk
theorem h_cald (hexec : p.tables.exec = Jvm.exec) (hb : c.code = cc) (hK : va_K D vwCl (hT ac) s) (hw : hOk D ac ad S A H0 f H locs) {k n : Nat} (hk : S[k]? = some (.inr (1, n))) {i : Int32} (hin : vp_in i n) (hdg : decode cc pc = .ok (.caload, 1))
    (kk : W p l e R s m args below meth c H locs cells slots Q (F0 m (pc + 1) ls (.int (f k i.toNatClampNeg) :: rest))) : W p l e R s m args below meth c H locs cells slots Q (F0 m pc ls (.int i :: .ref (ad k) :: rest)) :=
  va_cald hexec hb hK hw.1 k 1 (hW_get hk) rfl hin hdg kk
theorem h_zald (hexec : p.tables.exec = Jvm.exec) (hb : c.code = cc) (hK : va_K D vwCl (hT ac) s) (hw : hOk D ac ad S A H0 f H locs) {k n : Nat} (hk : S[k]? = some (.inr (2, n))) {i : Int32} (hin : vp_in i n) (hdg : decode cc pc = .ok (.baload, 1))
    (kk : W p l e R s m args below meth c H locs cells slots Q (F0 m (pc + 1) ls (.int (f k i.toNatClampNeg) :: rest))) : W p l e R s m args below meth c H locs cells slots Q (F0 m pc ls (.int i :: .ref (ad k) :: rest)) :=
  va_zald hexec hb hK hw.1 k 2 (hW_get hk) rfl hin hdg kk
theorem h_aald {k n t : Nat} {i : Int32} (ht : f k i.toNatClampNeg = nI t) (hlen : S.length < 1000) {fl : List (Option (Option Nat))} (htS : S[t]? = some (.inl (0, fl))) (ht0 : 0 < t) (hexec : p.tables.exec = Jvm.exec) (hb : c.code = cc) (hK : va_K D vwCl (hT ac) s) (hw : hOk D ac ad S A H0 f H locs) (hk : S[k]? = some (.inr (3, n))) (hin : vp_in i n) (hdg : decode cc pc = .ok (.aaload, 1))
    (kk : W p l e R s m args below meth c H locs cells slots Q (F0 m (pc + 1) ls (.ref (ad t) :: rest))) : W p l e R s m args below meth c H locs cells slots Q (F0 m pc ls (.int i :: .ref (ad k) :: rest)) := by
  have htl : t < 1000 := Nat.lt_trans (List.getElem?_eq_some_iff.mp htS).1 hlen
  have e : va_rf (if f k i.toNatClampNeg ≤ 0 then none else some (ad (f k i.toNatClampNeg).toNatClampNeg)) = .ref (ad t) := by
    rw [ht, if_neg (nI_nle ht0 (by omega)), nI_clamp (by omega)]
    rfl
  refine va_aldq hexec hb hK hw.1 k 3 (hW_get hk) rfl hin hdg ?_
  rw [e]
  exact kk
theorem h_aast {g : hF} {k n t : Nat} {i : Int32} (ht0 : 0 < t) (hg : g = st2 f k i.toNatClampNeg (nI t)) (hexec : p.tables.exec = Jvm.exec) (hb : c.code = cc) (hK : va_K D vwCl (hT ac) s) (hw : hOk D ac ad S A H0 f H locs) (hlen : S.length < 1000) (hk : S[k]? = some (.inr (3, n))) {fl : List (Option (Option Nat))} (ht : S[t]? = some (.inl (0, fl))) (hin : vp_in i n) (hdg : decode cc pc = .ok (.aastore, 1))
    (kk : ∀ (H1 : Heap) (locs1 : List Loc), hOk D ac ad S A H0 g H1 locs1 → W p l e R s m args below meth c H1 locs1 cells slots Q (F0 m (pc + 1) ls rest)) : W p l e R s m args below meth c H locs cells slots Q (F0 m pc ls (.ref (ad t) :: .int i :: .ref (ad k) :: rest)) := by
  subst hg
  have htl : t < 1000 := Nat.lt_trans (List.getElem?_eq_some_iff.mp ht).1 hlen
  refine va_astq (ci := 0) (r := (RX0, TX0, 9)) hexec hb hK hw.1 hw.2.1 hw.2.2 k 3 t (hW_get hk) rfl (hW_get ht) rfl hin hdg (fun H1 locs1 q1 q2 q3 => ?_)
  have e := hW_set (ac := ac) (ad := ad) (f := f) (i := i.toNatClampNeg) (x := nI t) (e := .inl (ac 3, n, .inr (.inr (.inr (.inr (va_up (fun i => if f k i ≤ 0 then none else some (ad (f k i).toNatClampNeg)) i.toNatClampNeg (some (ad t)))))))) hk (by
    rw [hCell_ref]
    congr 7
    funext j
    by_cases hj : j = i.toNatClampNeg
    · subst hj
      simp [upd, va_up, nI_clamp (show t < 2 ^ 31 by omega), nI_nle ht0 (show t < 2 ^ 31 by omega)]
    · simp [upd, va_up, hj])
  exact kk H1 locs1 ⟨by rw [← e]; exact q1, by rw [← e]; exact q2, q3⟩
theorem h_acpy {g : hF} {k0 k1 n0 n1 : Nat} {sp dp n : Int32} {nn : Nat} (hg : g = stA f k1 (va_cpy (f k0) (f k1) 0 0 nn)) (hexec : p.tables.exec = Jvm.exec) (hb : c.code = cc) (hml : c.maxLocals = ls.size) {own : String} {index : Nat} (hown : s.vm.findClass own = some m.cls) (hlink : (Cond.methodLink own index arraycopyName).before args s = true) (hnat : (Cond.native arraycopyName).before args s = true) (hstat : (Cond.static arraycopyName).before args s = true) (hini : (Cond.initialized "java/lang/System").before args s = true)
    (hK : va_K D vwCl (hT ac) s) (hw : hOk D ac ad S A H0 f H locs) (hk0 : S[k0]? = some (.inr (0, n0))) (hk1 : S[k1]? = some (.inr (0, n1))) (hsp : sp = 0) (hdp : dp = 0) (hn : ¬ n < 0 ∧ n.toNatClampNeg = nn) (h4 : nn ≤ n0) (h5 : nn ≤ n1)
    (hframes : 1 ≤ R.frames) (hlocals : (rest.map fun v => v.category).sum + (nativeFrameWords "java/lang/System" "arraycopy" 5 + 11) ≤ R.locals) (hdg : decode cc pc = .ok (.invokestatic index, 3))
    (kk : ∀ (H1 : Heap) (locs1 : List Loc), hOk D ac ad S A H0 g H1 locs1 → W p l e R s m args below meth c H1 locs1 cells slots Q (F0 m (pc + 3) ls rest)) : W p l e R s m args below meth c H locs cells slots Q (F0 m pc ls (.int n :: .int dp :: .ref (ad k1) :: .int sp :: .ref (ad k0) :: rest)) := by
  subst hg; subst hsp; subst hdp
  obtain ⟨hn0, rfl⟩ := hn
  have z : (0 : Int32).toNatClampNeg = 0 := by decide
  refine va_copyi (ty := .int) hexec hb hml hown hlink hnat hstat hini hK hw.1 hw.2.1 hw.2.2 k0 k1 0 0 (hW_get hk0) (hW_get hk1) rfl rfl rfl (by decide) (by decide) hn0 (by rw [z]; omega) (by rw [z]; omega) (fun i hi => rfl) hframes hlocals hdg (fun H1 locs1 q1 q2 q3 => ?_)
  have e := hW_setA (ac := ac) (ad := ad) (f := f) (g := va_cpy (f k0) (f k1) 0 0 n.toNatClampNeg) hk1 (hCell_int ac ad n1 _)
  exact kk H1 locs1 ⟨by rw [← e]; exact q1, by rw [← e]; exact q2, q3⟩
theorem h_iast {g : hF} {k n : Nat} {i x : Int32} (hg : g = st2 f k i.toNatClampNeg x) (hexec : p.tables.exec = Jvm.exec) (hb : c.code = cc) (hK : va_K D vwCl (hT ac) s) (hw : hOk D ac ad S A H0 f H locs) (hk : S[k]? = some (.inr (0, n))) (hin : vp_in i n) (hdg : decode cc pc = .ok (.iastore, 1))
    (kk : ∀ (H1 : Heap) (locs1 : List Loc), hOk D ac ad S A H0 g H1 locs1 → W p l e R s m args below meth c H1 locs1 cells slots Q (F0 m (pc + 1) ls rest)) : W p l e R s m args below meth c H locs cells slots Q (F0 m pc ls (.int x :: .int i :: .ref (ad k) :: rest)) := by
  subst hg
  refine va_iast hexec hb hK hw.1 hw.2.1 hw.2.2 k 0 (hW_get hk) rfl hin hdg (fun H1 locs1 q1 q2 q3 => ?_)
  have e := hW_set (ac := ac) (ad := ad) (f := f) (i := i.toNatClampNeg) (x := x) hk (hCell_int ac ad n _)
  exact kk H1 locs1 ⟨by rw [← e]; exact q1, by rw [← e]; exact q2, q3⟩
theorem h_zast {g : hF} {k n : Nat} {i x : Int32} (hg : g = st2 f k i.toNatClampNeg (vp_nar .boolean x)) (hexec : p.tables.exec = Jvm.exec) (hb : c.code = cc) (hK : va_K D vwCl (hT ac) s) (hw : hOk D ac ad S A H0 f H locs) (hk : S[k]? = some (.inr (2, n))) (hin : vp_in i n) (hdg : decode cc pc = .ok (.bastore, 1))
    (kk : ∀ (H1 : Heap) (locs1 : List Loc), hOk D ac ad S A H0 g H1 locs1 → W p l e R s m args below meth c H1 locs1 cells slots Q (F0 m (pc + 1) ls rest)) : W p l e R s m args below meth c H locs cells slots Q (F0 m pc ls (.int x :: .int i :: .ref (ad k) :: rest)) := by
  subst hg
  refine va_zast hexec hb hK hw.1 hw.2.1 hw.2.2 k 2 (hW_get hk) rfl hin hdg (fun H1 locs1 q1 q2 q3 => ?_)
  have e := hW_set (ac := ac) (ad := ad) (f := f) (i := i.toNatClampNeg) (x := vp_nar .boolean x) hk (hCell_bool ac ad n _)
  exact kk H1 locs1 ⟨by rw [← e]; exact q1, by rw [← e]; exact q2, q3⟩
theorem h_cast {g : hF} {k n : Nat} {i x : Int32} (hg : g = st2 f k i.toNatClampNeg (vp_nar .char x)) (hexec : p.tables.exec = Jvm.exec) (hb : c.code = cc) (hK : va_K D vwCl (hT ac) s) (hw : hOk D ac ad S A H0 f H locs) (hk : S[k]? = some (.inr (1, n))) (hin : vp_in i n) (hdg : decode cc pc = .ok (.castore, 1))
    (kk : ∀ (H1 : Heap) (locs1 : List Loc), hOk D ac ad S A H0 g H1 locs1 → W p l e R s m args below meth c H1 locs1 cells slots Q (F0 m (pc + 1) ls rest)) : W p l e R s m args below meth c H locs cells slots Q (F0 m pc ls (.int x :: .int i :: .ref (ad k) :: rest)) := by
  subst hg
  refine va_cast hexec hb hK hw.1 hw.2.1 hw.2.2 k 1 (hW_get hk) rfl hin hdg (fun H1 locs1 q1 q2 q3 => ?_)
  have e := hW_set (ac := ac) (ad := ad) (f := f) (i := i.toNatClampNeg) (x := vp_nar .char x) hk (hCell_char ac ad n _)
  exact kk H1 locs1 ⟨by rw [← e]; exact q1, by rw [← e]; exact q2, q3⟩
theorem h_alen {v : Int32} (hexec : p.tables.exec = Jvm.exec) (hb : c.code = cc) (hK : va_K D vwCl (hT ac) s) (hw : hOk D ac ad S A H0 f H locs) {k n t : Nat} (hk : S[k]? = some (.inr (t, n))) (ht : t < 4) (hv : Int32.ofNat n = v) (hdg : decode cc pc = .ok (.arraylength, 1))
    (kk : W p l e R s m args below meth c H locs cells slots Q (F0 m (pc + 1) ls (.int v :: rest))) : W p l e R s m args below meth c H locs cells slots Q (F0 m pc ls (.ref (ad k) :: rest)) := by
  subst hv
  match t, ht with
  | 0, _ => exact va_alen (x := (n, .inl (f k))) hexec hb hK hw.1 k 0 (hW_get hk) rfl rfl hdg kk
  | 1, _ => exact va_alen (x := (n, .inl (f k))) hexec hb hK hw.1 k 1 (hW_get hk) rfl rfl hdg kk
  | 2, _ => exact va_alen (x := (n, .inl (f k))) hexec hb hK hw.1 k 2 (hW_get hk) rfl rfl hdg kk
  | 3, _ => exact va_alen (x := (n, .inr (.inr (.inr (.inr (fun i => if f k i ≤ 0 then none else some (ad (f k i).toNatClampNeg))))))) hexec hb hK hw.1 k 3 (hW_get hk) rfl rfl hdg kk
/-! calls -/
theorem h_bl {av : List Value} : FrameBlind (hPc D ac ad S f av) := fun a U g mk q => ⟨q.1, q.2.1, va_K.moved (u := U) (U := U.calling g mk a) (Vm.Alike.refl U.vm) q.2.2.1, q.2.2.2⟩
theorem h_preS (hK : va_K D vwCl (hT ac) s) (hw : hOk D ac ad S A H0 f H locs) (As : List Value) : PreS s H (hPc D ac ad S f As) As :=
  ⟨h_bl, fun U hU hW => ⟨rfl, by rw [hU]; exact hw.1, va_K.moved hW.alike hK, hw.2.1.weaken (fun _ _ _ _ => trivial)⟩⟩
theorem h_preV (hK : va_K D vwCl (hT ac) s) (hw : hOk D ac ad S A H0 f H locs) {C : String} {T : u_T} {N k ci : Nat} {fl : List (Option (Option Nat))} (hk : S[k]? = some (.inl (ci, fl))) (hc : vwCl[ci]? = some (C, T, N)) (As : List Value) : PreV s H C (ad k) (hPc D ac ad S f (.ref (ad k) :: As)) As :=
  ⟨h_bl, va_recv hK hw.1 hc (hW_get hk), (h_preS hK hw _).2⟩
theorem h_callR {st0 : List Value} {r : Int32} {a : Array Value} (hr : va_Run p l e R s m args below meth c H locs cells slots 0 0 (F0 m pc ls st0) rest (hRi r a) hNo)
    (kk : W p l e R s m args below meth c H locs cells slots Q (F0 m (pc + 3) ls (.int r :: rest))) : W p l e R s m args below meth c H locs cells slots Q (F0 m pc ls st0) := by
  intro T hT X
  obtain ⟨v, st₀, t, T', L, h0, X', hL, e1, e2, ⟨hv, hh⟩, st⟩ := hr T hT X
  cases hv
  obtain ⟨t2, a1, b1⟩ := kk T' (by rw [e1, hh, h0]) (Stand.forget X' (fun q h => (hL q h).elim))
  exact ⟨t2, st t2 a1, b1⟩
theorem h_after {st₀ t T' : State} {g : hF} {L : List Loc} (hw : hOk D ac ad S A H0 f H locs) (h0 : st₀.heap = H) (e1 : T'.heap = t.heap) (hL : ∀ q ∈ L, hAd ad S.length q.base) (hp : va_P D vwCl (hW ac ad S g) t.heap) (hF : va_F (hAd ad S.length) st₀ t) : hOk D ac ad S A H0 g T'.heap (locs ++ L) := by
  obtain ⟨hP, hD, hS⟩ := hw
  obtain ⟨hz, hq⟩ := hF
  rw [h0] at hz hq
  refine ⟨by rw [e1]; exact hp, hD_alike hD, Nat.le_trans hS.1 (by rw [e1]; exact hz), fun q h1 h2 => ?_, fun q hq => ?_⟩
  · rw [e1, hq q (Nat.lt_of_lt_of_le h1 hS.1) (fun z => h2 (hAd_in hD z))]
    exact hS.2.1 q h1 h2
  · rcases List.mem_append.mp hq with h | h
    · exact hS.2.2 q h
    · exact hAd_in hD (hL q h)
theorem h_callQ {st0 : List Value} {r : Int32} {g : hF} {a : Array Value} (hw : hOk D ac ad S A H0 f H locs) (hr : va_Run p l e R s m args below meth c H locs cells slots 0 0 (F0 m pc ls st0) rest (hQi D ac ad S r g a) (hAd ad S.length))
    (kk : ∀ (H1 : Heap) (locs1 : List Loc), hOk D ac ad S A H0 g H1 locs1 → W p l e R s m args below meth c H1 locs1 cells slots Q (F0 m (pc + 3) ls (.int r :: rest))) : W p l e R s m args below meth c H locs cells slots Q (F0 m pc ls st0) := by
  intro T hT X
  obtain ⟨v, st₀, t, T', L, h0, X', hL, e1, e2, ⟨hv, hp, hF⟩, st⟩ := hr T hT X
  cases hv
  obtain ⟨t2, a1, b1⟩ := kk T'.heap _ (h_after hw h0 e1 hL hp hF) T' rfl X'
  exact ⟨t2, st t2 a1, b1⟩
theorem h_callV {st0 : List Value} {g : hF} {a : Array Value} (hw : hOk D ac ad S A H0 f H locs) (hr : va_Run p l e R s m args below meth c H locs cells slots 0 0 (F0 m pc ls st0) rest (hQv D ac ad S g a) (hAd ad S.length))
    (kk : ∀ (H1 : Heap) (locs1 : List Loc), hOk D ac ad S A H0 g H1 locs1 → W p l e R s m args below meth c H1 locs1 cells slots Q (F0 m (pc + 3) ls rest)) : W p l e R s m args below meth c H locs cells slots Q (F0 m pc ls st0) := by
  intro T hT X
  obtain ⟨v, st₀, t, T', L, h0, X', hL, e1, e2, ⟨hv, hp, hF⟩, st⟩ := hr T hT X
  cases hv
  obtain ⟨t2, a1, b1⟩ := kk T'.heap _ (h_after hw h0 e1 hL hp hF) T' rfl X'
  exact ⟨t2, st t2 a1, b1⟩
/-! ends -/
theorem h_retR (hexec : p.tables.exec = Jvm.exec) (hb : c.code = cc) {ty : FieldType} (hr : meth.sig.returnType = some ty) (hlocks : meth.locks = false) {x r : Int32} (hn : narrow ty (.int x) = .int x) (hx : r = x) {pc : Nat} {ls : Array Slot} (hdg : decode cc pc = .ok (.ireturn, 1)) : W p l e R s m args below meth c s.heap [] cells slots (MQ below (hRi r) args s cells slots hNo) (F0 m pc ls [.int x]) := by
  subst hx
  exact W.zret hexec hb hr hn (fun t ht hW => ⟨rfl, ht⟩) (fun q h => by cases h) hdg hlocks
theorem h_retQ (hexec : p.tables.exec = Jvm.exec) (hb : c.code = cc) {ty : FieldType} (hr : meth.sig.returnType = some ty) (hlocks : meth.locks = false) (hw : hOk D ac ad S (hAd ad S.length) s.heap f H locs) {x r : Int32} {g : hF} (hn : narrow ty (.int x) = .int x) (hx : r = x ∧ g = f) {pc : Nat} {ls : Array Slot} (hdg : decode cc pc = .ok (.ireturn, 1)) : W p l e R s m args below meth c H locs cells slots (MQ below (hQi D ac ad S r g) args s cells slots (hAd ad S.length)) (F0 m pc ls [.int x]) := by
  obtain ⟨rfl, rfl⟩ := hx
  exact W.zret hexec hb hr hn (fun t ht hW => ⟨rfl, by rw [ht]; exact hw.1, hw.2.2.F ht⟩) hw.2.2.2.2 hdg hlocks
theorem h_retV (hexec : p.tables.exec = Jvm.exec) (hb : c.code = cc) (hr : meth.sig.returnType = none) (hlocks : meth.locks = false) (hw : hOk D ac ad S (hAd ad S.length) s.heap f H locs) {g : hF} (hx : g = f) {pc : Nat} {ls : Array Slot} (hdg : decode cc pc = .ok (.return_, 1)) : W p l e R s m args below meth c H locs cells slots (MQ below (hQv D ac ad S g) args s cells slots (hAd ad S.length)) (F0 m pc ls []) := by
  subst hx
  exact W.vret hexec hb hr (fun t ht hW => ⟨rfl, by rw [ht]; exact hw.1, hw.2.2.F ht⟩) hw.2.2.2.2 hdg hlocks
end HR
/-- a method's entry -/
theorem h_enter {l : Launch} {y : MethodName} {ws ws' : List Cond} {rm : Room} {D : va_G} {ac : Nat → ClassId} {ad : Nat → Nat} {S : List hSh} {f : hF} {av : List Value} {Qc : Array Value → State → Outcome → State → Prop} {free : Addr → Prop} {cc : ByteArray} {maxL : Nat} {ret : Option FieldType} {C : String}
    (hy : plainName y.cls = true) (hC : y.cls = C) (hw : ws = Cond.code y cc maxL ret :: ws') (hav : (lg_sl av).length ≤ maxL) {lv : List (Nat × Value)} (hlv : lv_args 0 av = lv)
    (body : ∀ (p : Program) (e : Env) (s : State) (m : MethodId) (below : List Frame) (meth : Method) (c : Code) (ls : Array Slot), p.tables.exec = Jvm.exec → c.code = cc → c.maxLocals = maxL → meth.sig.returnType = ret → meth.locks = false → s.vm.findClass C = some m.cls → (∀ w ∈ ws, w.before av.toArray s = true) → va_K D vwCl (hT ac) s → hOk D ac ad S (hAd ad S.length) s.heap f s.heap [] → lv_has ls maxL lv →
      W p l e rm s m av.toArray below meth c s.heap [] 0 0 (MQ below Qc av.toArray s 0 0 free) (F0 m 0 ls [])) : Met l y ws rm (hPc D ac ad S f av) Qc 0 0 free := by
  subst hC; subst hlv
  refine Met.ofW (cc := cc) (maxL := maxL) (ret := ret) hy hw ?_
  intro p e s m args below meth c s₁ B hml hv
  obtain ⟨rfl, hP, hK, hD⟩ := hv
  have hl := lv_entry av (n := maxL) hav
  rw [lg_entry_eq]
  exact body p e s m below meth c _ B.exec B.bytes hml B.returns B.notSynchronized (findClass_of_methodNamed B.named) (atoms_spec (ws := ws) B.pre) hK ⟨hP, hD_ad hD, va_S.rf⟩ hl
