/-! making: the world grows; its addresses are the ones from base on -/
def hB (base : Nat) : Nat → Nat := fun j => base + j
def hU (base : Nat) : Nat → Prop := fun q => base ≤ q
theorem hD_free {ac : Nat → ClassId} {base : Nat} {S : List hSh} {f : hF} : va_D (hU base) (hW ac (hB base) S f) := by
  refine ⟨fun i j p q hp hq e => ?_, fun k q hq => ?_⟩
  · obtain ⟨s1, e1, rfl⟩ := hW_some hp
    obtain ⟨s2, e2, rfl⟩ := hW_some hq
    have : base + i = base + j := e
    omega
  · obtain ⟨s1, e1, rfl⟩ := hW_some hq
    show base ≤ base + k
    omega
theorem hW_push {ac : Nat → ClassId} {ad : Nat → Nat} {S : List hSh} {f : hF} {x : hSh} : hW ac ad (S ++ [x]) f = hW ac ad S f ++ [(ad S.length, hCell ac ad x (f S.length))] := by
  simp [hW, List.mapIdx_append]
/-- the private constructors that a nest mate calls -/
def hNs (U : State) : Prop := va_Nw (.methodLinkNest RX7 11 yX4_init "PrisonWeddings") U ∧ va_Nw (.methodLinkNest RX7 18 yX3_init "PrisonWeddings") U ∧ va_Nw (.methodLinkNest RX7 40 yX6_init "PrisonWeddings") U ∧ va_Nw (.methodLinkNest RX2 11 yX0_init "PrisonWeddings") U ∧ va_Nw (.methodLinkNest RX5 15 yX0_init "PrisonWeddings") U ∧ va_AO "PrisonWeddings$Books" U
theorem hNs_warm {s U : State} (hW : s.WarmedH U.vm) (h : hNs s) : hNs U := ⟨va_Nw.warmM hW h.1, va_Nw.warmM hW h.2.1, va_Nw.warmM hW h.2.2.1, va_Nw.warmM hW h.2.2.2.1, va_Nw.warmM hW h.2.2.2.2.1, va_AO.moved hW.alike h.2.2.2.2.2⟩
theorem hNs_same {s U : State} (hv : s.vm = U.vm) (h : hNs s) : hNs U := ⟨va_Nw.same rfl hv h.1, va_Nw.same rfl hv h.2.1, va_Nw.same rfl hv h.2.2.1, va_Nw.same rfl hv h.2.2.2.1, va_Nw.same rfl hv h.2.2.2.2.1, va_AO.moved (hv ▸ Vm.Alike.refl s.vm) h.2.2.2.2.2⟩
def nPc (D : va_G) (ac : Nat → ClassId) (base : Nat) (S : List hSh) (f : hF) (av : List Value) : Array Value → State → Prop :=
  va_Pc av (fun U => va_P D vwCl (hW ac (hB base) S f) U.heap ∧ va_K D vwCl (hT ac) U ∧ U.heap.size = base + S.length ∧ hNs U)
def nQv (D : va_G) (ac : Nat → ClassId) (base : Nat) (S : List hSh) (g : hF) : Array Value → State → Outcome → State → Prop := fun _ st o t => o = .returned none ∧ va_P D vwCl (hW ac (hB base) S g) t.heap ∧ va_F (hU base) st t
section HN
variable {p : Program} {l : Launch} {e : Env} {R : Room} {s : State} {m : MethodId} {args : Array Value} {below : List Frame} {meth : Method} {c : Code} {H : Heap} {locs : List Loc} {cells slots : Nat} {Q : State → Prop}
variable {cc : ByteArray} {pc : Nat} {ls : Array Slot} {rest : List Value} {D : va_G} {ac : Nat → ClassId} {base : Nat} {S : List hSh} {f : hF} {H0 : Heap}
theorem W_size {g : JFrame} (k : H.size ≤ s.heap.size + cells → W p l e R s m args below meth c H locs cells slots Q g) : W p l e R s m args below meth c H locs cells slots Q g := by
  intro T hT X
  refine k ?_ T hT X
  have h := X.same
  subst hT
  exact h.2.2.1
theorem n_size {g : JFrame} {A : Nat → Prop} {S0 : List hSh} (h0 : s.heap.size = base + S0.length) (hw : hOk D ac (hB base) S A H0 f H locs) (hl : S.length = S0.length + cells) (hp : 0 < S.length) (k : H.size = base + S.length → W p l e R s m args below meth c H locs cells slots Q g) : W p l e R s m args below meth c H locs cells slots Q g := by
  refine W_size (fun h => k ?_)
  have h1 : S[S.length - 1]? = some S[S.length - 1] := List.getElem?_eq_getElem (by omega)
  have h2 := (hw.1 _ _ (hW_get h1)).lt
  have h3 : base + (S.length - 1) < H.size := h2
  omega
theorem n_newa (hexec : p.tables.exec = Jvm.exec) (hb : c.code = cc) {atype : ArrayType} (harr : (Cond.arrayClass (newarray.typeOf atype)).before args s = true) {ty : FieldType} (hty : newarray.typeOf atype = ty) (t : Nat) (ht : (hT ac)[t]? = some (ac t, ty)) (hnr : ∀ C, ty ≠ .object C) (hcell : ∀ (n : Nat), hCell ac (hB base) (.inr (t, n)) (fun _ => 0) = .inl (ac t, n, .inl (fun _ => 0))) (hdef : defaultValue ty = .int 0)
    (hK : va_K D vwCl (hT ac) s) (hw : hOk D ac (hB base) S (hU base) H0 f H locs) {N : Nat} (hNl : S.length = N) (hsz : H.size = base + S.length) (hf : f N = fun _ => 0) {n : Int32} {N' : Nat} (hn : ¬ n < 0) (hN : n.toNatClampNeg = N') (hbytes : N' * componentBytes ty ≤ 536870912) (hcells : cells + 1 ≤ R.cells) (hslots : slots + N' ≤ R.slots) (hdg : decode cc pc = .ok (.newarray atype, 2))
    (kk : ∀ (H1 : Heap), hOk D ac (hB base) (S ++ [.inr (t, N')]) (hU base) H0 f H1 locs → W p l e R s m args below meth c H1 locs (cells + 1) (slots + N') Q (F0 m (pc + 2) ls (.ref (hB base N) :: rest))) : W p l e R s m args below meth c H locs cells slots Q (F0 m pc ls (.int n :: rest)) := by
  subst hty; subst hNl
  refine va_newaK (h := base + S.length) hexec hb harr rfl hdg rfl hn hN hbytes hcells hslots hsz fun H1 cA e1 z1 o1 hAr hNm => ?_
  have hcA : cA = ac t := by
    have h2 := (hK.2 t _ ht).2
    have h3 : s.vm.findClass ("[" ++ (newarray.typeOf atype).toString) = some (ac t) := by
      unfold va_RA at h2
      cases hq : newarray.typeOf atype with
      | object C => exact absurd hq (hnr C)
      | _ => rw [hq] at h2; exact h2
    exact Option.some.inj (hNm.symm.trans h3)
  subst hcA
  refine kk H1 ⟨?_, hD_free, ?_⟩
  · rw [hW_push]
    refine (hw.1.kept (fun k x hx => ?_)).app (fun k x hx => ?_)
    · exact o1 x.1 (by have := (hw.1 k x hx).lt; omega)
    · have hz : k < 1 := (List.getElem?_eq_some_iff.mp hx).1
      rw [show k = 0 by omega] at hx
      cases hx
      rw [hf, hcell]
      show H1[base + S.length]? = some (vp_cell _ _)
      rw [e1, vp_cell_i]
      simp only [hdef]
  · exact ⟨Nat.le_trans hw.2.2.1 (by omega), fun x h1 h2 => (o1 x (by have := hw.2.2.1; omega)).trans (hw.2.2.2.1 x h1 h2), hw.2.2.2.2⟩
theorem n_newo {c0 : Code} (hexec : p.tables.exec = Jvm.exec) (hb : c0.code = cc) {own C : String} {T : u_T} {N ci index : Nat} {Ts : List Cond} (hts : ∀ w ∈ Ts, w.before args s = true) (hin : ∀ w ∈ u_ws C T N, w ∈ Ts) (ty : Nat → FieldType) (hty : ∀ k, k < N → parseFieldDescriptor (T k).2.2.1 = some (ty k)) (hown : s.vm.findClass own = some m.cls) (hcl : (Cond.classLink own index C).before args s = true) (hinst : (Cond.instantiable C N).before args s = true) (hini : (Cond.initialized C).before args s = true)
    (hK : va_K D vwCl (hT ac) s) (hw : hOk D ac (hB base) S (hU base) H0 f H locs) {Nn : Nat} (hNl : S.length = Nn) (hsz : H.size = base + S.length) (hf : f Nn = fun _ => 0) (hc : vwCl[ci]? = some (C, T, N)) {fl : List (Option (Option Nat))} (hfs : ∀ j, j < N → defaultValue (ty j) = vp_V (fl.mapIdx (fV (hB base) (fun _ => 0))) j) (hcells : cells + 1 ≤ R.cells) (hslots : slots + N ≤ R.slots) (hdg : decode cc pc = .ok (.new index, 3))
    (kk : ∀ (H1 : Heap), hOk D ac (hB base) (S ++ [.inl (ci, fl)]) (hU base) H0 f H1 locs → W p l e R s m args below meth c0 H1 locs (cells + 1) (slots + N) Q (F0 m (pc + 3) ls (.ref (hB base Nn) :: rest))) : W p l e R s m args below meth c0 H locs cells slots Q (F0 m pc ls rest) := by
  subst hNl
  have hKn := hK.1 ci _ hc
  refine W.newcK (h := base + S.length) hexec hb hown hcl hinst hini rfl hdg hcells hslots hKn.2.1 hsz fun H1 kC hkC e1 z1 o1 => ?_
  refine kk H1 ⟨?_, hD_free, ?_⟩
  · rw [hW_push]
    refine (hw.1.kept (fun k x hx => ?_)).app (fun k x hx => ?_)
    · exact o1 x.1 (by have := (hw.1 k x hx).lt; omega)
    · have hz : k < 1 := (List.getElem?_eq_some_iff.mp hx).1
      rw [show k = 0 by omega] at hx
      cases hx
      rw [hf]
      exact ⟨_, hc, (u_born ty hts hin hKn hkC e1 hty).to hfs⟩
  · exact ⟨Nat.le_trans hw.2.2.1 (by omega), fun x h1 h2 => (o1 x (by have := hw.2.2.1; omega)).trans (hw.2.2.2.1 x h1 h2), hw.2.2.2.2⟩
theorem hT_get {T L : List hSh} {o : hSh} {k : Nat} (h : T.length = k) : (T ++ (o :: L))[k]? = some o := by
  subst h
  simp
theorem hT_at {T L : List hSh} {k : Nat} (h : T.length = k) (i : Nat) : (T ++ L)[k + i]? = L[i]? := by
  subst h
  rw [List.getElem?_append_right (by omega), Nat.add_sub_cancel_left]
theorem hT_set {T L : List hSh} {o q : hSh} {k : Nat} (h : T.length = k) : (T ++ (o :: L)).set k q = T ++ (q :: L) := by
  subst h
  simp [List.set_append]
theorem hT_push {T L M : List hSh} {o : hSh} : (T ++ (o :: L)) ++ M = T ++ (o :: (L ++ M)) := by simp
theorem hW_reshape {ac : Nat → ClassId} {ad : Nat → Nat} {S : List hSh} {f : hF} {k : Nat} {sh sh2 : hSh} {e : va_E} (h : S[k]? = some sh) (he : hCell ac ad sh2 (f k) = e) : (hW ac ad S f).set k (ad k, e) = hW ac ad (S.set k sh2) f := by
  subst he
  apply List.ext_getElem?
  intro j
  have hk : k < S.length := (List.getElem?_eq_some_iff.mp h).1
  by_cases hj : j = k
  · subst hj
    rw [List.getElem?_set_self (by rw [hW_len]; exact hk), hW_get (List.getElem?_set_self hk)]
  · rw [List.getElem?_set_ne (fun q => hj q.symm)]
    simp only [hW, List.getElem?_mapIdx]
    rw [List.getElem?_set_ne (fun q => hj q.symm)]
theorem h_rset {ac : Nat → ClassId} {ad : Nat → Nat} {f : Nat → Int32} {ci j t : Nat} {fl : List (Option (Option Nat))} (h : j < fl.length) : hCell ac ad (.inl (ci, fl.set j (rf t))) f = .inr (ci, (fl.mapIdx (fV ad f)).set j (.ref (ad t))) := by
  show Sum.inr (ci, (fl.set j (rf t)).mapIdx (fV ad f)) = _
  congr 2
  apply List.ext_getElem?
  intro i
  have hl : j < (fl.mapIdx (fV ad f)).length := by simpa using h
  by_cases hi : i = j
  · subst hi
    rw [List.getElem?_set_self hl, List.getElem?_mapIdx, List.getElem?_set_self h]
    simp [fV, rf]
  · rw [List.getElem?_set_ne (fun q => hi q.symm), List.getElem?_mapIdx, List.getElem?_mapIdx, List.getElem?_set_ne (fun q => hi q.symm)]
theorem n_putF (hexec : p.tables.exec = Jvm.exec) (hb : c.code = cc) {own C : String} {T : u_T} {N ci index : Nat} {Ts : List Cond} (hts : ∀ w ∈ Ts, w.before args s = true) (hin : ∀ w ∈ u_ws C T N, w ∈ Ts) (ty0 : Nat → FieldType) (hty : ∀ k, k < N → parseFieldDescriptor (T k).2.2.1 = some (ty0 k)) (hnm : ∀ a, a < N → ∀ b, b < N → a ≠ b → (T a).2.1 ≠ (T b).2.1) (hown : s.vm.findClass own = some m.cls) (hK : va_K D vwCl (hT ac) s) {U L : List hSh} {k t : Nat} (hUl : U.length = k) {fl fl2 : List (Option (Option Nat))} (hw : hOk D ac (hB base) (U ++ (.inl (ci, fl) :: L)) (hU base) H0 f H locs) (hc : vwCl[ci]? = some (C, T, N)) (j : Nat) (hj : j < N) (hjl : j < fl.length) (hf2 : fl.set j (rf t) = fl2) (hlink : Cond.fieldLink own index (T j).1 (T j).2.1 (T j).2.2.1 ∈ Ts) (hfin : (T j).2.2.2 = true) (hin2 : meth.name = "<init>") (hdecl : (T j).1 = own) {ty : FieldType} (hd : parseFieldDescriptor (T j).2.2.1 = some ty) (hn : narrow ty (.ref (hB base t)) = .ref (hB base t)) (hfit : fits ty (.ref (hB base t)) = true)
    (hdg : decode cc pc = .ok (.putfield index, 3)) (kk : ∀ (H1 : Heap) (locs1 : List Loc), hOk D ac (hB base) (U ++ (.inl (ci, fl2) :: L)) (hU base) H0 f H1 locs1 → W p l e R s m args below meth c H1 locs1 cells slots Q (F0 m (pc + 3) ls rest)) : W p l e R s m args below meth c H locs cells slots Q (F0 m pc ls (.ref (hB base t) :: .ref (hB base k) :: rest)) := by
  subst hf2
  have hset : (hW ac (hB base) (U ++ (.inl (ci, fl) :: L)) f).set k (hB base k, .inr (ci, (fl.mapIdx (fV (hB base) (f k))).set j (.ref (hB base t)))) = hW ac (hB base) (U ++ (.inl (ci, fl.set j (rf t)) :: L)) f := by
    have e := hT_set (o := .inl (ci, fl)) (q := .inl (ci, fl.set j (rf t))) (L := L) hUl
    rw [← e]
    exact hW_reshape (hT_get hUl) (h_rset hjl)
  refine va_putF hexec hb hts hin ty0 hty hnm hown hK hw.1 hw.2.1 hw.2.2 k (hW_get (hT_get hUl)) hc j hj (hts _ hlink) (fun _ h9 => h9) hfin hin2 hdecl hd hn hfit ?_ hdg (fun H1 locs1 q1 q2 q3 => ?_)
  · simpa using hjl
  · exact kk H1 locs1 ⟨by rw [← hset]; exact q1, by rw [← hset]; exact q2, q3⟩
theorem n_anew (hexec : p.tables.exec = Jvm.exec) (hb : c.code = cc) {own C : String} {index : Nat} (hC : C = "PrisonWeddings$Books") (hown : s.vm.findClass own = some m.cls) (hclink : (Cond.classLink own index C).before args s = true) (hover : va_AO C s) (hK : va_K D vwCl (hT ac) s) (hw : hOk D ac (hB base) S (hU base) H0 f H locs) {N : Nat} (hNl : S.length = N) (hsz : H.size = base + S.length) (hf : f N = fun _ => 0) {n : Int32} {N' : Nat} (hn : ¬ n < 0) (hN : n.toNatClampNeg = N') (hbytes : N' * 4 ≤ 536870912) (hcells : cells + 1 ≤ R.cells) (hslots : slots + N' ≤ R.slots) (hdg : decode cc pc = .ok (.anewarray index, 3))
    (kk : ∀ (H1 : Heap), hOk D ac (hB base) (S ++ [.inr (3, N')]) (hU base) H0 f H1 locs → W p l e R s m args below meth c H1 locs (cells + 1) (slots + N') Q (F0 m (pc + 3) ls (.ref (hB base N) :: rest))) : W p l e R s m args below meth c H locs cells slots Q (F0 m pc ls (.int n :: rest)) := by
  subst hN; subst hNl; subst hC
  refine W.anew hexec hb hown hclink (va_AO.use hover) rfl hdg rfl hn hbytes hcells hslots fun cA kA comp f1 f2 f3 f4 => ?_
  generalize hH1 : H.push ({ cls := cA, slots := Array.replicate n.toNatClampNeg .null, vm := .none } : Cell) = H1
  have z1 : H1.size = H.size + 1 := by rw [← hH1, Array.size_push]
  have e1 : H1[H.size]? = some (arrV cA n.toNatClampNeg (fun _ => .null)) := by rw [← hH1, Array.getElem?_push_size, ← arrV_new]
  have o1 : ∀ q : Nat, q < H.size → H1[q]? = H[q]? := fun q hq => by rw [← hH1, Array.getElem?_push, if_neg (Nat.ne_of_lt hq)]
  have hcA : cA = ac 3 := by
    obtain ⟨kA2, comp2, g1, g2, g3, g4⟩ := (hK.2 3 (ac 3, .object "PrisonWeddings$Books") rfl).2
    exact Option.some.inj (f1.symm.trans g4)
  subst hcA
  rw [hsz]
  refine kk H1 ⟨?_, hD_free, ?_⟩
  · rw [hW_push]
    refine (hw.1.kept (fun k x hx => ?_)).app (fun k x hx => ?_)
    · exact o1 x.1 ((hw.1 k x hx).lt)
    · have hz : k < 1 := (List.getElem?_eq_some_iff.mp hx).1
      rw [show k = 0 by omega] at hx
      cases hx
      rw [hf, hCell_ref]
      show H1[base + S.length]? = some (vp_cell _ _)
      rw [vp_cell_q, ← hsz, e1]
      rfl
  · exact ⟨Nat.le_trans hw.2.2.1 (by omega), fun x h1 h2 => (o1 x (by have := hw.2.2.1; omega)).trans (hw.2.2.2.1 x h1 h2), hw.2.2.2.2⟩
theorem n_pre (hN : hNs s) (hK : va_K D vwCl (hT ac) s) (hw : hOk D ac (hB base) S (hU base) H0 f H locs) (hsz : H.size = base + S.length) (As : List Value) : PreS s H (nPc D ac base S f As) As :=
  ⟨fun a U g mk q => ⟨q.1, q.2.1, va_K.moved (u := U) (U := U.calling g mk a) (Vm.Alike.refl U.vm) q.2.2.1, q.2.2.2.1, hNs_same (s := U) (U := U.calling g mk a) rfl q.2.2.2.2⟩, fun U hU hW => ⟨rfl, by rw [hU]; exact hw.1, va_K.moved hW.alike hK, by rw [hU]; exact hsz, hNs_warm hW hN⟩⟩
theorem n_call {st0 : List Value} {S2 : List hSh} {g : hF} {a : Array Value} {mc ms : Nat} (hw : hOk D ac (hB base) S (hU base) H0 f H locs) (hr : va_Run p l e R s m args below meth c H locs cells slots mc ms (F0 m pc ls st0) rest (nQv D ac base S2 g a) (hU base))
    (kk : ∀ (H1 : Heap) (locs1 : List Loc), hOk D ac (hB base) S2 (hU base) H0 g H1 locs1 → W p l e R s m args below meth c H1 locs1 (cells + mc) (slots + ms) Q (F0 m (pc + 3) ls rest)) : W p l e R s m args below meth c H locs cells slots Q (F0 m pc ls st0) := by
  intro T hT X
  obtain ⟨v, st₀, t, T', L, h0, X', hL, e1, e2, ⟨hv, hp, hz, hq⟩, st⟩ := hr T hT X
  cases hv
  rw [h0] at hz hq
  obtain ⟨hP, hD, hS⟩ := hw
  obtain ⟨t2, a1, b1⟩ := kk T'.heap (locs ++ L) ⟨by rw [e1]; exact hp, hD_free, Nat.le_trans hS.1 (by rw [e1]; exact hz), fun q h1 h2 => by
      rw [e1, hq q (Nat.lt_of_lt_of_le h1 hS.1) h2]
      exact hS.2.1 q h1 h2, fun q hq => by
      rcases List.mem_append.mp hq with h | h
      · exact hS.2.2 q h
      · exact hL q h⟩ T' rfl X'
  exact ⟨t2, st t2 a1, b1⟩
theorem n_ret (hexec : p.tables.exec = Jvm.exec) (hb : c.code = cc) (hr : meth.sig.returnType = none) (hlocks : meth.locks = false) (hw : hOk D ac (hB base) S (hU base) s.heap f H locs) {S2 : List hSh} {g : hF} (hS : S2 = S) (hx : g = f) {pc : Nat} {ls : Array Slot} (hdg : decode cc pc = .ok (.return_, 1)) : W p l e R s m args below meth c H locs cells slots (MQ below (nQv D ac base S2 g) args s cells slots (hU base)) (F0 m pc ls []) := by
  subst hx; subst hS
  exact W.vret hexec hb hr (fun t ht hW => ⟨rfl, by rw [ht]; exact hw.1, hw.2.2.F ht⟩) hw.2.2.2.2 hdg hlocks
end HN
theorem n_enter {l : Launch} {y : MethodName} {ws ws' : List Cond} {rm : Room} {D : va_G} {ac : Nat → ClassId} {base : Nat} {S : List hSh} {f : hF} {av : List Value} {Qc : Array Value → State → Outcome → State → Prop} {free : Addr → Prop} {cc : ByteArray} {maxL mc ms : Nat} {ret : Option FieldType} {C : String}
    (hy : plainName y.cls = true) (hC : y.cls = C) (hnm : y.name = "<init>") (hw : ws = Cond.code y cc maxL ret :: ws') (hav : (lg_sl av).length ≤ maxL) {lv : List (Nat × Value)} (hlv : lv_args 0 av = lv)
    (body : ∀ (p : Program) (e : Env) (s : State) (m : MethodId) (below : List Frame) (meth : Method) (c : Code) (ls : Array Slot), p.tables.exec = Jvm.exec → c.code = cc → c.maxLocals = maxL → meth.sig.returnType = ret → meth.locks = false → meth.name = "<init>" → hNs s → s.vm.findClass C = some m.cls → (∀ w ∈ ws, w.before av.toArray s = true) → va_K D vwCl (hT ac) s → s.heap.size = base + S.length → hOk D ac (hB base) S (hU base) s.heap f s.heap [] → lv_has ls maxL lv →
      W p l e rm s m av.toArray below meth c s.heap [] 0 0 (MQ below Qc av.toArray s mc ms free) (F0 m 0 ls [])) : Met l y ws rm (nPc D ac base S f av) Qc mc ms free := by
  subst hC; subst hlv
  refine Met.ofW (cc := cc) (maxL := maxL) (ret := ret) hy hw ?_
  intro p e s m args below meth c s₁ B hml hv
  obtain ⟨rfl, hP, hK, hsz, hN⟩ := hv
  have hl := lv_entry av (n := maxL) hav
  rw [lg_entry_eq]
  exact body p e s m below meth c _ B.exec B.bytes hml B.returns B.notSynchronized ((name_of_methodNamed B.named B.method).1.trans hnm) hN (findClass_of_methodNamed B.named) (atoms_spec (ws := ws) B.pre) hK hsz ⟨hP, hD_free, va_S.rf⟩ hl
