def f0 : hF := fun _ _ => 0
def shPW : List hSh := .inl (7, [rf 1, rf 3, rf 11, rf 19, rf 33, rf 47, rf 52, rf 126]) :: (shSc 1 ++ shRo 3 ++ shRo 11 ++ shHo 19 3 ++ shHo 33 3 ++ shSi 47 ++ shSh 52 8 ++ shSh 126 2)
set_option maxRecDepth 20000 in
theorem pw_ok : isPW shPW := ⟨by decide +kernel, ⟨by decide +kernel, by decide +kernel⟩, ⟨by decide +kernel, by decide +kernel, by decide +kernel, by decide +kernel, by decide +kernel, by decide +kernel, by decide +kernel, by decide +kernel⟩, ⟨by decide +kernel, by decide +kernel, by decide +kernel, by decide +kernel, by decide +kernel, by decide +kernel, by decide +kernel, by decide +kernel⟩, ⟨by decide +kernel, by decide +kernel, ⟨by decide +kernel, by decide +kernel, by decide +kernel, by decide +kernel, by decide +kernel, by decide +kernel, by decide +kernel, by decide +kernel⟩, ⟨by decide +kernel, by decide +kernel, by decide +kernel, by decide +kernel, by decide +kernel, by decide +kernel, by decide +kernel, by decide +kernel, by decide +kernel⟩, ⟨by decide +kernel, by decide +kernel, by decide +kernel, ⟨by decide +kernel, by decide +kernel, by decide +kernel, by decide +kernel, by decide +kernel, by decide +kernel, by decide +kernel, by decide +kernel, by decide +kernel⟩⟩⟩, ⟨by decide +kernel, by decide +kernel, ⟨by decide +kernel, by decide +kernel, by decide +kernel, by decide +kernel, by decide +kernel, by decide +kernel, by decide +kernel, by decide +kernel⟩, ⟨by decide +kernel, by decide +kernel, by decide +kernel, by decide +kernel, by decide +kernel, by decide +kernel, by decide +kernel, by decide +kernel, by decide +kernel⟩, ⟨by decide +kernel, by decide +kernel, by decide +kernel, ⟨by decide +kernel, by decide +kernel, by decide +kernel, by decide +kernel, by decide +kernel, by decide +kernel, by decide +kernel, by decide +kernel, by decide +kernel⟩⟩⟩, ⟨by decide +kernel, by decide +kernel, by decide +kernel, by decide +kernel, by decide +kernel⟩, ⟨by decide +kernel, by decide +kernel, fun i hi => by rcases (show i = 0 ∨ i = 1 ∨ i = 2 ∨ i = 3 ∨ i = 4 ∨ i = 5 ∨ i = 6 ∨ i = 7 by omega) with rfl | rfl | rfl | rfl | rfl | rfl | rfl | rfl <;> exact ⟨by decide +kernel, by decide +kernel, by decide +kernel, by decide +kernel, by decide +kernel, by decide +kernel, by decide +kernel, by decide +kernel, by decide +kernel⟩, by decide +kernel⟩, ⟨by decide +kernel, by decide +kernel, fun i hi => by rcases (show i = 0 ∨ i = 1 by omega) with rfl | rfl <;> exact ⟨by decide +kernel, by decide +kernel, by decide +kernel, by decide +kernel, by decide +kernel, by decide +kernel, by decide +kernel, by decide +kernel, by decide +kernel⟩, by decide +kernel⟩⟩
def fX7_chars : Nat → Nat → hF → Option hF
  | 0, _, f => some f
  | r+1, i, f => b2 (fX4_add 1 f (txC i)) fun _ f1 => fX7_chars r (i+1) f1
def fX7_rest (f : hF) : Option hF := b2 (fX3_readFrom 3 1 f) fun _ f2 => b1 (fX2_open 19 3 f2) fun f3 => lt (st2 f3 1 1 0) fun f4 => some f4
def fPW0 : hF := fShelf (fShelf f0 52 8) 126 2
def fX7_init : Option hF := b1 (fX7_chars 75 0 fPW0) fX7_rest
def txS : String := "m0,12,5;m1,40,2;m2,0,50;w0,3,8;w1,30,12;w2,0,60;w0,9,20;p0,2;p1,3;p2,5;l30;"
def xPc (D : va_G) (ac : Nat → ClassId) (base : Nat) (q v : Nat) (w : Option Nat) (S : List hSh) (f : hF) (av : List Value) : Array Value → State → Prop :=
  fun a U => nPc D ac base S f av a U ∧ vk_R RX7 57 txS q U ∧ hSt (hU base) q v w U U.heap

theorem x_enter {l : Launch} {y : MethodName} {ws ws' : List Cond} {rm : Room} {D : va_G} {ac : Nat → ClassId} {base q v : Nat} {w : Option Nat} {S : List hSh} {f : hF} {av : List Value} {Qc : Array Value → State → Outcome → State → Prop} {free : Addr → Prop} {cc : ByteArray} {maxL mc ms : Nat} {ret : Option FieldType} {C : String}
    (hy : plainName y.cls = true) (hC : y.cls = C) (hnm : y.name = "<init>") (hw : ws = Cond.code y cc maxL ret :: ws') (hav : (lg_sl av).length ≤ maxL) {lv : List (Nat × Value)} (hlv : lv_args 0 av = lv)
    (body : ∀ (p : Program) (e : Env) (s : State) (m : MethodId) (below : List Frame) (meth : Method) (c : Code) (ls : Array Slot), p.tables.exec = Jvm.exec → c.code = cc → c.maxLocals = maxL → meth.sig.returnType = ret → meth.locks = false → meth.name = "<init>" → hNs s → s.vm.findClass C = some m.cls → (∀ w ∈ ws, w.before av.toArray s = true) → va_K D vwCl (hT ac) s → s.heap.size = base + S.length → hOk D ac (hB base) S (hU base) s.heap f s.heap [] → lv_has ls maxL lv → vk_R RX7 57 txS q s → hSt (hU base) q v w s s.heap →
      W p l e rm s m av.toArray below meth c s.heap [] 0 0 (MQ below Qc av.toArray s mc ms free) (F0 m 0 ls [])) : Met l y ws rm (xPc D ac base q v w S f av) Qc mc ms free := by
  subst hC; subst hlv
  refine Met.ofW (cc := cc) (maxL := maxL) (ret := ret) hy hw ?_
  intro p e s m args below meth c s₁ B hml hv
  obtain ⟨⟨rfl, hP, hK, hsz, hN⟩, hR, hZ⟩ := hv
  have hl := lv_entry av (n := maxL) hav
  rw [lg_entry_eq]
  exact body p e s m below meth c _ B.exec B.bytes hml B.returns B.notSynchronized ((name_of_methodNamed B.named B.method).1.trans hnm) hN (findClass_of_methodNamed B.named) (atoms_spec (ws := ws) B.pre) hK hsz ⟨hP, hD_free, va_S.rf⟩ hl hR hZ

theorem hdX7_init_oi1 : Cond.methodLink RX7 3 objectInit ∈ wsX7_init := by decide +kernel
theorem hdX7_init_oi2 : Cond.instanceMethod objectInit ∈ wsX7_init := by decide +kernel
theorem hdX7_init_oi3 : Cond.code objectInit ⟨#[0xb1]⟩ 1 none ∈ wsX7_init := by decide +kernel
theorem hdX7_init_cl9 : Cond.classLink RX7 9 RX4 ∈ wsX7_init := by decide +kernel
theorem hdX7_init_inX4 : Cond.instantiable RX4 2 ∈ wsX7_init := by decide +kernel
theorem hdX7_init_iiX4 : Cond.initialized RX4 ∈ wsX7_init := by decide +kernel
theorem hnX7_init_X4 : ∀ w ∈ wsX40, w ∈ wsX7_init := by decide +kernel
theorem hdX7_init_imX4_init : Cond.instanceMethod yX4_init ∈ wsX7_init := by decide +kernel
theorem hnX7_init_X7 : ∀ w ∈ wsX70, w ∈ wsX7_init := by decide +kernel
theorem hkX7_init_12 : Cond.fieldLink RX7 12 (TX7 0).1 (TX7 0).2.1 (TX7 0).2.2.1 ∈ wsX7_init := by decide +kernel
theorem hdX7_init_cl16 : Cond.classLink RX7 16 RX3 ∈ wsX7_init := by decide +kernel
theorem hdX7_init_inX3 : Cond.instantiable RX3 10 ∈ wsX7_init := by decide +kernel
theorem hdX7_init_iiX3 : Cond.initialized RX3 ∈ wsX7_init := by decide +kernel
theorem hnX7_init_X3 : ∀ w ∈ wsX30, w ∈ wsX7_init := by decide +kernel
theorem hdX7_init_imX3_init : Cond.instanceMethod yX3_init ∈ wsX7_init := by decide +kernel
theorem hkX7_init_19 : Cond.fieldLink RX7 19 (TX7 1).1 (TX7 1).2.1 (TX7 1).2.2.1 ∈ wsX7_init := by decide +kernel
theorem hkX7_init_23 : Cond.fieldLink RX7 23 (TX7 2).1 (TX7 2).2.1 (TX7 2).2.2.1 ∈ wsX7_init := by decide +kernel
theorem hdX7_init_cl26 : Cond.classLink RX7 26 RX2 ∈ wsX7_init := by decide +kernel
theorem hdX7_init_inX2 : Cond.instantiable RX2 4 ∈ wsX7_init := by decide +kernel
theorem hdX7_init_iiX2 : Cond.initialized RX2 ∈ wsX7_init := by decide +kernel
theorem hnX7_init_X2 : ∀ w ∈ wsX20, w ∈ wsX7_init := by decide +kernel
theorem hdX7_init_imX2_init : Cond.instanceMethod yX2_init ∈ wsX7_init := by decide +kernel
theorem hdX7_init_ml28 : Cond.methodLink RX7 28 yX2_init ∈ wsX7_init := by decide +kernel
theorem hkX7_init_31 : Cond.fieldLink RX7 31 (TX7 3).1 (TX7 3).2.1 (TX7 3).2.2.1 ∈ wsX7_init := by decide +kernel
theorem hkX7_init_35 : Cond.fieldLink RX7 35 (TX7 4).1 (TX7 4).2.1 (TX7 4).2.2.1 ∈ wsX7_init := by decide +kernel
theorem hdX7_init_cl38 : Cond.classLink RX7 38 RX6 ∈ wsX7_init := by decide +kernel
theorem hdX7_init_inX6 : Cond.instantiable RX6 5 ∈ wsX7_init := by decide +kernel
theorem hdX7_init_iiX6 : Cond.initialized RX6 ∈ wsX7_init := by decide +kernel
theorem hnX7_init_X6 : ∀ w ∈ wsX60, w ∈ wsX7_init := by decide +kernel
theorem hdX7_init_imX6_init : Cond.instanceMethod yX6_init ∈ wsX7_init := by decide +kernel
theorem hkX7_init_41 : Cond.fieldLink RX7 41 (TX7 5).1 (TX7 5).2.1 (TX7 5).2.2.1 ∈ wsX7_init := by decide +kernel
theorem hdX7_init_cl45 : Cond.classLink RX7 45 RX5 ∈ wsX7_init := by decide +kernel
theorem hdX7_init_inX5 : Cond.instantiable RX5 2 ∈ wsX7_init := by decide +kernel
theorem hdX7_init_iiX5 : Cond.initialized RX5 ∈ wsX7_init := by decide +kernel
theorem hnX7_init_X5 : ∀ w ∈ wsX50, w ∈ wsX7_init := by decide +kernel
theorem hdX7_init_imX5_init : Cond.instanceMethod yX5_init ∈ wsX7_init := by decide +kernel
theorem hdX7_init_ml47 : Cond.methodLink RX7 47 yX5_init ∈ wsX7_init := by decide +kernel
theorem hkX7_init_50 : Cond.fieldLink RX7 50 (TX7 6).1 (TX7 6).2.1 (TX7 6).2.2.1 ∈ wsX7_init := by decide +kernel
theorem hkX7_init_54 : Cond.fieldLink RX7 54 (TX7 7).1 (TX7 7).2.1 (TX7 7).2.2.1 ∈ wsX7_init := by decide +kernel
theorem hkX7_init_80 : Cond.fieldLink RX7 80 (TX4 1).1 (TX4 1).2.1 (TX4 1).2.2.1 ∈ wsX7_init := by decide +kernel
set_option maxHeartbeats 16000000 in
set_option maxRecDepth 100000 in
theorem nX7_init (l : Launch) (D : va_G) (ac : Nat → ClassId) (base q v : Nat) (w : Option Nat) (gv : hF) (h : fX7_init = some gv) : Met l yX7_init wsX7_init ({ frames := 4, cells := 145, slots := 2115, locals := 96 }) (xPc D ac base q v w (([] : List hSh) ++ [.inl (7, [some none, some none, some none, some none, some none, some none, some none, some none])]) f0 [.ref (hB base 0)]) (nQv D ac base shPW gv) 145 2115 (hU base) := by
  refine x_enter (C := RX7) (cc := cX7_init) (maxL := 2) (ret := none) (lv := [(0, .ref (hB base 0))]) (by decide) rfl rfl rfl (Nat.le_of_ble_eq_true rfl) rfl (fun p e s m below meth c ls hx hb hml hr hlocks hin hN hown hts hK h0 hw hl hR hZ => ?_)
  have hT : ([] : List hSh).length = 0 := rfl
  have hf : ∀ j, 0 ≤ j → f0 j = fun _ => 0 := fun _ _ => rfl
  have key : ∀ (r i : Nat), i + r = 75 → ∀ (f : hF) (H : Heap) (locs : List Loc) (ls : Array Slot), hOk D ac (hB base) shPW (hU base) s.heap f H locs → lv_has ls 2 [(0, .ref (hB base 0)), (1, .int (nI i))] → b1 (fX7_chars r i f) fX7_rest = some gv → W p l e ({ frames := 4, cells := 145, slots := 2115, locals := 96 } : Room) s m ([.ref (hB base 0)] : List Value).toArray below meth c H locs 145 2115 (MQ below (nQv D ac base shPW gv) ([.ref (hB base 0)] : List Value).toArray s 145 2115 (hU base)) (F0 m 105 ls []) := by
    intro r
    induction r with
    | zero =>
      intro i hi f H locs ls hw hl h
      have hZ1 := hSt_no (hSt_kept hZ (fun a h1 h2 => hw.2.2.2.1 a h1 h2))
      refine lv_iload_n hx hb dX7_init_105 rfl (lv_at hl 1 rfl) ?_
      refine va_ldcS hx hb hown hR dX7_init_106 ?_
      refine h_callR (va_runV (As := []) (rest := [.int (nI i)]) ⟨hx, hb, hml, hown, hts⟩ (mJ0_length l q v w) (cwV 0 hts gX7_init_J0_length_8abf5 rfl rfl rfl (by decide +kernel) ⟨Nat.le_of_ble_eq_true rfl, Nat.le_of_ble_eq_true rfl⟩) (s_preV hZ1 _) rfl rfl hl.1 rfl (lv_room (Nat.le_of_ble_eq_true rfl)) dX7_init_108 ⟨Nat.le_of_ble_eq_true rfl, Nat.le_of_ble_eq_true rfl⟩) ?_
      refine lv_icmp_ge (tgt := 134) hx hb dX7_init_111 (by decide) (fun _ => ?_) (fun hc => absurd (show nI 75 ≤ nI i from nI_le (by omega) (by omega)) hc)
      replace h : fX7_rest f = some gv := h
      unfold fX7_rest at h
      obtain ⟨r2, f2, e2, h⟩ := b2_s h
      obtain ⟨f3, e3, h⟩ := b1_s h
      obtain ⟨f4, e4, h⟩ := lt_s2 h
      refine lv_aload_n hx hb dX7_init_134 rfl (lv_at hl 0 rfl) ?_
      refine h_getR hx hb hts hnX7_init_X7 hown hK hw pw_ok.1 rfl 1 (by decide) rfl hkX7_init_19 dX7_init_135 ?_
      refine lv_aload_n hx hb dX7_init_138 rfl (lv_at hl 0 rfl) ?_
      refine h_getR hx hb hts hnX7_init_X7 hown hK hw pw_ok.1 rfl 0 (by decide) rfl hkX7_init_12 dX7_init_139 ?_
      refine h_callQ hw (va_runV (As := [.ref (hB base 1)]) (rest := []) ⟨hx, hb, hml, hown, hts⟩ (mX3_readFrom l D ac (hB base) shPW 3 1 f r2 f2 pw_ok.2.2.1 pw_ok.2.1 e2) (cwV 1 hts gX7_init_X3_readFrom rfl rfl rfl (by decide +kernel) ⟨Nat.le_of_ble_eq_true rfl, Nat.le_of_ble_eq_true rfl⟩) (h_preV hK hw pw_ok.2.2.1.1 rfl _) rfl rfl hl.1 rfl (lv_room (Nat.le_of_ble_eq_true rfl)) dX7_init_142 ⟨Nat.le_of_ble_eq_true rfl, Nat.le_of_ble_eq_true rfl⟩) (fun H locs hw => ?_)
      refine lv_pop hx hb dX7_init_145 rfl ?_
      refine lv_aload_n hx hb dX7_init_146 rfl (lv_at hl 0 rfl) ?_
      refine h_getR hx hb hts hnX7_init_X7 hown hK hw pw_ok.1 rfl 3 (by decide) rfl hkX7_init_31 dX7_init_147 ?_
      refine h_callV hw (va_runV (As := []) (rest := []) ⟨hx, hb, hml, hown, hts⟩ (mX2_open l D ac (hB base) shPW 19 3 f2 f3 pw_ok.2.2.2.2.1 e3) (cwV 0 hts gX7_init_X2_open rfl rfl rfl (by decide +kernel) ⟨Nat.le_of_ble_eq_true rfl, Nat.le_of_ble_eq_true rfl⟩) (h_preV hK hw pw_ok.2.2.2.2.1.1 rfl _) rfl rfl hl.1 rfl (lv_room (Nat.le_of_ble_eq_true rfl)) dX7_init_150 ⟨Nat.le_of_ble_eq_true rfl, Nat.le_of_ble_eq_true rfl⟩) (fun H locs hw => ?_)
      refine lv_aload_n hx hb dX7_init_153 rfl (lv_at hl 0 rfl) ?_
      refine h_getR hx hb hts hnX7_init_X7 hown hK hw pw_ok.1 rfl 0 (by decide) rfl hkX7_init_12 dX7_init_154 ?_
      refine lv_iconst (v := 0) hx hb dX7_init_157 (by decide) ?_
      refine h_putI (g := f4) e4 hx hb hts hnX7_init_X4 tyX4 tyX4_ok nmX4 hown hK hw pw_ok.2.1.1 rfl 1 rfl (by decide) rfl hkX7_init_80 rfl (by decide +kernel) dX7_init_158 (fun H locs hw => ?_)
      exact n_ret hx hb hr hlocks hw rfl (so1 h) dX7_init_161
    | succ r ih =>
      intro i hi f H locs ls hw hl h
      have hZ1 := hSt_no (hSt_kept hZ (fun a h1 h2 => hw.2.2.2.1 a h1 h2))
      refine lv_iload_n hx hb dX7_init_105 rfl (lv_at hl 1 rfl) ?_
      refine va_ldcS hx hb hown hR dX7_init_106 ?_
      refine h_callR (va_runV (As := []) (rest := [.int (nI i)]) ⟨hx, hb, hml, hown, hts⟩ (mJ0_length l q v w) (cwV 0 hts gX7_init_J0_length_8abf5 rfl rfl rfl (by decide +kernel) ⟨Nat.le_of_ble_eq_true rfl, Nat.le_of_ble_eq_true rfl⟩) (s_preV hZ1 _) rfl rfl hl.1 rfl (lv_room (Nat.le_of_ble_eq_true rfl)) dX7_init_108 ⟨Nat.le_of_ble_eq_true rfl, Nat.le_of_ble_eq_true rfl⟩) ?_
      refine lv_icmp_ge (tgt := 134) hx hb dX7_init_111 (by decide) (fun hc => absurd (show nI 75 ≤ nI i from hc) (nI_ge (by omega) (by omega))) (fun _ => ?_)
      obtain ⟨fa, ea, h⟩ := b1_s h
      rw [fX7_chars] at ea
      obtain ⟨r5, f5, e5, ea⟩ := b2_s ea
      refine lv_aload_n hx hb dX7_init_114 rfl (lv_at hl 0 rfl) ?_
      refine h_getR hx hb hts hnX7_init_X7 hown hK hw pw_ok.1 rfl 0 (by decide) rfl hkX7_init_12 dX7_init_115 ?_
      refine va_ldcS hx hb hown hR dX7_init_118 ?_
      refine lv_iload_n hx hb dX7_init_120 rfl (lv_at hl 1 rfl) ?_
      refine h_callR (va_runV (As := [.int (nI i)]) (rest := [.ref (hB base 1)]) ⟨hx, hb, hml, hown, hts⟩ (mJ0_charAt l q v w i (by omega)) (cwV 1 hts gX7_init_J0_charAt_5068e rfl rfl rfl (by decide +kernel) ⟨Nat.le_of_ble_eq_true rfl, Nat.le_of_ble_eq_true rfl⟩) (s_preV hZ1 _) rfl rfl hl.1 rfl (lv_room (Nat.le_of_ble_eq_true rfl)) dX7_init_121 ⟨Nat.le_of_ble_eq_true rfl, Nat.le_of_ble_eq_true rfl⟩) ?_
      refine h_callQ hw (va_runV (As := [.int (txC i)]) (rest := []) ⟨hx, hb, hml, hown, hts⟩ (mX4_add l D ac (hB base) shPW 1 f (txC i) r5 f5 pw_ok.2.1 e5) (cwV 1 hts gX7_init_X4_add rfl rfl rfl (by decide +kernel) ⟨Nat.le_of_ble_eq_true rfl, Nat.le_of_ble_eq_true rfl⟩) (h_preV hK hw pw_ok.2.1.1 rfl _) rfl rfl hl.1 rfl (lv_room (Nat.le_of_ble_eq_true rfl)) dX7_init_124 ⟨Nat.le_of_ble_eq_true rfl, Nat.le_of_ble_eq_true rfl⟩) (fun H locs hw => ?_)
      refine lv_pop hx hb dX7_init_127 rfl ?_
      refine lv_iinc (v := nI (i+1)) (lv' := [(1, .int (nI (i+1))), (0, .ref (hB base 0))]) hx hb dX7_init_128 hl (k := 1) rfl (by rw [← nI_1]; rfl) (by decide) rfl (fun ls hl => ?_)
      refine lv_goto (tgt := 105) hx hb dX7_init_131 (by decide) ?_
      exact ih (i+1) (by omega) f5 H locs ls hw (lv_sub hl [1, 0] rfl) (by rw [ea]; exact h)
  refine lv_aload_n hx hb dX7_init_0 rfl (lv_at hl 0 rfl) ?_
  refine W.objInit hx hb hown (hts _ hdX7_init_oi1) (hts _ hdX7_init_oi2) (hts _ hdX7_init_oi3) rfl (by rw [hml]; exact hl.1) rfl dX7_init_1 (Nat.le_of_ble_eq_true rfl) (Nat.le_of_ble_eq_true rfl) ?_
  refine W.eq (g2 := F0 m 4 ls []) rfl ?_
  refine lv_aload_n hx hb dX7_init_4 rfl (lv_at hl 0 rfl) ?_
  refine n_size h0 hw (by simp only [List.length_append, List.length_cons, List.length_nil, shBk, shHd, shHo, shRo, shSc, shSi, hT, shSh_len] <;> omega) (by simp only [List.length_append, List.length_cons, List.length_nil, shBk, shHd, shHo, shRo, shSc, shSi, hT, shSh_len] <;> omega) (fun hsz => ?_)
  refine n_newo (ci := 4) (fl := [some none, none]) hx hb hts hnX7_init_X4 tyX4 tyX4_ok hown (hts _ hdX7_init_cl9) (hts _ hdX7_init_inX4) (hts _ hdX7_init_iiX4) hK hw (Nn := 1) (by simp only [List.length_append, List.length_cons, List.length_nil, shBk, shHd, shHo, shRo, shSc, shSi, hT, shSh_len] <;> omega) hsz (hf _ (by omega)) rfl (fun j hj => by rcases (show j = 0 ∨ j = 1 by omega) with rfl | rfl <;> rfl) (Nat.le_of_ble_eq_true rfl) (Nat.le_of_ble_eq_true rfl) dX7_init_5 (fun H hw => ?_)
  refine lv_dup hx hb dX7_init_8 rfl ?_
  refine n_size h0 hw (by simp only [List.length_append, List.length_cons, List.length_nil, shBk, shHd, shHo, shRo, shSc, shSi, hT, shSh_len] <;> omega) (by simp only [List.length_append, List.length_cons, List.length_nil, shBk, shHd, shHo, shRo, shSc, shSi, hT, shSh_len] <;> omega) (fun hsz => ?_)
  refine n_call hw (va_runIN (As := []) (rest := [.ref (hB base 1), .ref (hB base 0)]) ⟨hx, hb, hml, hown, hts⟩ (nX4_init l D ac base (([] : List hSh) ++ (.inl (7, [some none, some none, some none, some none, some none, some none, some none, some none]) :: ([]))) 1  (by simp only [List.length_append, List.length_cons, List.length_nil, shBk, shHd, shHo, shRo, shSc, shSi, hT, shSh_len] <;> omega) f0 (fun j hj => hf j (by omega))) ⟨va_cnB 0 hts gX7_init_X4_init_n11 rfl rfl rfl hN.1 (hts _ hdX7_init_iiX4) (by decide +kernel) ⟨Nat.le_of_ble_eq_true rfl, Nat.le_of_ble_eq_true rfl⟩, rfl, hts _ hdX7_init_imX4_init⟩ (n_pre hN hK hw hsz _) rfl rfl hl.1 rfl (lv_room (Nat.le_of_ble_eq_true rfl)) dX7_init_9 ⟨Nat.le_of_ble_eq_true rfl, Nat.le_of_ble_eq_true rfl⟩) (fun H locs hw => ?_)
  have hw : hOk D ac (hB base) (([] : List hSh) ++ (.inl (7, [some none, some none, some none, some none, some none, some none, some none, some none]) :: (shSc 1))) (hU base) s.heap f0 H locs := by first | exact hw | (rw [hT_push] at hw; exact hw)
  refine n_putF (t := 1) (ty := tyX7 0) hx hb hts hnX7_init_X7 tyX7 tyX7_ok nmX7 hown hK hT hw rfl 0 (by decide) (Nat.le_of_ble_eq_true rfl) rfl hkX7_init_12 rfl hin rfl (tyX7_ok 0 (by decide)) rfl rfl dX7_init_12 (fun H locs hw => ?_)
  have hw : hOk D ac (hB base) (([] : List hSh) ++ (.inl (7, [rf 1, some none, some none, some none, some none, some none, some none, some none]) :: (shSc 1))) (hU base) s.heap f0 H locs := by first | exact hw | (rw [hT_push] at hw; exact hw)
  refine lv_aload_n hx hb dX7_init_15 rfl (lv_at hl 0 rfl) ?_
  refine n_size h0 hw (by simp only [List.length_append, List.length_cons, List.length_nil, shBk, shHd, shHo, shRo, shSc, shSi, hT, shSh_len] <;> omega) (by simp only [List.length_append, List.length_cons, List.length_nil, shBk, shHd, shHo, shRo, shSc, shSi, hT, shSh_len] <;> omega) (fun hsz => ?_)
  refine n_newo (ci := 3) (fl := [none, none, none, some none, some none, some none, some none, some none, some none, some none]) hx hb hts hnX7_init_X3 tyX3 tyX3_ok hown (hts _ hdX7_init_cl16) (hts _ hdX7_init_inX3) (hts _ hdX7_init_iiX3) hK hw (Nn := 3) (by simp only [List.length_append, List.length_cons, List.length_nil, shBk, shHd, shHo, shRo, shSc, shSi, hT, shSh_len] <;> omega) hsz (hf _ (by omega)) rfl (fun j hj => by rcases (show j = 0 ∨ j = 1 ∨ j = 2 ∨ j = 3 ∨ j = 4 ∨ j = 5 ∨ j = 6 ∨ j = 7 ∨ j = 8 ∨ j = 9 by omega) with rfl | rfl | rfl | rfl | rfl | rfl | rfl | rfl | rfl | rfl <;> rfl) (Nat.le_of_ble_eq_true rfl) (Nat.le_of_ble_eq_true rfl) dX7_init_16 (fun H hw => ?_)
  refine lv_dup hx hb dX7_init_19 rfl ?_
  refine n_size h0 hw (by simp only [List.length_append, List.length_cons, List.length_nil, shBk, shHd, shHo, shRo, shSc, shSi, hT, shSh_len] <;> omega) (by simp only [List.length_append, List.length_cons, List.length_nil, shBk, shHd, shHo, shRo, shSc, shSi, hT, shSh_len] <;> omega) (fun hsz => ?_)
  refine n_call hw (va_runIN (As := []) (rest := [.ref (hB base 3), .ref (hB base 0)]) ⟨hx, hb, hml, hown, hts⟩ (nX3_init l D ac base (([] : List hSh) ++ (.inl (7, [rf 1, some none, some none, some none, some none, some none, some none, some none]) :: (shSc 1))) 3  (by simp only [List.length_append, List.length_cons, List.length_nil, shBk, shHd, shHo, shRo, shSc, shSi, hT, shSh_len] <;> omega) f0 (fun j hj => hf j (by omega))) ⟨va_cnB 0 hts gX7_init_X3_init_n18 rfl rfl rfl hN.2.1 (hts _ hdX7_init_iiX3) (by decide +kernel) ⟨Nat.le_of_ble_eq_true rfl, Nat.le_of_ble_eq_true rfl⟩, rfl, hts _ hdX7_init_imX3_init⟩ (n_pre hN hK hw hsz _) rfl rfl hl.1 rfl (lv_room (Nat.le_of_ble_eq_true rfl)) dX7_init_20 ⟨Nat.le_of_ble_eq_true rfl, Nat.le_of_ble_eq_true rfl⟩) (fun H locs hw => ?_)
  have hw : hOk D ac (hB base) (([] : List hSh) ++ (.inl (7, [rf 1, some none, some none, some none, some none, some none, some none, some none]) :: (shSc 1 ++ shRo 3))) (hU base) s.heap f0 H locs := by first | exact hw | (rw [hT_push] at hw; exact hw)
  refine n_putF (t := 3) (ty := tyX7 1) hx hb hts hnX7_init_X7 tyX7 tyX7_ok nmX7 hown hK hT hw rfl 1 (by decide) (Nat.le_of_ble_eq_true rfl) rfl hkX7_init_19 rfl hin rfl (tyX7_ok 1 (by decide)) rfl rfl dX7_init_23 (fun H locs hw => ?_)
  have hw : hOk D ac (hB base) (([] : List hSh) ++ (.inl (7, [rf 1, rf 3, some none, some none, some none, some none, some none, some none]) :: (shSc 1 ++ shRo 3))) (hU base) s.heap f0 H locs := by first | exact hw | (rw [hT_push] at hw; exact hw)
  refine lv_aload_n hx hb dX7_init_26 rfl (lv_at hl 0 rfl) ?_
  refine n_size h0 hw (by simp only [List.length_append, List.length_cons, List.length_nil, shBk, shHd, shHo, shRo, shSc, shSi, hT, shSh_len] <;> omega) (by simp only [List.length_append, List.length_cons, List.length_nil, shBk, shHd, shHo, shRo, shSc, shSi, hT, shSh_len] <;> omega) (fun hsz => ?_)
  refine n_newo (ci := 3) (fl := [none, none, none, some none, some none, some none, some none, some none, some none, some none]) hx hb hts hnX7_init_X3 tyX3 tyX3_ok hown (hts _ hdX7_init_cl16) (hts _ hdX7_init_inX3) (hts _ hdX7_init_iiX3) hK hw (Nn := 11) (by simp only [List.length_append, List.length_cons, List.length_nil, shBk, shHd, shHo, shRo, shSc, shSi, hT, shSh_len] <;> omega) hsz (hf _ (by omega)) rfl (fun j hj => by rcases (show j = 0 ∨ j = 1 ∨ j = 2 ∨ j = 3 ∨ j = 4 ∨ j = 5 ∨ j = 6 ∨ j = 7 ∨ j = 8 ∨ j = 9 by omega) with rfl | rfl | rfl | rfl | rfl | rfl | rfl | rfl | rfl | rfl <;> rfl) (Nat.le_of_ble_eq_true rfl) (Nat.le_of_ble_eq_true rfl) dX7_init_27 (fun H hw => ?_)
  refine lv_dup hx hb dX7_init_30 rfl ?_
  refine n_size h0 hw (by simp only [List.length_append, List.length_cons, List.length_nil, shBk, shHd, shHo, shRo, shSc, shSi, hT, shSh_len] <;> omega) (by simp only [List.length_append, List.length_cons, List.length_nil, shBk, shHd, shHo, shRo, shSc, shSi, hT, shSh_len] <;> omega) (fun hsz => ?_)
  refine n_call hw (va_runIN (As := []) (rest := [.ref (hB base 11), .ref (hB base 0)]) ⟨hx, hb, hml, hown, hts⟩ (nX3_init l D ac base (([] : List hSh) ++ (.inl (7, [rf 1, rf 3, some none, some none, some none, some none, some none, some none]) :: (shSc 1 ++ shRo 3))) 11  (by simp only [List.length_append, List.length_cons, List.length_nil, shBk, shHd, shHo, shRo, shSc, shSi, hT, shSh_len] <;> omega) f0 (fun j hj => hf j (by omega))) ⟨va_cnB 0 hts gX7_init_X3_init_n18 rfl rfl rfl hN.2.1 (hts _ hdX7_init_iiX3) (by decide +kernel) ⟨Nat.le_of_ble_eq_true rfl, Nat.le_of_ble_eq_true rfl⟩, rfl, hts _ hdX7_init_imX3_init⟩ (n_pre hN hK hw hsz _) rfl rfl hl.1 rfl (lv_room (Nat.le_of_ble_eq_true rfl)) dX7_init_31 ⟨Nat.le_of_ble_eq_true rfl, Nat.le_of_ble_eq_true rfl⟩) (fun H locs hw => ?_)
  have hw : hOk D ac (hB base) (([] : List hSh) ++ (.inl (7, [rf 1, rf 3, some none, some none, some none, some none, some none, some none]) :: (shSc 1 ++ shRo 3 ++ shRo 11))) (hU base) s.heap f0 H locs := by first | exact hw | (rw [hT_push] at hw; exact hw)
  refine n_putF (t := 11) (ty := tyX7 2) hx hb hts hnX7_init_X7 tyX7 tyX7_ok nmX7 hown hK hT hw rfl 2 (by decide) (Nat.le_of_ble_eq_true rfl) rfl hkX7_init_23 rfl hin rfl (tyX7_ok 2 (by decide)) rfl rfl dX7_init_34 (fun H locs hw => ?_)
  have hw : hOk D ac (hB base) (([] : List hSh) ++ (.inl (7, [rf 1, rf 3, rf 11, some none, some none, some none, some none, some none]) :: (shSc 1 ++ shRo 3 ++ shRo 11))) (hU base) s.heap f0 H locs := by first | exact hw | (rw [hT_push] at hw; exact hw)
  refine lv_aload_n hx hb dX7_init_37 rfl (lv_at hl 0 rfl) ?_
  refine n_size h0 hw (by simp only [List.length_append, List.length_cons, List.length_nil, shBk, shHd, shHo, shRo, shSc, shSi, hT, shSh_len] <;> omega) (by simp only [List.length_append, List.length_cons, List.length_nil, shBk, shHd, shHo, shRo, shSc, shSi, hT, shSh_len] <;> omega) (fun hsz => ?_)
  refine n_newo (ci := 2) (fl := [some none, some none, some none, some none]) hx hb hts hnX7_init_X2 tyX2 tyX2_ok hown (hts _ hdX7_init_cl26) (hts _ hdX7_init_inX2) (hts _ hdX7_init_iiX2) hK hw (Nn := 19) (by simp only [List.length_append, List.length_cons, List.length_nil, shBk, shHd, shHo, shRo, shSc, shSi, hT, shSh_len] <;> omega) hsz (hf _ (by omega)) rfl (fun j hj => by rcases (show j = 0 ∨ j = 1 ∨ j = 2 ∨ j = 3 by omega) with rfl | rfl | rfl | rfl <;> rfl) (Nat.le_of_ble_eq_true rfl) (Nat.le_of_ble_eq_true rfl) dX7_init_38 (fun H hw => ?_)
  refine lv_dup hx hb dX7_init_41 rfl ?_
  refine lv_aload_n hx hb dX7_init_42 rfl (lv_at hl 0 rfl) ?_
  refine h_getR (t := 3) (fl := [rf 1, rf 3, rf 11, some none, some none, some none, some none, some none]) hx hb hts hnX7_init_X7 hown hK hw (by first | exact hT_get hT | (rw [hT_push]; exact hT_get hT)) rfl 1 (by decide) rfl hkX7_init_19 dX7_init_43 ?_
  refine n_size h0 hw (by simp only [List.length_append, List.length_cons, List.length_nil, shBk, shHd, shHo, shRo, shSc, shSi, hT, shSh_len] <;> omega) (by simp only [List.length_append, List.length_cons, List.length_nil, shBk, shHd, shHo, shRo, shSc, shSi, hT, shSh_len] <;> omega) (fun hsz => ?_)
  refine n_call hw (va_runI (As := [.ref (hB base 3)]) (rest := [.ref (hB base 19), .ref (hB base 0)]) ⟨hx, hb, hml, hown, hts⟩ (nX2_init l D ac base (([] : List hSh) ++ (.inl (7, [rf 1, rf 3, rf 11, some none, some none, some none, some none, some none]) :: (shSc 1 ++ shRo 3 ++ shRo 11))) 19 3 (by simp only [List.length_append, List.length_cons, List.length_nil, shBk, shHd, shHo, shRo, shSc, shSi, hT, shSh_len] <;> omega) f0 (fun j hj => hf j (by omega))) (cwI 1 hts gX7_init_X2_init rfl rfl rfl (hts _ hdX7_init_iiX2) (hts _ hdX7_init_ml28) (hts _ hdX7_init_imX2_init) rfl (by decide +kernel) ⟨Nat.le_of_ble_eq_true rfl, Nat.le_of_ble_eq_true rfl⟩) (n_pre hN hK hw hsz _) rfl rfl hl.1 rfl (lv_room (Nat.le_of_ble_eq_true rfl)) dX7_init_46 ⟨Nat.le_of_ble_eq_true rfl, Nat.le_of_ble_eq_true rfl⟩) (fun H locs hw => ?_)
  have hw : hOk D ac (hB base) (([] : List hSh) ++ (.inl (7, [rf 1, rf 3, rf 11, some none, some none, some none, some none, some none]) :: (shSc 1 ++ shRo 3 ++ shRo 11 ++ shHo 19 3))) (hU base) s.heap f0 H locs := by first | exact hw | (rw [hT_push] at hw; exact hw)
  refine n_putF (t := 19) (ty := tyX7 3) hx hb hts hnX7_init_X7 tyX7 tyX7_ok nmX7 hown hK hT hw rfl 3 (by decide) (Nat.le_of_ble_eq_true rfl) rfl hkX7_init_31 rfl hin rfl (tyX7_ok 3 (by decide)) rfl rfl dX7_init_49 (fun H locs hw => ?_)
  have hw : hOk D ac (hB base) (([] : List hSh) ++ (.inl (7, [rf 1, rf 3, rf 11, rf 19, some none, some none, some none, some none]) :: (shSc 1 ++ shRo 3 ++ shRo 11 ++ shHo 19 3))) (hU base) s.heap f0 H locs := by first | exact hw | (rw [hT_push] at hw; exact hw)
  refine lv_aload_n hx hb dX7_init_52 rfl (lv_at hl 0 rfl) ?_
  refine n_size h0 hw (by simp only [List.length_append, List.length_cons, List.length_nil, shBk, shHd, shHo, shRo, shSc, shSi, hT, shSh_len] <;> omega) (by simp only [List.length_append, List.length_cons, List.length_nil, shBk, shHd, shHo, shRo, shSc, shSi, hT, shSh_len] <;> omega) (fun hsz => ?_)
  refine n_newo (ci := 2) (fl := [some none, some none, some none, some none]) hx hb hts hnX7_init_X2 tyX2 tyX2_ok hown (hts _ hdX7_init_cl26) (hts _ hdX7_init_inX2) (hts _ hdX7_init_iiX2) hK hw (Nn := 33) (by simp only [List.length_append, List.length_cons, List.length_nil, shBk, shHd, shHo, shRo, shSc, shSi, hT, shSh_len] <;> omega) hsz (hf _ (by omega)) rfl (fun j hj => by rcases (show j = 0 ∨ j = 1 ∨ j = 2 ∨ j = 3 by omega) with rfl | rfl | rfl | rfl <;> rfl) (Nat.le_of_ble_eq_true rfl) (Nat.le_of_ble_eq_true rfl) dX7_init_53 (fun H hw => ?_)
  refine lv_dup hx hb dX7_init_56 rfl ?_
  refine lv_aload_n hx hb dX7_init_57 rfl (lv_at hl 0 rfl) ?_
  refine h_getR (t := 3) (fl := [rf 1, rf 3, rf 11, rf 19, some none, some none, some none, some none]) hx hb hts hnX7_init_X7 hown hK hw (by first | exact hT_get hT | (rw [hT_push]; exact hT_get hT)) rfl 1 (by decide) rfl hkX7_init_19 dX7_init_58 ?_
  refine n_size h0 hw (by simp only [List.length_append, List.length_cons, List.length_nil, shBk, shHd, shHo, shRo, shSc, shSi, hT, shSh_len] <;> omega) (by simp only [List.length_append, List.length_cons, List.length_nil, shBk, shHd, shHo, shRo, shSc, shSi, hT, shSh_len] <;> omega) (fun hsz => ?_)
  refine n_call hw (va_runI (As := [.ref (hB base 3)]) (rest := [.ref (hB base 33), .ref (hB base 0)]) ⟨hx, hb, hml, hown, hts⟩ (nX2_init l D ac base (([] : List hSh) ++ (.inl (7, [rf 1, rf 3, rf 11, rf 19, some none, some none, some none, some none]) :: (shSc 1 ++ shRo 3 ++ shRo 11 ++ shHo 19 3))) 33 3 (by simp only [List.length_append, List.length_cons, List.length_nil, shBk, shHd, shHo, shRo, shSc, shSi, hT, shSh_len] <;> omega) f0 (fun j hj => hf j (by omega))) (cwI 1 hts gX7_init_X2_init rfl rfl rfl (hts _ hdX7_init_iiX2) (hts _ hdX7_init_ml28) (hts _ hdX7_init_imX2_init) rfl (by decide +kernel) ⟨Nat.le_of_ble_eq_true rfl, Nat.le_of_ble_eq_true rfl⟩) (n_pre hN hK hw hsz _) rfl rfl hl.1 rfl (lv_room (Nat.le_of_ble_eq_true rfl)) dX7_init_61 ⟨Nat.le_of_ble_eq_true rfl, Nat.le_of_ble_eq_true rfl⟩) (fun H locs hw => ?_)
  have hw : hOk D ac (hB base) (([] : List hSh) ++ (.inl (7, [rf 1, rf 3, rf 11, rf 19, some none, some none, some none, some none]) :: (shSc 1 ++ shRo 3 ++ shRo 11 ++ shHo 19 3 ++ shHo 33 3))) (hU base) s.heap f0 H locs := by first | exact hw | (rw [hT_push] at hw; exact hw)
  refine n_putF (t := 33) (ty := tyX7 4) hx hb hts hnX7_init_X7 tyX7 tyX7_ok nmX7 hown hK hT hw rfl 4 (by decide) (Nat.le_of_ble_eq_true rfl) rfl hkX7_init_35 rfl hin rfl (tyX7_ok 4 (by decide)) rfl rfl dX7_init_64 (fun H locs hw => ?_)
  have hw : hOk D ac (hB base) (([] : List hSh) ++ (.inl (7, [rf 1, rf 3, rf 11, rf 19, rf 33, some none, some none, some none]) :: (shSc 1 ++ shRo 3 ++ shRo 11 ++ shHo 19 3 ++ shHo 33 3))) (hU base) s.heap f0 H locs := by first | exact hw | (rw [hT_push] at hw; exact hw)
  refine lv_aload_n hx hb dX7_init_67 rfl (lv_at hl 0 rfl) ?_
  refine n_size h0 hw (by simp only [List.length_append, List.length_cons, List.length_nil, shBk, shHd, shHo, shRo, shSc, shSi, hT, shSh_len] <;> omega) (by simp only [List.length_append, List.length_cons, List.length_nil, shBk, shHd, shHo, shRo, shSc, shSi, hT, shSh_len] <;> omega) (fun hsz => ?_)
  refine n_newo (ci := 6) (fl := [none, some none, some none, some none, some none]) hx hb hts hnX7_init_X6 tyX6 tyX6_ok hown (hts _ hdX7_init_cl38) (hts _ hdX7_init_inX6) (hts _ hdX7_init_iiX6) hK hw (Nn := 47) (by simp only [List.length_append, List.length_cons, List.length_nil, shBk, shHd, shHo, shRo, shSc, shSi, hT, shSh_len] <;> omega) hsz (hf _ (by omega)) rfl (fun j hj => by rcases (show j = 0 ∨ j = 1 ∨ j = 2 ∨ j = 3 ∨ j = 4 by omega) with rfl | rfl | rfl | rfl | rfl <;> rfl) (Nat.le_of_ble_eq_true rfl) (Nat.le_of_ble_eq_true rfl) dX7_init_68 (fun H hw => ?_)
  refine lv_dup hx hb dX7_init_71 rfl ?_
  refine n_size h0 hw (by simp only [List.length_append, List.length_cons, List.length_nil, shBk, shHd, shHo, shRo, shSc, shSi, hT, shSh_len] <;> omega) (by simp only [List.length_append, List.length_cons, List.length_nil, shBk, shHd, shHo, shRo, shSc, shSi, hT, shSh_len] <;> omega) (fun hsz => ?_)
  refine n_call hw (va_runIN (As := []) (rest := [.ref (hB base 47), .ref (hB base 0)]) ⟨hx, hb, hml, hown, hts⟩ (nX6_init l D ac base (([] : List hSh) ++ (.inl (7, [rf 1, rf 3, rf 11, rf 19, rf 33, some none, some none, some none]) :: (shSc 1 ++ shRo 3 ++ shRo 11 ++ shHo 19 3 ++ shHo 33 3))) 47  (by simp only [List.length_append, List.length_cons, List.length_nil, shBk, shHd, shHo, shRo, shSc, shSi, hT, shSh_len] <;> omega) f0 (fun j hj => hf j (by omega))) ⟨va_cnB 0 hts gX7_init_X6_init_n40 rfl rfl rfl hN.2.2.1 (hts _ hdX7_init_iiX6) (by decide +kernel) ⟨Nat.le_of_ble_eq_true rfl, Nat.le_of_ble_eq_true rfl⟩, rfl, hts _ hdX7_init_imX6_init⟩ (n_pre hN hK hw hsz _) rfl rfl hl.1 rfl (lv_room (Nat.le_of_ble_eq_true rfl)) dX7_init_72 ⟨Nat.le_of_ble_eq_true rfl, Nat.le_of_ble_eq_true rfl⟩) (fun H locs hw => ?_)
  have hw : hOk D ac (hB base) (([] : List hSh) ++ (.inl (7, [rf 1, rf 3, rf 11, rf 19, rf 33, some none, some none, some none]) :: (shSc 1 ++ shRo 3 ++ shRo 11 ++ shHo 19 3 ++ shHo 33 3 ++ shSi 47))) (hU base) s.heap f0 H locs := by first | exact hw | (rw [hT_push] at hw; exact hw)
  refine n_putF (t := 47) (ty := tyX7 5) hx hb hts hnX7_init_X7 tyX7 tyX7_ok nmX7 hown hK hT hw rfl 5 (by decide) (Nat.le_of_ble_eq_true rfl) rfl hkX7_init_41 rfl hin rfl (tyX7_ok 5 (by decide)) rfl rfl dX7_init_75 (fun H locs hw => ?_)
  have hw : hOk D ac (hB base) (([] : List hSh) ++ (.inl (7, [rf 1, rf 3, rf 11, rf 19, rf 33, rf 47, some none, some none]) :: (shSc 1 ++ shRo 3 ++ shRo 11 ++ shHo 19 3 ++ shHo 33 3 ++ shSi 47))) (hU base) s.heap f0 H locs := by first | exact hw | (rw [hT_push] at hw; exact hw)
  refine lv_aload_n hx hb dX7_init_78 rfl (lv_at hl 0 rfl) ?_
  refine n_size h0 hw (by simp only [List.length_append, List.length_cons, List.length_nil, shBk, shHd, shHo, shRo, shSc, shSi, hT, shSh_len] <;> omega) (by simp only [List.length_append, List.length_cons, List.length_nil, shBk, shHd, shHo, shRo, shSc, shSi, hT, shSh_len] <;> omega) (fun hsz => ?_)
  refine n_newo (ci := 5) (fl := [some none, none]) hx hb hts hnX7_init_X5 tyX5 tyX5_ok hown (hts _ hdX7_init_cl45) (hts _ hdX7_init_inX5) (hts _ hdX7_init_iiX5) hK hw (Nn := 52) (by simp only [List.length_append, List.length_cons, List.length_nil, shBk, shHd, shHo, shRo, shSc, shSi, hT, shSh_len] <;> omega) hsz (hf _ (by omega)) rfl (fun j hj => by rcases (show j = 0 ∨ j = 1 by omega) with rfl | rfl <;> rfl) (Nat.le_of_ble_eq_true rfl) (Nat.le_of_ble_eq_true rfl) dX7_init_79 (fun H hw => ?_)
  refine lv_dup hx hb dX7_init_82 rfl ?_
  refine lv_bipush (v := 8) hx hb dX7_init_83 (by decide) ?_
  refine n_size h0 hw (by simp only [List.length_append, List.length_cons, List.length_nil, shBk, shHd, shHo, shRo, shSc, shSi, hT, shSh_len] <;> omega) (by simp only [List.length_append, List.length_cons, List.length_nil, shBk, shHd, shHo, shRo, shSc, shSi, hT, shSh_len] <;> omega) (fun hsz => ?_)
  refine n_call hw (va_runI (As := [.int (nI 8)]) (rest := [.ref (hB base 52), .ref (hB base 0)]) ⟨hx, hb, hml, hown, hts⟩ (nX5_init l D ac base (([] : List hSh) ++ (.inl (7, [rf 1, rf 3, rf 11, rf 19, rf 33, rf 47, some none, some none]) :: (shSc 1 ++ shRo 3 ++ shRo 11 ++ shHo 19 3 ++ shHo 33 3 ++ shSi 47))) 52 8 (by simp only [List.length_append, List.length_cons, List.length_nil, shBk, shHd, shHo, shRo, shSc, shSi, hT, shSh_len] <;> omega) f0 (fun j hj => hf j (by omega)) (by decide)) (cwI 1 hts gX7_init_X5_init rfl rfl rfl (hts _ hdX7_init_iiX5) (hts _ hdX7_init_ml47) (hts _ hdX7_init_imX5_init) rfl (by decide +kernel) ⟨Nat.le_of_ble_eq_true rfl, Nat.le_of_ble_eq_true rfl⟩) (n_pre hN hK hw hsz _) rfl rfl hl.1 rfl (lv_room (Nat.le_of_ble_eq_true rfl)) dX7_init_85 ⟨Nat.le_of_ble_eq_true rfl, Nat.le_of_ble_eq_true rfl⟩) (fun H locs hw => ?_)
  have hf : ∀ j, 126 ≤ j → (fShelf f0 52 8) j = fun _ => 0 := fun j hj => (fShelf_hi (by omega)).trans (hf j (by omega))
  have hw : hOk D ac (hB base) (([] : List hSh) ++ (.inl (7, [rf 1, rf 3, rf 11, rf 19, rf 33, rf 47, some none, some none]) :: (shSc 1 ++ shRo 3 ++ shRo 11 ++ shHo 19 3 ++ shHo 33 3 ++ shSi 47 ++ shSh 52 8))) (hU base) s.heap (fShelf f0 52 8) H locs := by first | exact hw | (rw [hT_push] at hw; exact hw)
  refine n_putF (t := 52) (ty := tyX7 6) hx hb hts hnX7_init_X7 tyX7 tyX7_ok nmX7 hown hK hT hw rfl 6 (by decide) (Nat.le_of_ble_eq_true rfl) rfl hkX7_init_50 rfl hin rfl (tyX7_ok 6 (by decide)) rfl rfl dX7_init_88 (fun H locs hw => ?_)
  have hw : hOk D ac (hB base) (([] : List hSh) ++ (.inl (7, [rf 1, rf 3, rf 11, rf 19, rf 33, rf 47, rf 52, some none]) :: (shSc 1 ++ shRo 3 ++ shRo 11 ++ shHo 19 3 ++ shHo 33 3 ++ shSi 47 ++ shSh 52 8))) (hU base) s.heap (fShelf f0 52 8) H locs := by first | exact hw | (rw [hT_push] at hw; exact hw)
  refine lv_aload_n hx hb dX7_init_91 rfl (lv_at hl 0 rfl) ?_
  refine n_size h0 hw (by simp only [List.length_append, List.length_cons, List.length_nil, shBk, shHd, shHo, shRo, shSc, shSi, hT, shSh_len] <;> omega) (by simp only [List.length_append, List.length_cons, List.length_nil, shBk, shHd, shHo, shRo, shSc, shSi, hT, shSh_len] <;> omega) (fun hsz => ?_)
  refine n_newo (ci := 5) (fl := [some none, none]) hx hb hts hnX7_init_X5 tyX5 tyX5_ok hown (hts _ hdX7_init_cl45) (hts _ hdX7_init_inX5) (hts _ hdX7_init_iiX5) hK hw (Nn := 126) (by simp only [List.length_append, List.length_cons, List.length_nil, shBk, shHd, shHo, shRo, shSc, shSi, hT, shSh_len] <;> omega) hsz (hf _ (by omega)) rfl (fun j hj => by rcases (show j = 0 ∨ j = 1 by omega) with rfl | rfl <;> rfl) (Nat.le_of_ble_eq_true rfl) (Nat.le_of_ble_eq_true rfl) dX7_init_92 (fun H hw => ?_)
  refine lv_dup hx hb dX7_init_95 rfl ?_
  refine lv_iconst (v := 2) hx hb dX7_init_96 (by decide) ?_
  refine n_size h0 hw (by simp only [List.length_append, List.length_cons, List.length_nil, shBk, shHd, shHo, shRo, shSc, shSi, hT, shSh_len] <;> omega) (by simp only [List.length_append, List.length_cons, List.length_nil, shBk, shHd, shHo, shRo, shSc, shSi, hT, shSh_len] <;> omega) (fun hsz => ?_)
  refine n_call hw (va_runI (As := [.int (nI 2)]) (rest := [.ref (hB base 126), .ref (hB base 0)]) ⟨hx, hb, hml, hown, hts⟩ (nX5_init l D ac base (([] : List hSh) ++ (.inl (7, [rf 1, rf 3, rf 11, rf 19, rf 33, rf 47, rf 52, some none]) :: (shSc 1 ++ shRo 3 ++ shRo 11 ++ shHo 19 3 ++ shHo 33 3 ++ shSi 47 ++ shSh 52 8))) 126 2 (by simp only [List.length_append, List.length_cons, List.length_nil, shBk, shHd, shHo, shRo, shSc, shSi, hT, shSh_len] <;> omega) (fShelf f0 52 8) (fun j hj => hf j (by omega)) (by decide)) (cwI 1 hts gX7_init_X5_init rfl rfl rfl (hts _ hdX7_init_iiX5) (hts _ hdX7_init_ml47) (hts _ hdX7_init_imX5_init) rfl (by decide +kernel) ⟨Nat.le_of_ble_eq_true rfl, Nat.le_of_ble_eq_true rfl⟩) (n_pre hN hK hw hsz _) rfl rfl hl.1 rfl (lv_room (Nat.le_of_ble_eq_true rfl)) dX7_init_97 ⟨Nat.le_of_ble_eq_true rfl, Nat.le_of_ble_eq_true rfl⟩) (fun H locs hw => ?_)
  have hf : ∀ j, 146 ≤ j → (fShelf (fShelf f0 52 8) 126 2) j = fun _ => 0 := fun j hj => (fShelf_hi (by omega)).trans (hf j (by omega))
  have hw : hOk D ac (hB base) (([] : List hSh) ++ (.inl (7, [rf 1, rf 3, rf 11, rf 19, rf 33, rf 47, rf 52, some none]) :: (shSc 1 ++ shRo 3 ++ shRo 11 ++ shHo 19 3 ++ shHo 33 3 ++ shSi 47 ++ shSh 52 8 ++ shSh 126 2))) (hU base) s.heap (fShelf (fShelf f0 52 8) 126 2) H locs := by first | exact hw | (rw [hT_push] at hw; exact hw)
  refine n_putF (t := 126) (ty := tyX7 7) hx hb hts hnX7_init_X7 tyX7 tyX7_ok nmX7 hown hK hT hw rfl 7 (by decide) (Nat.le_of_ble_eq_true rfl) rfl hkX7_init_54 rfl hin rfl (tyX7_ok 7 (by decide)) rfl rfl dX7_init_100 (fun H locs hw => ?_)
  have hw : hOk D ac (hB base) (([] : List hSh) ++ (.inl (7, [rf 1, rf 3, rf 11, rf 19, rf 33, rf 47, rf 52, rf 126]) :: (shSc 1 ++ shRo 3 ++ shRo 11 ++ shHo 19 3 ++ shHo 33 3 ++ shSi 47 ++ shSh 52 8 ++ shSh 126 2))) (hU base) s.heap (fShelf (fShelf f0 52 8) 126 2) H locs := by first | exact hw | (rw [hT_push] at hw; exact hw)
  refine lv_iconst (v := 0) hx hb dX7_init_103 (by decide) ?_
  refine lv_istore_n (lv' := [(1, .int 0), (0, .ref (hB base 0))]) hx hb dX7_init_104 rfl hl (by decide) rfl (fun ls hl => ?_)
  refine W.cs (cells' := 145) (slots' := 2115) rfl rfl ?_
  exact key 75 0 rfl fPW0 H locs ls hw (lv_sub hl [1, 0] rfl) h
