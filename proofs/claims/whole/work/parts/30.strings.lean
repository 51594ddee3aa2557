/-! the first text: String.length, String.charAt over the one literal -/
def txB : List Int32 := [109, 48, 44, 49, 50, 44, 53, 59, 109, 49, 44, 52, 48, 44, 50, 59, 109, 50, 44, 48, 44, 53, 48, 59, 119, 48, 44, 51, 44, 56, 59, 119, 49, 44, 51, 48, 44, 49, 50, 59, 119, 50, 44, 48, 44, 54, 48, 59, 119, 48, 44, 57, 44, 50, 48, 59, 112, 48, 44, 50, 59, 112, 49, 44, 51, 59, 112, 50, 44, 53, 59, 108, 51, 48, 59]
theorem txB_len : txB.length = 75 := by decide +kernel
def SIO : String := "SIOOBE_FORMATTER"
/-- the literal at q, its bytes at v, the two statics -/
def hSt (A : Nat → Prop) (q v : Nat) (w : Option Nat) (U : State) (H : Heap) : Prop :=
  va_O "java/lang/String" q A U H ∧ va_OF "java/lang/String" "coder" "B" (.int 0) q A U H ∧ va_OF "java/lang/String" "value" "[B" (.ref v) q A U H ∧ va_T .byte v 75 (fun j => .int (txB.getD j 0)) A U H ∧ va_Z "java/lang/String" "COMPACT_STRINGS" "Z" (.int 1) A U H ∧ va_Z "jdk/internal/util/Preconditions" "SIOOBE_FORMATTER" "Ljava/util/function/BiFunction;" (va_rf w) A U H
theorem hSt_moved {A : Nat → Prop} {q v : Nat} {w : Option Nat} {u U : State} {H : Heap} (hvm : u.vm.Alike U.vm) (h : hSt A q v w u H) : hSt A q v w U H :=
  ⟨va_O.moved hvm h.1, va_OF.moved hvm h.2.1, va_OF.moved hvm h.2.2.1, va_T.moved hvm h.2.2.2.1, va_Z.moved hvm h.2.2.2.2.1, va_Z.moved hvm h.2.2.2.2.2⟩
theorem hSt_kept {A : Nat → Prop} {q v : Nat} {w : Option Nat} {U : State} {H H1 : Heap} (h : hSt A q v w U H) (hq : ∀ a : Nat, a < H.size → ¬ A a → H1[a]? = H[a]?) : hSt A q v w U H1 :=
  ⟨h.1.kept hq, h.2.1.kept hq, h.2.2.1.kept hq, h.2.2.2.1.kept hq, h.2.2.2.2.1.kept hq, h.2.2.2.2.2.kept hq⟩
theorem hSt_no {A : Nat → Prop} {q v : Nat} {w : Option Nat} {U : State} {H : Heap} (h : hSt A q v w U H) : hSt hNo q v w U H :=
  ⟨h.1.narrow (fun _ z => z.elim), h.2.1.narrow (fun _ z => z.elim), h.2.2.1.narrow (fun _ z => z.elim), h.2.2.2.1.narrow (fun _ z => z.elim), h.2.2.2.2.1.narrow (fun _ z => z.elim), h.2.2.2.2.2.narrow (fun _ z => z.elim)⟩
def sPc (q v : Nat) (w : Option Nat) (av : List Value) : Array Value → State → Prop := va_Pc av (fun U => hSt hNo q v w U U.heap)
def hRv : Array Value → State → Outcome → State → Prop := fun _ st o t => o = .returned none ∧ t.heap = st.heap
section HS
variable {p : Program} {l : Launch} {e : Env} {R : Room} {s : State} {m : MethodId} {args : Array Value} {below : List Frame} {meth : Method} {c : Code} {H : Heap} {locs : List Loc} {cells slots : Nat} {Q : State → Prop}
variable {cc : ByteArray} {pc : Nat} {ls : Array Slot} {rest : List Value} {q v : Nat} {w : Option Nat}
theorem h_callRv {st0 : List Value} {a : Array Value} (hr : va_Run p l e R s m args below meth c H locs cells slots 0 0 (F0 m pc ls st0) rest (hRv a) hNo)
    (kk : W p l e R s m args below meth c H locs cells slots Q (F0 m (pc + 3) ls rest)) : W p l e R s m args below meth c H locs cells slots Q (F0 m pc ls st0) := by
  intro T hT X
  obtain ⟨v, st₀, t, T', L, h0, X', hL, e1, e2, ⟨hv, hh⟩, st⟩ := hr T hT X
  cases hv
  obtain ⟨t2, a1, b1⟩ := kk T' (by rw [e1, hh, h0]) (Stand.forget X' (fun q h => (hL q h).elim))
  exact ⟨t2, st t2 a1, b1⟩
theorem s_bl {av : List Value} : FrameBlind (sPc q v w av) := fun a U g mk z => ⟨z.1, hSt_moved (u := U) (U := U.calling g mk a) (Vm.Alike.refl U.vm) z.2⟩
theorem s_preS (hZ : hSt hNo q v w s H) (As : List Value) : PreS s H (sPc q v w As) As :=
  ⟨s_bl, fun U hU hW => ⟨rfl, by subst hU; exact hSt_moved hW.alike hZ⟩⟩
theorem s_preV (hZ : hSt hNo q v w s H) (As : List Value) : PreV s H "java/lang/String" q (sPc q v w (.ref q :: As)) As :=
  ⟨s_bl, by obtain ⟨cell, h1, h2, h3, -⟩ := hZ.1; exact ⟨cell, h1, h2, h3⟩, (s_preS hZ _).2⟩
theorem h_retRv (hexec : p.tables.exec = Jvm.exec) (hb : c.code = cc) (hr : meth.sig.returnType = none) (hlocks : meth.locks = false) {pc : Nat} {ls : Array Slot} (hdg : decode cc pc = .ok (.return_, 1)) : W p l e R s m args below meth c s.heap [] cells slots (MQ below hRv args s cells slots hNo) (F0 m pc ls []) :=
  W.vret hexec hb hr (fun t ht hW => ⟨rfl, ht⟩) (fun q h => by cases h) hdg hlocks
end HS
theorem s_enter {l : Launch} {y : MethodName} {ws ws' : List Cond} {rm : Room} {q v : Nat} {w : Option Nat} {av : List Value} {Qc : Array Value → State → Outcome → State → Prop} {free : Addr → Prop} {cc : ByteArray} {maxL : Nat} {ret : Option FieldType} {C : String}
    (hy : plainName y.cls = true) (hC : y.cls = C) (hw : ws = Cond.code y cc maxL ret :: ws') (hav : (lg_sl av).length ≤ maxL) {lv : List (Nat × Value)} (hlv : lv_args 0 av = lv)
    (body : ∀ (p : Program) (e : Env) (s : State) (m : MethodId) (below : List Frame) (meth : Method) (c : Code) (ls : Array Slot), p.tables.exec = Jvm.exec → c.code = cc → c.maxLocals = maxL → meth.sig.returnType = ret → meth.locks = false → s.vm.findClass C = some m.cls → (∀ w ∈ ws, w.before av.toArray s = true) → hSt hNo q v w s s.heap → lv_has ls maxL lv →
      W p l e rm s m av.toArray below meth c s.heap [] 0 0 (MQ below Qc av.toArray s 0 0 free) (F0 m 0 ls [])) : Met l y ws rm (sPc q v w av) Qc 0 0 free := by
  subst hC; subst hlv
  refine Met.ofW (cc := cc) (maxL := maxL) (ret := ret) hy hw ?_
  intro p e s m args below meth c s₁ B hml hv
  obtain ⟨rfl, hZ⟩ := hv
  have hl := lv_entry av (n := maxL) hav
  rw [lg_entry_eq]
  exact body p e s m below meth c _ B.exec B.bytes hml B.returns B.notSynchronized (findClass_of_methodNamed B.named) (atoms_spec (ws := ws) B.pre) hZ hl
theorem sd_1 : Cond.fieldLink RJ0 38 "java/lang/String" "COMPACT_STRINGS" "Z" ∈ wsJ0_coder_7d493 := by decide +kernel
theorem sd_2 : Cond.fieldLink RJ0 15 "java/lang/String" "coder" "B" ∈ wsJ0_coder_7d493 := by decide +kernel
theorem sd_3 : Cond.fieldLink RJ0 38 "java/lang/String" "COMPACT_STRINGS" "Z" ∈ wsJ0_isLatin1_aae02 := by decide +kernel
theorem sd_4 : Cond.fieldLink RJ0 15 "java/lang/String" "coder" "B" ∈ wsJ0_isLatin1_aae02 := by decide +kernel
theorem sd_5 : Cond.fieldLink RJ0 9 "java/lang/String" "value" "[B" ∈ wsJ0_length_8abf5 := by decide +kernel
theorem sd_6 : Cond.fieldLink RJ0 9 "java/lang/String" "value" "[B" ∈ wsJ0_charAt_5068e := by decide +kernel
theorem sd_7 : Cond.fieldLink RJ0 1053 "jdk/internal/util/Preconditions" "SIOOBE_FORMATTER" "Ljava/util/function/BiFunction;" ∈ wsJ0_checkIndex_df160 := by decide +kernel
set_option maxHeartbeats 4000000 in
set_option maxRecDepth 100000 in
theorem mJ0_coder (l : Launch) (q v : Nat) (w : Option Nat) : Met l yJ0_coder_7d493 wsJ0_coder_7d493 ({ frames := 0, cells := 0, slots := 0, locals := 0 }) (sPc q v w [.ref q]) (hRi 0) 0 0 hNo := by
  refine s_enter (C := RJ0) (cc := cJ0_coder_7d493) (maxL := 1) (ret := (some .byte)) (lv := [(0, .ref q)]) (by decide) rfl rfl (Nat.le_of_ble_eq_true rfl) rfl (fun p e s m below meth c ls hx hb hml hr hlocks hown hts hZ hl => ?_)
  refine va_gets hx hb hZ.2.2.2.2.1 va_S.rf hown (hts _ sd_1) (fun _ h => h) dJ0_coder_7d493_0 ?_
  refine lv_if_eq (tgt := 13) hx hb dJ0_coder_7d493_3 (by decide) (fun hc => absurd hc (by decide)) (fun _ => ?_)
  refine lv_aload_n hx hb dJ0_coder_7d493_6 rfl (lv_at hl 0 rfl) ?_
  refine vk_getf hx hb hZ.2.1 va_S.rf hown (hts _ sd_2) (fun _ h => h) dJ0_coder_7d493_7 ?_
  refine lv_goto (tgt := 14) hx hb dJ0_coder_7d493_10 (by decide) ?_
  exact h_retR hx hb hr hlocks rfl rfl dJ0_coder_7d493_14
set_option maxHeartbeats 4000000 in
set_option maxRecDepth 100000 in
theorem mJ0_isLatin1 (l : Launch) (q v : Nat) (w : Option Nat) : Met l yJ0_isLatin1_aae02 wsJ0_isLatin1_aae02 ({ frames := 0, cells := 0, slots := 0, locals := 0 }) (sPc q v w [.ref q]) (hRi 1) 0 0 hNo := by
  refine s_enter (C := RJ0) (cc := cJ0_isLatin1_aae02) (maxL := 1) (ret := (some .boolean)) (lv := [(0, .ref q)]) (by decide) rfl rfl (Nat.le_of_ble_eq_true rfl) rfl (fun p e s m below meth c ls hx hb hml hr hlocks hown hts hZ hl => ?_)
  refine va_gets hx hb hZ.2.2.2.2.1 va_S.rf hown (hts _ sd_3) (fun _ h => h) dJ0_isLatin1_aae02_0 ?_
  refine lv_if_eq (tgt := 17) hx hb dJ0_isLatin1_aae02_3 (by decide) (fun hc => absurd hc (by decide)) (fun _ => ?_)
  refine lv_aload_n hx hb dJ0_isLatin1_aae02_6 rfl (lv_at hl 0 rfl) ?_
  refine vk_getf hx hb hZ.2.1 va_S.rf hown (hts _ sd_4) (fun _ h => h) dJ0_isLatin1_aae02_7 ?_
  refine lv_if_ne (tgt := 17) hx hb dJ0_isLatin1_aae02_10 (by decide) (fun hc => absurd rfl hc) (fun _ => ?_)
  refine lv_iconst (v := 1) hx hb dJ0_isLatin1_aae02_13 (by decide) ?_
  refine lv_goto (tgt := 18) hx hb dJ0_isLatin1_aae02_14 (by decide) ?_
  exact h_retR hx hb hr hlocks rfl rfl dJ0_isLatin1_aae02_18
set_option maxHeartbeats 4000000 in
set_option maxRecDepth 100000 in
theorem mJ0_length (l : Launch) (q v : Nat) (w : Option Nat) : Met l yJ0_length_8abf5 wsJ0_length_8abf5 ({ frames := 1, cells := 0, slots := 0, locals := 20 }) (sPc q v w [.ref q]) (hRi 75) 0 0 hNo := by
  refine s_enter (C := RJ0) (cc := cJ0_length_8abf5) (maxL := 1) (ret := (some .int)) (lv := [(0, .ref q)]) (by decide) rfl rfl (Nat.le_of_ble_eq_true rfl) rfl (fun p e s m below meth c ls hx hb hml hr hlocks hown hts hZ hl => ?_)
  refine lv_aload_n hx hb dJ0_length_8abf5_0 rfl (lv_at hl 0 rfl) ?_
  refine vk_getf hx hb hZ.2.2.1 va_S.rf hown (hts _ sd_5) (fun _ h => h) dJ0_length_8abf5_1 ?_
  refine va_tlen hx hb hZ.2.2.2.1 va_S.rf (v := 75) rfl dJ0_length_8abf5_4 ?_
  refine lv_aload_n hx hb dJ0_length_8abf5_5 rfl (lv_at hl 0 rfl) ?_
  refine h_callR (va_runV (As := []) (rest := [.int 75]) ⟨hx, hb, hml, hown, hts⟩ (mJ0_coder l q v w) (cwV 0 hts gJ0_length_8abf5_J0_coder_7d493 rfl rfl rfl (by decide +kernel) ⟨Nat.le_of_ble_eq_true rfl, Nat.le_of_ble_eq_true rfl⟩) (s_preV hZ _) rfl rfl hl.1 rfl (lv_room (Nat.le_of_ble_eq_true rfl)) dJ0_length_8abf5_6 ⟨Nat.le_of_ble_eq_true rfl, Nat.le_of_ble_eq_true rfl⟩) ?_
  refine lv_ishr hx hb dJ0_length_8abf5_9 ?_
  exact h_retR hx hb hr hlocks rfl (by decide) dJ0_length_8abf5_10
set_option maxHeartbeats 4000000 in
set_option maxRecDepth 100000 in
theorem mJ3_checkIndex (l : Launch) (q v : Nat) (w : Option Nat) (i : Nat) (hi : i < 75) : Met l yJ3_checkIndex_8e157 wsJ3_checkIndex_8e157 ({ frames := 0, cells := 0, slots := 0, locals := 0 }) (sPc q v w [.int (nI i), .int 75, va_rf w]) (hRi (nI i)) 0 0 hNo := by
  have hav : (lg_sl [.int (nI i), .int 75, va_rf w]).length ≤ 3 := by cases w <;> exact Nat.le_of_ble_eq_true rfl
  have hlv : lv_args 0 [.int (nI i), .int 75, va_rf w] = [(0, .int (nI i)), (1, .int 75), (2, va_rf w)] := by cases w <;> rfl
  refine s_enter (C := RJ3) (cc := cJ3_checkIndex_8e157) (maxL := 3) (ret := (some .int)) (lv := [(0, .int (nI i)), (1, .int 75), (2, va_rf w)]) (by decide) rfl rfl hav hlv (fun p e s m below meth c ls hx hb hml hr hlocks hown hts hZ hl => ?_)
  refine lv_iload_n hx hb dJ3_checkIndex_8e157_0 rfl (lv_at hl 0 rfl) ?_
  refine lv_if_lt (tgt := 9) hx hb dJ3_checkIndex_8e157_1 (by decide) (fun hc => absurd hc (nI_pos (by omega))) (fun _ => ?_)
  refine lv_iload_n hx hb dJ3_checkIndex_8e157_4 rfl (lv_at hl 0 rfl) ?_
  refine lv_iload_n hx hb dJ3_checkIndex_8e157_5 rfl (lv_at hl 1 rfl) ?_
  refine lv_icmp_lt (tgt := 16) hx hb dJ3_checkIndex_8e157_6 (by decide) (fun _ => ?_) (fun hc => absurd (show nI i < nI 75 from nI_lt hi (by omega)) hc)
  refine lv_iload_n hx hb dJ3_checkIndex_8e157_16 rfl (lv_at hl 0 rfl) ?_
  exact h_retR hx hb hr hlocks rfl rfl dJ3_checkIndex_8e157_17
set_option maxHeartbeats 4000000 in
set_option maxRecDepth 100000 in
theorem mJ0_checkIndex (l : Launch) (q v : Nat) (w : Option Nat) (i : Nat) (hi : i < 75) : Met l yJ0_checkIndex_df160 wsJ0_checkIndex_df160 ({ frames := 1, cells := 0, slots := 0, locals := 22 }) (sPc q v w [.int (nI i), .int 75]) hRv 0 0 hNo := by
  refine s_enter (C := RJ0) (cc := cJ0_checkIndex_df160) (maxL := 2) (ret := none) (lv := [(0, .int (nI i)), (1, .int 75)]) (by decide) rfl rfl (Nat.le_of_ble_eq_true rfl) rfl (fun p e s m below meth c ls hx hb hml hr hlocks hown hts hZ hl => ?_)
  refine lv_iload_n hx hb dJ0_checkIndex_df160_0 rfl (lv_at hl 0 rfl) ?_
  refine lv_iload_n hx hb dJ0_checkIndex_df160_1 rfl (lv_at hl 1 rfl) ?_
  refine va_gets hx hb hZ.2.2.2.2.2 va_S.rf hown (hts _ sd_7) (fun _ h => h) dJ0_checkIndex_df160_2 ?_
  refine h_callR (va_runS (As := [.int (nI i), .int 75, va_rf w]) (rest := []) ⟨hx, hb, hml, hown, hts⟩ (mJ3_checkIndex l q v w i hi) (va_cwS 3 hts gJ0_checkIndex_df160_J3_checkIndex_8e157 rfl rfl rfl (by decide +kernel) ⟨Nat.le_of_ble_eq_true rfl, Nat.le_of_ble_eq_true rfl⟩) (s_preS hZ _) rfl rfl hl.1 rfl (lv_room (Nat.le_of_ble_eq_true rfl)) dJ0_checkIndex_df160_5 ⟨Nat.le_of_ble_eq_true rfl, Nat.le_of_ble_eq_true rfl⟩) ?_
  refine lv_pop hx hb dJ0_checkIndex_df160_8 rfl ?_
  exact h_retRv hx hb hr hlocks dJ0_checkIndex_df160_9
theorem tx_nar (b : Int32) : narrow .char (.int ((b &&& 255).toUInt32 % 65536).toInt32) = .int ((b &&& 255).toUInt32 % 65536).toInt32 := pk_nc _
def txC (i : Nat) : Int32 := ((txB.getD i 0 &&& 255).toUInt32 % 65536).toInt32
set_option maxHeartbeats 4000000 in
set_option maxRecDepth 100000 in
theorem mJ1_charAt (l : Launch) (q v : Nat) (w : Option Nat) (i : Nat) (hi : i < 75) : Met l yJ1_charAt_3b067 wsJ1_charAt_3b067 ({ frames := 2, cells := 0, slots := 0, locals := 43 }) (sPc q v w [.ref v, .int (nI i)]) (hRi (txC i)) 0 0 hNo := by
  refine s_enter (C := RJ1) (cc := cJ1_charAt_3b067) (maxL := 2) (ret := (some .char)) (lv := [(0, .ref v), (1, .int (nI i))]) (by decide) rfl rfl (Nat.le_of_ble_eq_true rfl) rfl (fun p e s m below meth c ls hx hb hml hr hlocks hown hts hZ hl => ?_)
  refine lv_iload_n hx hb dJ1_charAt_3b067_0 rfl (lv_at hl 1 rfl) ?_
  refine lv_aload_n hx hb dJ1_charAt_3b067_1 rfl (lv_at hl 0 rfl) ?_
  refine va_tlen hx hb hZ.2.2.2.1 va_S.rf (v := 75) rfl dJ1_charAt_3b067_2 ?_
  refine h_callRv (va_runS (As := [.int (nI i), .int 75]) (rest := []) ⟨hx, hb, hml, hown, hts⟩ (mJ0_checkIndex l q v w i hi) (va_cwS 2 hts gJ1_charAt_3b067_J0_checkIndex_df160 rfl rfl rfl (by decide +kernel) ⟨Nat.le_of_ble_eq_true rfl, Nat.le_of_ble_eq_true rfl⟩) (s_preS hZ _) rfl rfl hl.1 rfl (lv_room (Nat.le_of_ble_eq_true rfl)) dJ1_charAt_3b067_3 ⟨Nat.le_of_ble_eq_true rfl, Nat.le_of_ble_eq_true rfl⟩) ?_
  refine lv_aload_n hx hb dJ1_charAt_3b067_6 rfl (lv_at hl 0 rfl) ?_
  refine lv_iload_n hx hb dJ1_charAt_3b067_7 rfl (lv_at hl 1 rfl) ?_
  refine va_tb hx hb hZ.2.2.2.1 va_S.rf (vp_in_nI hi (by omega)) (v := .int (txB.getD i 0)) (by rw [nI_clamp (by omega)]) dJ1_charAt_3b067_8 ?_
  refine lv_sipush (v := 255) hx hb dJ1_charAt_3b067_9 (by decide) ?_
  refine lv_iand hx hb dJ1_charAt_3b067_12 ?_
  refine lv_i2c hx hb dJ1_charAt_3b067_13 rfl ?_
  exact h_retR hx hb hr hlocks (tx_nar _) rfl dJ1_charAt_3b067_14
set_option maxHeartbeats 4000000 in
set_option maxRecDepth 100000 in
theorem mJ0_charAt (l : Launch) (q v : Nat) (w : Option Nat) (i : Nat) (hi : i < 75) : Met l yJ0_charAt_5068e wsJ0_charAt_5068e ({ frames := 3, cells := 0, slots := 0, locals := 64 }) (sPc q v w [.ref q, .int (nI i)]) (hRi (txC i)) 0 0 hNo := by
  refine s_enter (C := RJ0) (cc := cJ0_charAt_5068e) (maxL := 2) (ret := (some .char)) (lv := [(0, .ref q), (1, .int (nI i))]) (by decide) rfl rfl (Nat.le_of_ble_eq_true rfl) rfl (fun p e s m below meth c ls hx hb hml hr hlocks hown hts hZ hl => ?_)
  refine lv_aload_n hx hb dJ0_charAt_5068e_0 rfl (lv_at hl 0 rfl) ?_
  refine h_callR (va_runV (As := []) (rest := []) ⟨hx, hb, hml, hown, hts⟩ (mJ0_isLatin1 l q v w) (cwV 0 hts gJ0_charAt_5068e_J0_isLatin1_aae02 rfl rfl rfl (by decide +kernel) ⟨Nat.le_of_ble_eq_true rfl, Nat.le_of_ble_eq_true rfl⟩) (s_preV hZ _) rfl rfl hl.1 rfl (lv_room (Nat.le_of_ble_eq_true rfl)) dJ0_charAt_5068e_1 ⟨Nat.le_of_ble_eq_true rfl, Nat.le_of_ble_eq_true rfl⟩) ?_
  refine lv_if_eq (tgt := 16) hx hb dJ0_charAt_5068e_4 (by decide) (fun hc => absurd hc (by decide)) (fun _ => ?_)
  refine lv_aload_n hx hb dJ0_charAt_5068e_7 rfl (lv_at hl 0 rfl) ?_
  refine vk_getf hx hb hZ.2.2.1 va_S.rf hown (hts _ sd_6) (fun _ h => h) dJ0_charAt_5068e_8 ?_
  refine lv_iload_n hx hb dJ0_charAt_5068e_11 rfl (lv_at hl 1 rfl) ?_
  refine h_callR (va_runS (As := [.ref v, .int (nI i)]) (rest := []) ⟨hx, hb, hml, hown, hts⟩ (mJ1_charAt l q v w i hi) (va_cwS 2 hts gJ0_charAt_5068e_J1_charAt_3b067 rfl rfl rfl (by decide +kernel) ⟨Nat.le_of_ble_eq_true rfl, Nat.le_of_ble_eq_true rfl⟩) (s_preS hZ _) rfl rfl hl.1 rfl (lv_room (Nat.le_of_ble_eq_true rfl)) dJ0_charAt_5068e_12 ⟨Nat.le_of_ble_eq_true rfl, Nat.le_of_ble_eq_true rfl⟩) ?_
  exact h_retR hx hb hr hlocks (tx_nar _) rfl dJ0_charAt_5068e_15
