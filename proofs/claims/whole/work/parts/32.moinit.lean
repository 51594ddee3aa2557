theorem shPW_len : shPW.length = 146 := by decide +kernel
def shAll : List hSh := shPW ++ (.inl (8, [none, rf 147, none, rf 148, none, rf 149, none, rf 150, none, rf 151, none, rf 152, rf 153, none, none, rf 154, none, rf 155, rf 156, none, rf 157, none, rf 158, rf 159, rf 160, rf 161, none]) :: ([.inr (0, 24), .inr (0, 6), .inr (0, 111), .inr (0, 888), .inr (0, 222), .inr (0, 24), .inr (0, 200), .inr (0, 3), .inr (0, 24), .inr (0, 8), .inr (0, 6), .inr (0, 111), .inr (2, 24), .inr (2, 24), .inr (0, 256)]))
set_option maxRecDepth 20000 in
theorem mo_ok : isMo shAll := ⟨by decide +kernel, by decide +kernel, by decide +kernel, by decide +kernel, by decide +kernel, by decide +kernel, by decide +kernel, by decide +kernel, by decide +kernel, by decide +kernel, by decide +kernel, by decide +kernel, by decide +kernel, by decide +kernel, by decide +kernel, by decide +kernel⟩
def fX8_init (f : hF) : Option hF :=
  b1 (fX8_clearTold f) fun f1 =>
  b1 (fX8_tellsPerson f1 (0 : Int32) (0 : Int32) (12 : Int32) (5 : Int32)) fun f2 =>
  b1 (fX8_tellsPerson f2 (0 : Int32) (1 : Int32) (40 : Int32) (2 : Int32)) fun f3 =>
  b1 (fX8_tellsPerson f3 (0 : Int32) (2 : Int32) (0 : Int32) (50 : Int32)) fun f4 =>
  b1 (fX8_tellsPerson f4 (1 : Int32) (0 : Int32) (3 : Int32) (8 : Int32)) fun f5 =>
  b1 (fX8_tellsPerson f5 (1 : Int32) (1 : Int32) (30 : Int32) (12 : Int32)) fun f6 =>
  b1 (fX8_tellsPerson f6 (1 : Int32) (2 : Int32) (0 : Int32) (60 : Int32)) fun f7 =>
  b1 (fX8_tellsPerson f7 (1 : Int32) (0 : Int32) (9 : Int32) (20 : Int32)) fun f8 =>
  b1 (fX8_tellsParson f8 (0 : Int32) (2 : Int32)) fun f9 =>
  b1 (fX8_tellsParson f9 (1 : Int32) (3 : Int32)) fun f10 =>
  b1 (fX8_tellsParson f10 (2 : Int32) (5 : Int32)) fun f11 =>
  lt (st2 f11 146 21 30) fun f12 =>
  b1 (fX8_settles f12) fun f13 =>
  some f13
theorem hdX8_init_oi1 : Cond.methodLink RX8 1 objectInit ∈ wsX8_init := by decide +kernel
theorem hdX8_init_oi2 : Cond.instanceMethod objectInit ∈ wsX8_init := by decide +kernel
theorem hdX8_init_oi3 : Cond.code objectInit ⟨#[0xb1]⟩ 1 none ∈ wsX8_init := by decide +kernel
theorem hdX8_init_aint : Cond.arrayClass .int ∈ wsX8_init := by decide +kernel
theorem hnX8_init_X8 : ∀ w ∈ wsX80, w ∈ wsX8_init := by decide +kernel
theorem hkX8_init_7 : Cond.fieldLink RX8 7 (TX8 1).1 (TX8 1).2.1 (TX8 1).2.2.1 ∈ wsX8_init := by decide +kernel
theorem hkX8_init_13 : Cond.fieldLink RX8 13 (TX8 3).1 (TX8 3).2.1 (TX8 3).2.2.1 ∈ wsX8_init := by decide +kernel
theorem hkX8_init_16 : Cond.fieldLink RX8 16 (TX8 5).1 (TX8 5).2.1 (TX8 5).2.2.1 ∈ wsX8_init := by decide +kernel
theorem hkX8_init_19 : Cond.fieldLink RX8 19 (TX8 7).1 (TX8 7).2.1 (TX8 7).2.2.1 ∈ wsX8_init := by decide +kernel
theorem hkX8_init_22 : Cond.fieldLink RX8 22 (TX8 9).1 (TX8 9).2.1 (TX8 9).2.2.1 ∈ wsX8_init := by decide +kernel
theorem hkX8_init_25 : Cond.fieldLink RX8 25 (TX8 11).1 (TX8 11).2.1 (TX8 11).2.2.1 ∈ wsX8_init := by decide +kernel
theorem hkX8_init_28 : Cond.fieldLink RX8 28 (TX8 12).1 (TX8 12).2.1 (TX8 12).2.2.1 ∈ wsX8_init := by decide +kernel
theorem hkX8_init_31 : Cond.fieldLink RX8 31 (TX8 15).1 (TX8 15).2.1 (TX8 15).2.2.1 ∈ wsX8_init := by decide +kernel
theorem hkX8_init_34 : Cond.fieldLink RX8 34 (TX8 17).1 (TX8 17).2.1 (TX8 17).2.2.1 ∈ wsX8_init := by decide +kernel
theorem hkX8_init_37 : Cond.fieldLink RX8 37 (TX8 18).1 (TX8 18).2.1 (TX8 18).2.2.1 ∈ wsX8_init := by decide +kernel
theorem hkX8_init_40 : Cond.fieldLink RX8 40 (TX8 20).1 (TX8 20).2.1 (TX8 20).2.2.1 ∈ wsX8_init := by decide +kernel
theorem hkX8_init_43 : Cond.fieldLink RX8 43 (TX8 22).1 (TX8 22).2.1 (TX8 22).2.2.1 ∈ wsX8_init := by decide +kernel
theorem hdX8_init_aboolean : Cond.arrayClass .boolean ∈ wsX8_init := by decide +kernel
theorem hkX8_init_46 : Cond.fieldLink RX8 46 (TX8 23).1 (TX8 23).2.1 (TX8 23).2.2.1 ∈ wsX8_init := by decide +kernel
theorem hkX8_init_50 : Cond.fieldLink RX8 50 (TX8 24).1 (TX8 24).2.1 (TX8 24).2.2.1 ∈ wsX8_init := by decide +kernel
theorem hkX8_init_53 : Cond.fieldLink RX8 53 (TX8 25).1 (TX8 25).2.1 (TX8 25).2.2.1 ∈ wsX8_init := by decide +kernel
theorem hkX8_init_67 : Cond.fieldLink RX8 67 (TX8 21).1 (TX8 21).2.1 (TX8 21).2.2.1 ∈ wsX8_init := by decide +kernel
set_option maxHeartbeats 16000000 in
set_option maxRecDepth 100000 in
theorem nX8_init (l : Launch) (D : va_G) (ac : Nat → ClassId) (base : Nat) (f : hF) (hf : ∀ j, 146 ≤ j → f j = fun _ => 0) (gv : hF) (h : fX8_init f = some gv) : Met l yX8_init wsX8_init ({ frames := 2, cells := 15, slots := 1931, locals := 46 }) (nPc D ac base (shPW ++ [.inl (8, [none, some none, none, some none, none, some none, none, some none, none, some none, none, some none, some none, none, none, some none, none, some none, some none, none, some none, none, some none, some none, some none, some none, none])]) f [.ref (hB base 146)]) (nQv D ac base shAll gv) 15 1931 (hU base) := by
  refine n_enter (C := RX8) (cc := cX8_init) (maxL := 1) (ret := none) (lv := [(0, .ref (hB base 146))]) (by decide) rfl rfl rfl (Nat.le_of_ble_eq_true rfl) rfl (fun p e s m below meth c ls hx hb hml hr hlocks hin hN hown hts hK h0 hw hl => ?_)
  have hT : shPW.length = 146 := shPW_len
  refine lv_aload_n hx hb dX8_init_0 rfl (lv_at hl 0 rfl) ?_
  refine W.objInit hx hb hown (hts _ hdX8_init_oi1) (hts _ hdX8_init_oi2) (hts _ hdX8_init_oi3) rfl (by rw [hml]; exact hl.1) rfl dX8_init_1 (Nat.le_of_ble_eq_true rfl) (Nat.le_of_ble_eq_true rfl) ?_
  refine W.eq (g2 := F0 m 4 ls []) rfl ?_
  refine lv_aload_n hx hb dX8_init_4 rfl (lv_at hl 0 rfl) ?_
  refine lv_bipush (v := 24) hx hb dX8_init_5 (by decide) ?_
  refine n_size h0 hw (by simp only [List.length_append, List.length_cons, List.length_nil, shBk, shHd, shHo, shRo, shSc, shSi, hT, shPW_len] <;> omega) (by simp only [List.length_append, List.length_cons, List.length_nil, shBk, shHd, shHo, shRo, shSc, shSi, hT, shPW_len] <;> omega) (fun hsz => ?_)
  refine n_newa (atype := .int) hx hb (hts _ hdX8_init_aint) (ty := .int) rfl 0 rfl (fun C h => by cases h) (fun n => rfl) rfl hK hw (N := 147) (by simp only [List.length_append, List.length_cons, List.length_nil, shBk, shHd, shHo, shRo, shSc, shSi, hT, shPW_len] <;> omega) hsz (hf _ (by omega)) (n := 24) (N' := 24) (by decide) (by decide) (Nat.le_of_ble_eq_true rfl) (Nat.le_of_ble_eq_true rfl) (Nat.le_of_ble_eq_true rfl) dX8_init_7 (fun H hw => ?_)
  have hw : hOk D ac (hB base) (shPW ++ (.inl (8, [none, some none, none, some none, none, some none, none, some none, none, some none, none, some none, some none, none, none, some none, none, some none, some none, none, some none, none, some none, some none, some none, some none, none]) :: ([.inr (0, 24)]))) (hU base) s.heap f H [] := by first | exact hw | (rw [hT_push] at hw; exact hw)
  refine n_putF (t := 147) (ty := tyX8 1) hx hb hts hnX8_init_X8 tyX8 tyX8_ok nmX8 hown hK hT hw rfl 1 (by decide) (Nat.le_of_ble_eq_true rfl) rfl hkX8_init_7 rfl hin rfl (tyX8_ok 1 (by decide)) rfl rfl dX8_init_9 (fun H locs hw => ?_)
  have hw : hOk D ac (hB base) (shPW ++ (.inl (8, [none, rf 147, none, some none, none, some none, none, some none, none, some none, none, some none, some none, none, none, some none, none, some none, some none, none, some none, none, some none, some none, some none, some none, none]) :: ([.inr (0, 24)]))) (hU base) s.heap f H locs := by first | exact hw | (rw [hT_push] at hw; exact hw)
  refine lv_aload_n hx hb dX8_init_12 rfl (lv_at hl 0 rfl) ?_
  refine lv_bipush (v := 6) hx hb dX8_init_13 (by decide) ?_
  refine n_size h0 hw (by simp only [List.length_append, List.length_cons, List.length_nil, shBk, shHd, shHo, shRo, shSc, shSi, hT, shPW_len] <;> omega) (by simp only [List.length_append, List.length_cons, List.length_nil, shBk, shHd, shHo, shRo, shSc, shSi, hT, shPW_len] <;> omega) (fun hsz => ?_)
  refine n_newa (atype := .int) hx hb (hts _ hdX8_init_aint) (ty := .int) rfl 0 rfl (fun C h => by cases h) (fun n => rfl) rfl hK hw (N := 148) (by simp only [List.length_append, List.length_cons, List.length_nil, shBk, shHd, shHo, shRo, shSc, shSi, hT, shPW_len] <;> omega) hsz (hf _ (by omega)) (n := 6) (N' := 6) (by decide) (by decide) (Nat.le_of_ble_eq_true rfl) (Nat.le_of_ble_eq_true rfl) (Nat.le_of_ble_eq_true rfl) dX8_init_15 (fun H hw => ?_)
  have hw : hOk D ac (hB base) (shPW ++ (.inl (8, [none, rf 147, none, some none, none, some none, none, some none, none, some none, none, some none, some none, none, none, some none, none, some none, some none, none, some none, none, some none, some none, some none, some none, none]) :: ([.inr (0, 24), .inr (0, 6)]))) (hU base) s.heap f H locs := by first | exact hw | (rw [hT_push] at hw; exact hw)
  refine n_putF (t := 148) (ty := tyX8 3) hx hb hts hnX8_init_X8 tyX8 tyX8_ok nmX8 hown hK hT hw rfl 3 (by decide) (Nat.le_of_ble_eq_true rfl) rfl hkX8_init_13 rfl hin rfl (tyX8_ok 3 (by decide)) rfl rfl dX8_init_17 (fun H locs hw => ?_)
  have hw : hOk D ac (hB base) (shPW ++ (.inl (8, [none, rf 147, none, rf 148, none, some none, none, some none, none, some none, none, some none, some none, none, none, some none, none, some none, some none, none, some none, none, some none, some none, some none, some none, none]) :: ([.inr (0, 24), .inr (0, 6)]))) (hU base) s.heap f H locs := by first | exact hw | (rw [hT_push] at hw; exact hw)
  refine lv_aload_n hx hb dX8_init_20 rfl (lv_at hl 0 rfl) ?_
  refine lv_bipush (v := 111) hx hb dX8_init_21 (by decide) ?_
  refine n_size h0 hw (by simp only [List.length_append, List.length_cons, List.length_nil, shBk, shHd, shHo, shRo, shSc, shSi, hT, shPW_len] <;> omega) (by simp only [List.length_append, List.length_cons, List.length_nil, shBk, shHd, shHo, shRo, shSc, shSi, hT, shPW_len] <;> omega) (fun hsz => ?_)
  refine n_newa (atype := .int) hx hb (hts _ hdX8_init_aint) (ty := .int) rfl 0 rfl (fun C h => by cases h) (fun n => rfl) rfl hK hw (N := 149) (by simp only [List.length_append, List.length_cons, List.length_nil, shBk, shHd, shHo, shRo, shSc, shSi, hT, shPW_len] <;> omega) hsz (hf _ (by omega)) (n := 111) (N' := 111) (by decide) (by decide) (Nat.le_of_ble_eq_true rfl) (Nat.le_of_ble_eq_true rfl) (Nat.le_of_ble_eq_true rfl) dX8_init_23 (fun H hw => ?_)
  have hw : hOk D ac (hB base) (shPW ++ (.inl (8, [none, rf 147, none, rf 148, none, some none, none, some none, none, some none, none, some none, some none, none, none, some none, none, some none, some none, none, some none, none, some none, some none, some none, some none, none]) :: ([.inr (0, 24), .inr (0, 6), .inr (0, 111)]))) (hU base) s.heap f H locs := by first | exact hw | (rw [hT_push] at hw; exact hw)
  refine n_putF (t := 149) (ty := tyX8 5) hx hb hts hnX8_init_X8 tyX8 tyX8_ok nmX8 hown hK hT hw rfl 5 (by decide) (Nat.le_of_ble_eq_true rfl) rfl hkX8_init_16 rfl hin rfl (tyX8_ok 5 (by decide)) rfl rfl dX8_init_25 (fun H locs hw => ?_)
  have hw : hOk D ac (hB base) (shPW ++ (.inl (8, [none, rf 147, none, rf 148, none, rf 149, none, some none, none, some none, none, some none, some none, none, none, some none, none, some none, some none, none, some none, none, some none, some none, some none, some none, none]) :: ([.inr (0, 24), .inr (0, 6), .inr (0, 111)]))) (hU base) s.heap f H locs := by first | exact hw | (rw [hT_push] at hw; exact hw)
  refine lv_aload_n hx hb dX8_init_28 rfl (lv_at hl 0 rfl) ?_
  refine lv_sipush (v := 888) hx hb dX8_init_29 (by decide) ?_
  refine n_size h0 hw (by simp only [List.length_append, List.length_cons, List.length_nil, shBk, shHd, shHo, shRo, shSc, shSi, hT, shPW_len] <;> omega) (by simp only [List.length_append, List.length_cons, List.length_nil, shBk, shHd, shHo, shRo, shSc, shSi, hT, shPW_len] <;> omega) (fun hsz => ?_)
  refine n_newa (atype := .int) hx hb (hts _ hdX8_init_aint) (ty := .int) rfl 0 rfl (fun C h => by cases h) (fun n => rfl) rfl hK hw (N := 150) (by simp only [List.length_append, List.length_cons, List.length_nil, shBk, shHd, shHo, shRo, shSc, shSi, hT, shPW_len] <;> omega) hsz (hf _ (by omega)) (n := 888) (N' := 888) (by decide) (by decide) (Nat.le_of_ble_eq_true rfl) (Nat.le_of_ble_eq_true rfl) (Nat.le_of_ble_eq_true rfl) dX8_init_32 (fun H hw => ?_)
  have hw : hOk D ac (hB base) (shPW ++ (.inl (8, [none, rf 147, none, rf 148, none, rf 149, none, some none, none, some none, none, some none, some none, none, none, some none, none, some none, some none, none, some none, none, some none, some none, some none, some none, none]) :: ([.inr (0, 24), .inr (0, 6), .inr (0, 111), .inr (0, 888)]))) (hU base) s.heap f H locs := by first | exact hw | (rw [hT_push] at hw; exact hw)
  refine n_putF (t := 150) (ty := tyX8 7) hx hb hts hnX8_init_X8 tyX8 tyX8_ok nmX8 hown hK hT hw rfl 7 (by decide) (Nat.le_of_ble_eq_true rfl) rfl hkX8_init_19 rfl hin rfl (tyX8_ok 7 (by decide)) rfl rfl dX8_init_34 (fun H locs hw => ?_)
  have hw : hOk D ac (hB base) (shPW ++ (.inl (8, [none, rf 147, none, rf 148, none, rf 149, none, rf 150, none, some none, none, some none, some none, none, none, some none, none, some none, some none, none, some none, none, some none, some none, some none, some none, none]) :: ([.inr (0, 24), .inr (0, 6), .inr (0, 111), .inr (0, 888)]))) (hU base) s.heap f H locs := by first | exact hw | (rw [hT_push] at hw; exact hw)
  refine lv_aload_n hx hb dX8_init_37 rfl (lv_at hl 0 rfl) ?_
  refine lv_sipush (v := 222) hx hb dX8_init_38 (by decide) ?_
  refine n_size h0 hw (by simp only [List.length_append, List.length_cons, List.length_nil, shBk, shHd, shHo, shRo, shSc, shSi, hT, shPW_len] <;> omega) (by simp only [List.length_append, List.length_cons, List.length_nil, shBk, shHd, shHo, shRo, shSc, shSi, hT, shPW_len] <;> omega) (fun hsz => ?_)
  refine n_newa (atype := .int) hx hb (hts _ hdX8_init_aint) (ty := .int) rfl 0 rfl (fun C h => by cases h) (fun n => rfl) rfl hK hw (N := 151) (by simp only [List.length_append, List.length_cons, List.length_nil, shBk, shHd, shHo, shRo, shSc, shSi, hT, shPW_len] <;> omega) hsz (hf _ (by omega)) (n := 222) (N' := 222) (by decide) (by decide) (Nat.le_of_ble_eq_true rfl) (Nat.le_of_ble_eq_true rfl) (Nat.le_of_ble_eq_true rfl) dX8_init_41 (fun H hw => ?_)
  have hw : hOk D ac (hB base) (shPW ++ (.inl (8, [none, rf 147, none, rf 148, none, rf 149, none, rf 150, none, some none, none, some none, some none, none, none, some none, none, some none, some none, none, some none, none, some none, some none, some none, some none, none]) :: ([.inr (0, 24), .inr (0, 6), .inr (0, 111), .inr (0, 888), .inr (0, 222)]))) (hU base) s.heap f H locs := by first | exact hw | (rw [hT_push] at hw; exact hw)
  refine n_putF (t := 151) (ty := tyX8 9) hx hb hts hnX8_init_X8 tyX8 tyX8_ok nmX8 hown hK hT hw rfl 9 (by decide) (Nat.le_of_ble_eq_true rfl) rfl hkX8_init_22 rfl hin rfl (tyX8_ok 9 (by decide)) rfl rfl dX8_init_43 (fun H locs hw => ?_)
  have hw : hOk D ac (hB base) (shPW ++ (.inl (8, [none, rf 147, none, rf 148, none, rf 149, none, rf 150, none, rf 151, none, some none, some none, none, none, some none, none, some none, some none, none, some none, none, some none, some none, some none, some none, none]) :: ([.inr (0, 24), .inr (0, 6), .inr (0, 111), .inr (0, 888), .inr (0, 222)]))) (hU base) s.heap f H locs := by first | exact hw | (rw [hT_push] at hw; exact hw)
  refine lv_aload_n hx hb dX8_init_46 rfl (lv_at hl 0 rfl) ?_
  refine lv_bipush (v := 24) hx hb dX8_init_47 (by decide) ?_
  refine n_size h0 hw (by simp only [List.length_append, List.length_cons, List.length_nil, shBk, shHd, shHo, shRo, shSc, shSi, hT, shPW_len] <;> omega) (by simp only [List.length_append, List.length_cons, List.length_nil, shBk, shHd, shHo, shRo, shSc, shSi, hT, shPW_len] <;> omega) (fun hsz => ?_)
  refine n_newa (atype := .int) hx hb (hts _ hdX8_init_aint) (ty := .int) rfl 0 rfl (fun C h => by cases h) (fun n => rfl) rfl hK hw (N := 152) (by simp only [List.length_append, List.length_cons, List.length_nil, shBk, shHd, shHo, shRo, shSc, shSi, hT, shPW_len] <;> omega) hsz (hf _ (by omega)) (n := 24) (N' := 24) (by decide) (by decide) (Nat.le_of_ble_eq_true rfl) (Nat.le_of_ble_eq_true rfl) (Nat.le_of_ble_eq_true rfl) dX8_init_49 (fun H hw => ?_)
  have hw : hOk D ac (hB base) (shPW ++ (.inl (8, [none, rf 147, none, rf 148, none, rf 149, none, rf 150, none, rf 151, none, some none, some none, none, none, some none, none, some none, some none, none, some none, none, some none, some none, some none, some none, none]) :: ([.inr (0, 24), .inr (0, 6), .inr (0, 111), .inr (0, 888), .inr (0, 222), .inr (0, 24)]))) (hU base) s.heap f H locs := by first | exact hw | (rw [hT_push] at hw; exact hw)
  refine n_putF (t := 152) (ty := tyX8 11) hx hb hts hnX8_init_X8 tyX8 tyX8_ok nmX8 hown hK hT hw rfl 11 (by decide) (Nat.le_of_ble_eq_true rfl) rfl hkX8_init_25 rfl hin rfl (tyX8_ok 11 (by decide)) rfl rfl dX8_init_51 (fun H locs hw => ?_)
  have hw : hOk D ac (hB base) (shPW ++ (.inl (8, [none, rf 147, none, rf 148, none, rf 149, none, rf 150, none, rf 151, none, rf 152, some none, none, none, some none, none, some none, some none, none, some none, none, some none, some none, some none, some none, none]) :: ([.inr (0, 24), .inr (0, 6), .inr (0, 111), .inr (0, 888), .inr (0, 222), .inr (0, 24)]))) (hU base) s.heap f H locs := by first | exact hw | (rw [hT_push] at hw; exact hw)
  refine lv_aload_n hx hb dX8_init_54 rfl (lv_at hl 0 rfl) ?_
  refine lv_sipush (v := 200) hx hb dX8_init_55 (by decide) ?_
  refine n_size h0 hw (by simp only [List.length_append, List.length_cons, List.length_nil, shBk, shHd, shHo, shRo, shSc, shSi, hT, shPW_len] <;> omega) (by simp only [List.length_append, List.length_cons, List.length_nil, shBk, shHd, shHo, shRo, shSc, shSi, hT, shPW_len] <;> omega) (fun hsz => ?_)
  refine n_newa (atype := .int) hx hb (hts _ hdX8_init_aint) (ty := .int) rfl 0 rfl (fun C h => by cases h) (fun n => rfl) rfl hK hw (N := 153) (by simp only [List.length_append, List.length_cons, List.length_nil, shBk, shHd, shHo, shRo, shSc, shSi, hT, shPW_len] <;> omega) hsz (hf _ (by omega)) (n := 200) (N' := 200) (by decide) (by decide) (Nat.le_of_ble_eq_true rfl) (Nat.le_of_ble_eq_true rfl) (Nat.le_of_ble_eq_true rfl) dX8_init_58 (fun H hw => ?_)
  have hw : hOk D ac (hB base) (shPW ++ (.inl (8, [none, rf 147, none, rf 148, none, rf 149, none, rf 150, none, rf 151, none, rf 152, some none, none, none, some none, none, some none, some none, none, some none, none, some none, some none, some none, some none, none]) :: ([.inr (0, 24), .inr (0, 6), .inr (0, 111), .inr (0, 888), .inr (0, 222), .inr (0, 24), .inr (0, 200)]))) (hU base) s.heap f H locs := by first | exact hw | (rw [hT_push] at hw; exact hw)
  refine n_putF (t := 153) (ty := tyX8 12) hx hb hts hnX8_init_X8 tyX8 tyX8_ok nmX8 hown hK hT hw rfl 12 (by decide) (Nat.le_of_ble_eq_true rfl) rfl hkX8_init_28 rfl hin rfl (tyX8_ok 12 (by decide)) rfl rfl dX8_init_60 (fun H locs hw => ?_)
  have hw : hOk D ac (hB base) (shPW ++ (.inl (8, [none, rf 147, none, rf 148, none, rf 149, none, rf 150, none, rf 151, none, rf 152, rf 153, none, none, some none, none, some none, some none, none, some none, none, some none, some none, some none, some none, none]) :: ([.inr (0, 24), .inr (0, 6), .inr (0, 111), .inr (0, 888), .inr (0, 222), .inr (0, 24), .inr (0, 200)]))) (hU base) s.heap f H locs := by first | exact hw | (rw [hT_push] at hw; exact hw)
  refine lv_aload_n hx hb dX8_init_63 rfl (lv_at hl 0 rfl) ?_
  refine lv_iconst (v := 3) hx hb dX8_init_64 (by decide) ?_
  refine n_size h0 hw (by simp only [List.length_append, List.length_cons, List.length_nil, shBk, shHd, shHo, shRo, shSc, shSi, hT, shPW_len] <;> omega) (by simp only [List.length_append, List.length_cons, List.length_nil, shBk, shHd, shHo, shRo, shSc, shSi, hT, shPW_len] <;> omega) (fun hsz => ?_)
  refine n_newa (atype := .int) hx hb (hts _ hdX8_init_aint) (ty := .int) rfl 0 rfl (fun C h => by cases h) (fun n => rfl) rfl hK hw (N := 154) (by simp only [List.length_append, List.length_cons, List.length_nil, shBk, shHd, shHo, shRo, shSc, shSi, hT, shPW_len] <;> omega) hsz (hf _ (by omega)) (n := 3) (N' := 3) (by decide) (by decide) (Nat.le_of_ble_eq_true rfl) (Nat.le_of_ble_eq_true rfl) (Nat.le_of_ble_eq_true rfl) dX8_init_65 (fun H hw => ?_)
  have hw : hOk D ac (hB base) (shPW ++ (.inl (8, [none, rf 147, none, rf 148, none, rf 149, none, rf 150, none, rf 151, none, rf 152, rf 153, none, none, some none, none, some none, some none, none, some none, none, some none, some none, some none, some none, none]) :: ([.inr (0, 24), .inr (0, 6), .inr (0, 111), .inr (0, 888), .inr (0, 222), .inr (0, 24), .inr (0, 200), .inr (0, 3)]))) (hU base) s.heap f H locs := by first | exact hw | (rw [hT_push] at hw; exact hw)
  refine n_putF (t := 154) (ty := tyX8 15) hx hb hts hnX8_init_X8 tyX8 tyX8_ok nmX8 hown hK hT hw rfl 15 (by decide) (Nat.le_of_ble_eq_true rfl) rfl hkX8_init_31 rfl hin rfl (tyX8_ok 15 (by decide)) rfl rfl dX8_init_67 (fun H locs hw => ?_)
  have hw : hOk D ac (hB base) (shPW ++ (.inl (8, [none, rf 147, none, rf 148, none, rf 149, none, rf 150, none, rf 151, none, rf 152, rf 153, none, none, rf 154, none, some none, some none, none, some none, none, some none, some none, some none, some none, none]) :: ([.inr (0, 24), .inr (0, 6), .inr (0, 111), .inr (0, 888), .inr (0, 222), .inr (0, 24), .inr (0, 200), .inr (0, 3)]))) (hU base) s.heap f H locs := by first | exact hw | (rw [hT_push] at hw; exact hw)
  refine lv_aload_n hx hb dX8_init_70 rfl (lv_at hl 0 rfl) ?_
  refine lv_bipush (v := 24) hx hb dX8_init_71 (by decide) ?_
  refine n_size h0 hw (by simp only [List.length_append, List.length_cons, List.length_nil, shBk, shHd, shHo, shRo, shSc, shSi, hT, shPW_len] <;> omega) (by simp only [List.length_append, List.length_cons, List.length_nil, shBk, shHd, shHo, shRo, shSc, shSi, hT, shPW_len] <;> omega) (fun hsz => ?_)
  refine n_newa (atype := .int) hx hb (hts _ hdX8_init_aint) (ty := .int) rfl 0 rfl (fun C h => by cases h) (fun n => rfl) rfl hK hw (N := 155) (by simp only [List.length_append, List.length_cons, List.length_nil, shBk, shHd, shHo, shRo, shSc, shSi, hT, shPW_len] <;> omega) hsz (hf _ (by omega)) (n := 24) (N' := 24) (by decide) (by decide) (Nat.le_of_ble_eq_true rfl) (Nat.le_of_ble_eq_true rfl) (Nat.le_of_ble_eq_true rfl) dX8_init_73 (fun H hw => ?_)
  have hw : hOk D ac (hB base) (shPW ++ (.inl (8, [none, rf 147, none, rf 148, none, rf 149, none, rf 150, none, rf 151, none, rf 152, rf 153, none, none, rf 154, none, some none, some none, none, some none, none, some none, some none, some none, some none, none]) :: ([.inr (0, 24), .inr (0, 6), .inr (0, 111), .inr (0, 888), .inr (0, 222), .inr (0, 24), .inr (0, 200), .inr (0, 3), .inr (0, 24)]))) (hU base) s.heap f H locs := by first | exact hw | (rw [hT_push] at hw; exact hw)
  refine n_putF (t := 155) (ty := tyX8 17) hx hb hts hnX8_init_X8 tyX8 tyX8_ok nmX8 hown hK hT hw rfl 17 (by decide) (Nat.le_of_ble_eq_true rfl) rfl hkX8_init_34 rfl hin rfl (tyX8_ok 17 (by decide)) rfl rfl dX8_init_75 (fun H locs hw => ?_)
  have hw : hOk D ac (hB base) (shPW ++ (.inl (8, [none, rf 147, none, rf 148, none, rf 149, none, rf 150, none, rf 151, none, rf 152, rf 153, none, none, rf 154, none, rf 155, some none, none, some none, none, some none, some none, some none, some none, none]) :: ([.inr (0, 24), .inr (0, 6), .inr (0, 111), .inr (0, 888), .inr (0, 222), .inr (0, 24), .inr (0, 200), .inr (0, 3), .inr (0, 24)]))) (hU base) s.heap f H locs := by first | exact hw | (rw [hT_push] at hw; exact hw)
  refine lv_aload_n hx hb dX8_init_78 rfl (lv_at hl 0 rfl) ?_
  refine lv_bipush (v := 8) hx hb dX8_init_79 (by decide) ?_
  refine n_size h0 hw (by simp only [List.length_append, List.length_cons, List.length_nil, shBk, shHd, shHo, shRo, shSc, shSi, hT, shPW_len] <;> omega) (by simp only [List.length_append, List.length_cons, List.length_nil, shBk, shHd, shHo, shRo, shSc, shSi, hT, shPW_len] <;> omega) (fun hsz => ?_)
  refine n_newa (atype := .int) hx hb (hts _ hdX8_init_aint) (ty := .int) rfl 0 rfl (fun C h => by cases h) (fun n => rfl) rfl hK hw (N := 156) (by simp only [List.length_append, List.length_cons, List.length_nil, shBk, shHd, shHo, shRo, shSc, shSi, hT, shPW_len] <;> omega) hsz (hf _ (by omega)) (n := 8) (N' := 8) (by decide) (by decide) (Nat.le_of_ble_eq_true rfl) (Nat.le_of_ble_eq_true rfl) (Nat.le_of_ble_eq_true rfl) dX8_init_81 (fun H hw => ?_)
  have hw : hOk D ac (hB base) (shPW ++ (.inl (8, [none, rf 147, none, rf 148, none, rf 149, none, rf 150, none, rf 151, none, rf 152, rf 153, none, none, rf 154, none, rf 155, some none, none, some none, none, some none, some none, some none, some none, none]) :: ([.inr (0, 24), .inr (0, 6), .inr (0, 111), .inr (0, 888), .inr (0, 222), .inr (0, 24), .inr (0, 200), .inr (0, 3), .inr (0, 24), .inr (0, 8)]))) (hU base) s.heap f H locs := by first | exact hw | (rw [hT_push] at hw; exact hw)
  refine n_putF (t := 156) (ty := tyX8 18) hx hb hts hnX8_init_X8 tyX8 tyX8_ok nmX8 hown hK hT hw rfl 18 (by decide) (Nat.le_of_ble_eq_true rfl) rfl hkX8_init_37 rfl hin rfl (tyX8_ok 18 (by decide)) rfl rfl dX8_init_83 (fun H locs hw => ?_)
  have hw : hOk D ac (hB base) (shPW ++ (.inl (8, [none, rf 147, none, rf 148, none, rf 149, none, rf 150, none, rf 151, none, rf 152, rf 153, none, none, rf 154, none, rf 155, rf 156, none, some none, none, some none, some none, some none, some none, none]) :: ([.inr (0, 24), .inr (0, 6), .inr (0, 111), .inr (0, 888), .inr (0, 222), .inr (0, 24), .inr (0, 200), .inr (0, 3), .inr (0, 24), .inr (0, 8)]))) (hU base) s.heap f H locs := by first | exact hw | (rw [hT_push] at hw; exact hw)
  refine lv_aload_n hx hb dX8_init_86 rfl (lv_at hl 0 rfl) ?_
  refine lv_bipush (v := 6) hx hb dX8_init_87 (by decide) ?_
  refine n_size h0 hw (by simp only [List.length_append, List.length_cons, List.length_nil, shBk, shHd, shHo, shRo, shSc, shSi, hT, shPW_len] <;> omega) (by simp only [List.length_append, List.length_cons, List.length_nil, shBk, shHd, shHo, shRo, shSc, shSi, hT, shPW_len] <;> omega) (fun hsz => ?_)
  refine n_newa (atype := .int) hx hb (hts _ hdX8_init_aint) (ty := .int) rfl 0 rfl (fun C h => by cases h) (fun n => rfl) rfl hK hw (N := 157) (by simp only [List.length_append, List.length_cons, List.length_nil, shBk, shHd, shHo, shRo, shSc, shSi, hT, shPW_len] <;> omega) hsz (hf _ (by omega)) (n := 6) (N' := 6) (by decide) (by decide) (Nat.le_of_ble_eq_true rfl) (Nat.le_of_ble_eq_true rfl) (Nat.le_of_ble_eq_true rfl) dX8_init_89 (fun H hw => ?_)
  have hw : hOk D ac (hB base) (shPW ++ (.inl (8, [none, rf 147, none, rf 148, none, rf 149, none, rf 150, none, rf 151, none, rf 152, rf 153, none, none, rf 154, none, rf 155, rf 156, none, some none, none, some none, some none, some none, some none, none]) :: ([.inr (0, 24), .inr (0, 6), .inr (0, 111), .inr (0, 888), .inr (0, 222), .inr (0, 24), .inr (0, 200), .inr (0, 3), .inr (0, 24), .inr (0, 8), .inr (0, 6)]))) (hU base) s.heap f H locs := by first | exact hw | (rw [hT_push] at hw; exact hw)
  refine n_putF (t := 157) (ty := tyX8 20) hx hb hts hnX8_init_X8 tyX8 tyX8_ok nmX8 hown hK hT hw rfl 20 (by decide) (Nat.le_of_ble_eq_true rfl) rfl hkX8_init_40 rfl hin rfl (tyX8_ok 20 (by decide)) rfl rfl dX8_init_91 (fun H locs hw => ?_)
  have hw : hOk D ac (hB base) (shPW ++ (.inl (8, [none, rf 147, none, rf 148, none, rf 149, none, rf 150, none, rf 151, none, rf 152, rf 153, none, none, rf 154, none, rf 155, rf 156, none, rf 157, none, some none, some none, some none, some none, none]) :: ([.inr (0, 24), .inr (0, 6), .inr (0, 111), .inr (0, 888), .inr (0, 222), .inr (0, 24), .inr (0, 200), .inr (0, 3), .inr (0, 24), .inr (0, 8), .inr (0, 6)]))) (hU base) s.heap f H locs := by first | exact hw | (rw [hT_push] at hw; exact hw)
  refine lv_aload_n hx hb dX8_init_94 rfl (lv_at hl 0 rfl) ?_
  refine lv_bipush (v := 111) hx hb dX8_init_95 (by decide) ?_
  refine n_size h0 hw (by simp only [List.length_append, List.length_cons, List.length_nil, shBk, shHd, shHo, shRo, shSc, shSi, hT, shPW_len] <;> omega) (by simp only [List.length_append, List.length_cons, List.length_nil, shBk, shHd, shHo, shRo, shSc, shSi, hT, shPW_len] <;> omega) (fun hsz => ?_)
  refine n_newa (atype := .int) hx hb (hts _ hdX8_init_aint) (ty := .int) rfl 0 rfl (fun C h => by cases h) (fun n => rfl) rfl hK hw (N := 158) (by simp only [List.length_append, List.length_cons, List.length_nil, shBk, shHd, shHo, shRo, shSc, shSi, hT, shPW_len] <;> omega) hsz (hf _ (by omega)) (n := 111) (N' := 111) (by decide) (by decide) (Nat.le_of_ble_eq_true rfl) (Nat.le_of_ble_eq_true rfl) (Nat.le_of_ble_eq_true rfl) dX8_init_97 (fun H hw => ?_)
  have hw : hOk D ac (hB base) (shPW ++ (.inl (8, [none, rf 147, none, rf 148, none, rf 149, none, rf 150, none, rf 151, none, rf 152, rf 153, none, none, rf 154, none, rf 155, rf 156, none, rf 157, none, some none, some none, some none, some none, none]) :: ([.inr (0, 24), .inr (0, 6), .inr (0, 111), .inr (0, 888), .inr (0, 222), .inr (0, 24), .inr (0, 200), .inr (0, 3), .inr (0, 24), .inr (0, 8), .inr (0, 6), .inr (0, 111)]))) (hU base) s.heap f H locs := by first | exact hw | (rw [hT_push] at hw; exact hw)
  refine n_putF (t := 158) (ty := tyX8 22) hx hb hts hnX8_init_X8 tyX8 tyX8_ok nmX8 hown hK hT hw rfl 22 (by decide) (Nat.le_of_ble_eq_true rfl) rfl hkX8_init_43 rfl hin rfl (tyX8_ok 22 (by decide)) rfl rfl dX8_init_99 (fun H locs hw => ?_)
  have hw : hOk D ac (hB base) (shPW ++ (.inl (8, [none, rf 147, none, rf 148, none, rf 149, none, rf 150, none, rf 151, none, rf 152, rf 153, none, none, rf 154, none, rf 155, rf 156, none, rf 157, none, rf 158, some none, some none, some none, none]) :: ([.inr (0, 24), .inr (0, 6), .inr (0, 111), .inr (0, 888), .inr (0, 222), .inr (0, 24), .inr (0, 200), .inr (0, 3), .inr (0, 24), .inr (0, 8), .inr (0, 6), .inr (0, 111)]))) (hU base) s.heap f H locs := by first | exact hw | (rw [hT_push] at hw; exact hw)
  refine lv_aload_n hx hb dX8_init_102 rfl (lv_at hl 0 rfl) ?_
  refine lv_bipush (v := 24) hx hb dX8_init_103 (by decide) ?_
  refine n_size h0 hw (by simp only [List.length_append, List.length_cons, List.length_nil, shBk, shHd, shHo, shRo, shSc, shSi, hT, shPW_len] <;> omega) (by simp only [List.length_append, List.length_cons, List.length_nil, shBk, shHd, shHo, shRo, shSc, shSi, hT, shPW_len] <;> omega) (fun hsz => ?_)
  refine n_newa (atype := .boolean) hx hb (hts _ hdX8_init_aboolean) (ty := .boolean) rfl 2 rfl (fun C h => by cases h) (fun n => rfl) rfl hK hw (N := 159) (by simp only [List.length_append, List.length_cons, List.length_nil, shBk, shHd, shHo, shRo, shSc, shSi, hT, shPW_len] <;> omega) hsz (hf _ (by omega)) (n := 24) (N' := 24) (by decide) (by decide) (Nat.le_of_ble_eq_true rfl) (Nat.le_of_ble_eq_true rfl) (Nat.le_of_ble_eq_true rfl) dX8_init_105 (fun H hw => ?_)
  have hw : hOk D ac (hB base) (shPW ++ (.inl (8, [none, rf 147, none, rf 148, none, rf 149, none, rf 150, none, rf 151, none, rf 152, rf 153, none, none, rf 154, none, rf 155, rf 156, none, rf 157, none, rf 158, some none, some none, some none, none]) :: ([.inr (0, 24), .inr (0, 6), .inr (0, 111), .inr (0, 888), .inr (0, 222), .inr (0, 24), .inr (0, 200), .inr (0, 3), .inr (0, 24), .inr (0, 8), .inr (0, 6), .inr (0, 111), .inr (2, 24)]))) (hU base) s.heap f H locs := by first | exact hw | (rw [hT_push] at hw; exact hw)
  refine n_putF (t := 159) (ty := tyX8 23) hx hb hts hnX8_init_X8 tyX8 tyX8_ok nmX8 hown hK hT hw rfl 23 (by decide) (Nat.le_of_ble_eq_true rfl) rfl hkX8_init_46 rfl hin rfl (tyX8_ok 23 (by decide)) rfl rfl dX8_init_107 (fun H locs hw => ?_)
  have hw : hOk D ac (hB base) (shPW ++ (.inl (8, [none, rf 147, none, rf 148, none, rf 149, none, rf 150, none, rf 151, none, rf 152, rf 153, none, none, rf 154, none, rf 155, rf 156, none, rf 157, none, rf 158, rf 159, some none, some none, none]) :: ([.inr (0, 24), .inr (0, 6), .inr (0, 111), .inr (0, 888), .inr (0, 222), .inr (0, 24), .inr (0, 200), .inr (0, 3), .inr (0, 24), .inr (0, 8), .inr (0, 6), .inr (0, 111), .inr (2, 24)]))) (hU base) s.heap f H locs := by first | exact hw | (rw [hT_push] at hw; exact hw)
  refine lv_aload_n hx hb dX8_init_110 rfl (lv_at hl 0 rfl) ?_
  refine lv_bipush (v := 24) hx hb dX8_init_111 (by decide) ?_
  refine n_size h0 hw (by simp only [List.length_append, List.length_cons, List.length_nil, shBk, shHd, shHo, shRo, shSc, shSi, hT, shPW_len] <;> omega) (by simp only [List.length_append, List.length_cons, List.length_nil, shBk, shHd, shHo, shRo, shSc, shSi, hT, shPW_len] <;> omega) (fun hsz => ?_)
  refine n_newa (atype := .boolean) hx hb (hts _ hdX8_init_aboolean) (ty := .boolean) rfl 2 rfl (fun C h => by cases h) (fun n => rfl) rfl hK hw (N := 160) (by simp only [List.length_append, List.length_cons, List.length_nil, shBk, shHd, shHo, shRo, shSc, shSi, hT, shPW_len] <;> omega) hsz (hf _ (by omega)) (n := 24) (N' := 24) (by decide) (by decide) (Nat.le_of_ble_eq_true rfl) (Nat.le_of_ble_eq_true rfl) (Nat.le_of_ble_eq_true rfl) dX8_init_113 (fun H hw => ?_)
  have hw : hOk D ac (hB base) (shPW ++ (.inl (8, [none, rf 147, none, rf 148, none, rf 149, none, rf 150, none, rf 151, none, rf 152, rf 153, none, none, rf 154, none, rf 155, rf 156, none, rf 157, none, rf 158, rf 159, some none, some none, none]) :: ([.inr (0, 24), .inr (0, 6), .inr (0, 111), .inr (0, 888), .inr (0, 222), .inr (0, 24), .inr (0, 200), .inr (0, 3), .inr (0, 24), .inr (0, 8), .inr (0, 6), .inr (0, 111), .inr (2, 24), .inr (2, 24)]))) (hU base) s.heap f H locs := by first | exact hw | (rw [hT_push] at hw; exact hw)
  refine n_putF (t := 160) (ty := tyX8 24) hx hb hts hnX8_init_X8 tyX8 tyX8_ok nmX8 hown hK hT hw rfl 24 (by decide) (Nat.le_of_ble_eq_true rfl) rfl hkX8_init_50 rfl hin rfl (tyX8_ok 24 (by decide)) rfl rfl dX8_init_115 (fun H locs hw => ?_)
  have hw : hOk D ac (hB base) (shPW ++ (.inl (8, [none, rf 147, none, rf 148, none, rf 149, none, rf 150, none, rf 151, none, rf 152, rf 153, none, none, rf 154, none, rf 155, rf 156, none, rf 157, none, rf 158, rf 159, rf 160, some none, none]) :: ([.inr (0, 24), .inr (0, 6), .inr (0, 111), .inr (0, 888), .inr (0, 222), .inr (0, 24), .inr (0, 200), .inr (0, 3), .inr (0, 24), .inr (0, 8), .inr (0, 6), .inr (0, 111), .inr (2, 24), .inr (2, 24)]))) (hU base) s.heap f H locs := by first | exact hw | (rw [hT_push] at hw; exact hw)
  refine lv_aload_n hx hb dX8_init_118 rfl (lv_at hl 0 rfl) ?_
  refine lv_sipush (v := 256) hx hb dX8_init_119 (by decide) ?_
  refine n_size h0 hw (by simp only [List.length_append, List.length_cons, List.length_nil, shBk, shHd, shHo, shRo, shSc, shSi, hT, shPW_len] <;> omega) (by simp only [List.length_append, List.length_cons, List.length_nil, shBk, shHd, shHo, shRo, shSc, shSi, hT, shPW_len] <;> omega) (fun hsz => ?_)
  refine n_newa (atype := .int) hx hb (hts _ hdX8_init_aint) (ty := .int) rfl 0 rfl (fun C h => by cases h) (fun n => rfl) rfl hK hw (N := 161) (by simp only [List.length_append, List.length_cons, List.length_nil, shBk, shHd, shHo, shRo, shSc, shSi, hT, shPW_len] <;> omega) hsz (hf _ (by omega)) (n := 256) (N' := 256) (by decide) (by decide) (Nat.le_of_ble_eq_true rfl) (Nat.le_of_ble_eq_true rfl) (Nat.le_of_ble_eq_true rfl) dX8_init_122 (fun H hw => ?_)
  have hw : hOk D ac (hB base) (shPW ++ (.inl (8, [none, rf 147, none, rf 148, none, rf 149, none, rf 150, none, rf 151, none, rf 152, rf 153, none, none, rf 154, none, rf 155, rf 156, none, rf 157, none, rf 158, rf 159, rf 160, some none, none]) :: ([.inr (0, 24), .inr (0, 6), .inr (0, 111), .inr (0, 888), .inr (0, 222), .inr (0, 24), .inr (0, 200), .inr (0, 3), .inr (0, 24), .inr (0, 8), .inr (0, 6), .inr (0, 111), .inr (2, 24), .inr (2, 24), .inr (0, 256)]))) (hU base) s.heap f H locs := by first | exact hw | (rw [hT_push] at hw; exact hw)
  refine n_putF (t := 161) (ty := tyX8 25) hx hb hts hnX8_init_X8 tyX8 tyX8_ok nmX8 hown hK hT hw rfl 25 (by decide) (Nat.le_of_ble_eq_true rfl) rfl hkX8_init_53 rfl hin rfl (tyX8_ok 25 (by decide)) rfl rfl dX8_init_124 (fun H locs hw => ?_)
  have hw : hOk D ac (hB base) (shPW ++ (.inl (8, [none, rf 147, none, rf 148, none, rf 149, none, rf 150, none, rf 151, none, rf 152, rf 153, none, none, rf 154, none, rf 155, rf 156, none, rf 157, none, rf 158, rf 159, rf 160, rf 161, none]) :: ([.inr (0, 24), .inr (0, 6), .inr (0, 111), .inr (0, 888), .inr (0, 222), .inr (0, 24), .inr (0, 200), .inr (0, 3), .inr (0, 24), .inr (0, 8), .inr (0, 6), .inr (0, 111), .inr (2, 24), .inr (2, 24), .inr (0, 256)]))) (hU base) s.heap f H locs := by first | exact hw | (rw [hT_push] at hw; exact hw)
  have hw : hOk D ac (hB base) shAll (hU base) s.heap f H locs := hw
  unfold fX8_init at h
  refine lv_aload_n hx hb dX8_init_127 rfl (lv_at hl 0 rfl) ?_
  obtain ⟨f1, ef1, h⟩ := b1_s h
  refine h_callV hw (va_runV (As := []) (rest := []) ⟨hx, hb, hml, hown, hts⟩ (mX8_clearTold l D ac (hB base) shAll f f1 mo_ok ef1) (cwV 0 hts gX8_init_X8_clearTold rfl rfl rfl (by decide +kernel) ⟨Nat.le_of_ble_eq_true rfl, Nat.le_of_ble_eq_true rfl⟩) (h_preV hK hw mo_ok.1 rfl _) rfl rfl hl.1 rfl (lv_room (Nat.le_of_ble_eq_true rfl)) dX8_init_128 ⟨Nat.le_of_ble_eq_true rfl, Nat.le_of_ble_eq_true rfl⟩) (fun H locs hw => ?_)
  refine lv_aload_n hx hb dX8_init_131 rfl (lv_at hl 0 rfl) ?_
  refine lv_iconst (v := 0) hx hb dX8_init_132 (by decide) ?_
  refine lv_iconst (v := 0) hx hb dX8_init_133 (by decide) ?_
  refine lv_bipush (v := 12) hx hb dX8_init_134 (by decide) ?_
  refine lv_iconst (v := 5) hx hb dX8_init_136 (by decide) ?_
  obtain ⟨f2, ef2, h⟩ := b1_s h
  refine h_callV hw (va_runV (As := [.int 0, .int 0, .int 12, .int 5]) (rest := []) ⟨hx, hb, hml, hown, hts⟩ (mX8_tellsPerson l D ac (hB base) shAll f1 (0 : Int32) (0 : Int32) (12 : Int32) (5 : Int32) f2 mo_ok ef2) (cwV 4 hts gX8_init_X8_tellsPerson rfl rfl rfl (by decide +kernel) ⟨Nat.le_of_ble_eq_true rfl, Nat.le_of_ble_eq_true rfl⟩) (h_preV hK hw mo_ok.1 rfl _) rfl rfl hl.1 rfl (lv_room (Nat.le_of_ble_eq_true rfl)) dX8_init_137 ⟨Nat.le_of_ble_eq_true rfl, Nat.le_of_ble_eq_true rfl⟩) (fun H locs hw => ?_)
  refine lv_aload_n hx hb dX8_init_140 rfl (lv_at hl 0 rfl) ?_
  refine lv_iconst (v := 0) hx hb dX8_init_141 (by decide) ?_
  refine lv_iconst (v := 1) hx hb dX8_init_142 (by decide) ?_
  refine lv_bipush (v := 40) hx hb dX8_init_143 (by decide) ?_
  refine lv_iconst (v := 2) hx hb dX8_init_145 (by decide) ?_
  obtain ⟨f3, ef3, h⟩ := b1_s h
  refine h_callV hw (va_runV (As := [.int 0, .int 1, .int 40, .int 2]) (rest := []) ⟨hx, hb, hml, hown, hts⟩ (mX8_tellsPerson l D ac (hB base) shAll f2 (0 : Int32) (1 : Int32) (40 : Int32) (2 : Int32) f3 mo_ok ef3) (cwV 4 hts gX8_init_X8_tellsPerson rfl rfl rfl (by decide +kernel) ⟨Nat.le_of_ble_eq_true rfl, Nat.le_of_ble_eq_true rfl⟩) (h_preV hK hw mo_ok.1 rfl _) rfl rfl hl.1 rfl (lv_room (Nat.le_of_ble_eq_true rfl)) dX8_init_146 ⟨Nat.le_of_ble_eq_true rfl, Nat.le_of_ble_eq_true rfl⟩) (fun H locs hw => ?_)
  refine lv_aload_n hx hb dX8_init_149 rfl (lv_at hl 0 rfl) ?_
  refine lv_iconst (v := 0) hx hb dX8_init_150 (by decide) ?_
  refine lv_iconst (v := 2) hx hb dX8_init_151 (by decide) ?_
  refine lv_iconst (v := 0) hx hb dX8_init_152 (by decide) ?_
  refine lv_bipush (v := 50) hx hb dX8_init_153 (by decide) ?_
  obtain ⟨f4, ef4, h⟩ := b1_s h
  refine h_callV hw (va_runV (As := [.int 0, .int 2, .int 0, .int 50]) (rest := []) ⟨hx, hb, hml, hown, hts⟩ (mX8_tellsPerson l D ac (hB base) shAll f3 (0 : Int32) (2 : Int32) (0 : Int32) (50 : Int32) f4 mo_ok ef4) (cwV 4 hts gX8_init_X8_tellsPerson rfl rfl rfl (by decide +kernel) ⟨Nat.le_of_ble_eq_true rfl, Nat.le_of_ble_eq_true rfl⟩) (h_preV hK hw mo_ok.1 rfl _) rfl rfl hl.1 rfl (lv_room (Nat.le_of_ble_eq_true rfl)) dX8_init_155 ⟨Nat.le_of_ble_eq_true rfl, Nat.le_of_ble_eq_true rfl⟩) (fun H locs hw => ?_)
  refine lv_aload_n hx hb dX8_init_158 rfl (lv_at hl 0 rfl) ?_
  refine lv_iconst (v := 1) hx hb dX8_init_159 (by decide) ?_
  refine lv_iconst (v := 0) hx hb dX8_init_160 (by decide) ?_
  refine lv_iconst (v := 3) hx hb dX8_init_161 (by decide) ?_
  refine lv_bipush (v := 8) hx hb dX8_init_162 (by decide) ?_
  obtain ⟨f5, ef5, h⟩ := b1_s h
  refine h_callV hw (va_runV (As := [.int 1, .int 0, .int 3, .int 8]) (rest := []) ⟨hx, hb, hml, hown, hts⟩ (mX8_tellsPerson l D ac (hB base) shAll f4 (1 : Int32) (0 : Int32) (3 : Int32) (8 : Int32) f5 mo_ok ef5) (cwV 4 hts gX8_init_X8_tellsPerson rfl rfl rfl (by decide +kernel) ⟨Nat.le_of_ble_eq_true rfl, Nat.le_of_ble_eq_true rfl⟩) (h_preV hK hw mo_ok.1 rfl _) rfl rfl hl.1 rfl (lv_room (Nat.le_of_ble_eq_true rfl)) dX8_init_164 ⟨Nat.le_of_ble_eq_true rfl, Nat.le_of_ble_eq_true rfl⟩) (fun H locs hw => ?_)
  refine lv_aload_n hx hb dX8_init_167 rfl (lv_at hl 0 rfl) ?_
  refine lv_iconst (v := 1) hx hb dX8_init_168 (by decide) ?_
  refine lv_iconst (v := 1) hx hb dX8_init_169 (by decide) ?_
  refine lv_bipush (v := 30) hx hb dX8_init_170 (by decide) ?_
  refine lv_bipush (v := 12) hx hb dX8_init_172 (by decide) ?_
  obtain ⟨f6, ef6, h⟩ := b1_s h
  refine h_callV hw (va_runV (As := [.int 1, .int 1, .int 30, .int 12]) (rest := []) ⟨hx, hb, hml, hown, hts⟩ (mX8_tellsPerson l D ac (hB base) shAll f5 (1 : Int32) (1 : Int32) (30 : Int32) (12 : Int32) f6 mo_ok ef6) (cwV 4 hts gX8_init_X8_tellsPerson rfl rfl rfl (by decide +kernel) ⟨Nat.le_of_ble_eq_true rfl, Nat.le_of_ble_eq_true rfl⟩) (h_preV hK hw mo_ok.1 rfl _) rfl rfl hl.1 rfl (lv_room (Nat.le_of_ble_eq_true rfl)) dX8_init_174 ⟨Nat.le_of_ble_eq_true rfl, Nat.le_of_ble_eq_true rfl⟩) (fun H locs hw => ?_)
  refine lv_aload_n hx hb dX8_init_177 rfl (lv_at hl 0 rfl) ?_
  refine lv_iconst (v := 1) hx hb dX8_init_178 (by decide) ?_
  refine lv_iconst (v := 2) hx hb dX8_init_179 (by decide) ?_
  refine lv_iconst (v := 0) hx hb dX8_init_180 (by decide) ?_
  refine lv_bipush (v := 60) hx hb dX8_init_181 (by decide) ?_
  obtain ⟨f7, ef7, h⟩ := b1_s h
  refine h_callV hw (va_runV (As := [.int 1, .int 2, .int 0, .int 60]) (rest := []) ⟨hx, hb, hml, hown, hts⟩ (mX8_tellsPerson l D ac (hB base) shAll f6 (1 : Int32) (2 : Int32) (0 : Int32) (60 : Int32) f7 mo_ok ef7) (cwV 4 hts gX8_init_X8_tellsPerson rfl rfl rfl (by decide +kernel) ⟨Nat.le_of_ble_eq_true rfl, Nat.le_of_ble_eq_true rfl⟩) (h_preV hK hw mo_ok.1 rfl _) rfl rfl hl.1 rfl (lv_room (Nat.le_of_ble_eq_true rfl)) dX8_init_183 ⟨Nat.le_of_ble_eq_true rfl, Nat.le_of_ble_eq_true rfl⟩) (fun H locs hw => ?_)
  refine lv_aload_n hx hb dX8_init_186 rfl (lv_at hl 0 rfl) ?_
  refine lv_iconst (v := 1) hx hb dX8_init_187 (by decide) ?_
  refine lv_iconst (v := 0) hx hb dX8_init_188 (by decide) ?_
  refine lv_bipush (v := 9) hx hb dX8_init_189 (by decide) ?_
  refine lv_bipush (v := 20) hx hb dX8_init_191 (by decide) ?_
  obtain ⟨f8, ef8, h⟩ := b1_s h
  refine h_callV hw (va_runV (As := [.int 1, .int 0, .int 9, .int 20]) (rest := []) ⟨hx, hb, hml, hown, hts⟩ (mX8_tellsPerson l D ac (hB base) shAll f7 (1 : Int32) (0 : Int32) (9 : Int32) (20 : Int32) f8 mo_ok ef8) (cwV 4 hts gX8_init_X8_tellsPerson rfl rfl rfl (by decide +kernel) ⟨Nat.le_of_ble_eq_true rfl, Nat.le_of_ble_eq_true rfl⟩) (h_preV hK hw mo_ok.1 rfl _) rfl rfl hl.1 rfl (lv_room (Nat.le_of_ble_eq_true rfl)) dX8_init_193 ⟨Nat.le_of_ble_eq_true rfl, Nat.le_of_ble_eq_true rfl⟩) (fun H locs hw => ?_)
  refine lv_aload_n hx hb dX8_init_196 rfl (lv_at hl 0 rfl) ?_
  refine lv_iconst (v := 0) hx hb dX8_init_197 (by decide) ?_
  refine lv_iconst (v := 2) hx hb dX8_init_198 (by decide) ?_
  obtain ⟨f9, ef9, h⟩ := b1_s h
  refine h_callV hw (va_runV (As := [.int 0, .int 2]) (rest := []) ⟨hx, hb, hml, hown, hts⟩ (mX8_tellsParson l D ac (hB base) shAll f8 (0 : Int32) (2 : Int32) f9 mo_ok ef9) (cwV 2 hts gX8_init_X8_tellsParson rfl rfl rfl (by decide +kernel) ⟨Nat.le_of_ble_eq_true rfl, Nat.le_of_ble_eq_true rfl⟩) (h_preV hK hw mo_ok.1 rfl _) rfl rfl hl.1 rfl (lv_room (Nat.le_of_ble_eq_true rfl)) dX8_init_199 ⟨Nat.le_of_ble_eq_true rfl, Nat.le_of_ble_eq_true rfl⟩) (fun H locs hw => ?_)
  refine lv_aload_n hx hb dX8_init_202 rfl (lv_at hl 0 rfl) ?_
  refine lv_iconst (v := 1) hx hb dX8_init_203 (by decide) ?_
  refine lv_iconst (v := 3) hx hb dX8_init_204 (by decide) ?_
  obtain ⟨f10, ef10, h⟩ := b1_s h
  refine h_callV hw (va_runV (As := [.int 1, .int 3]) (rest := []) ⟨hx, hb, hml, hown, hts⟩ (mX8_tellsParson l D ac (hB base) shAll f9 (1 : Int32) (3 : Int32) f10 mo_ok ef10) (cwV 2 hts gX8_init_X8_tellsParson rfl rfl rfl (by decide +kernel) ⟨Nat.le_of_ble_eq_true rfl, Nat.le_of_ble_eq_true rfl⟩) (h_preV hK hw mo_ok.1 rfl _) rfl rfl hl.1 rfl (lv_room (Nat.le_of_ble_eq_true rfl)) dX8_init_205 ⟨Nat.le_of_ble_eq_true rfl, Nat.le_of_ble_eq_true rfl⟩) (fun H locs hw => ?_)
  refine lv_aload_n hx hb dX8_init_208 rfl (lv_at hl 0 rfl) ?_
  refine lv_iconst (v := 2) hx hb dX8_init_209 (by decide) ?_
  refine lv_iconst (v := 5) hx hb dX8_init_210 (by decide) ?_
  obtain ⟨f11, ef11, h⟩ := b1_s h
  refine h_callV hw (va_runV (As := [.int 2, .int 5]) (rest := []) ⟨hx, hb, hml, hown, hts⟩ (mX8_tellsParson l D ac (hB base) shAll f10 (2 : Int32) (5 : Int32) f11 mo_ok ef11) (cwV 2 hts gX8_init_X8_tellsParson rfl rfl rfl (by decide +kernel) ⟨Nat.le_of_ble_eq_true rfl, Nat.le_of_ble_eq_true rfl⟩) (h_preV hK hw mo_ok.1 rfl _) rfl rfl hl.1 rfl (lv_room (Nat.le_of_ble_eq_true rfl)) dX8_init_211 ⟨Nat.le_of_ble_eq_true rfl, Nat.le_of_ble_eq_true rfl⟩) (fun H locs hw => ?_)
  refine lv_aload_n hx hb dX8_init_214 rfl (lv_at hl 0 rfl) ?_
  refine lv_bipush (v := 30) hx hb dX8_init_215 (by decide) ?_
  obtain ⟨f12, ef12, h⟩ := lt_s2 h
  refine h_putI (g := f12) ef12 hx hb hts hnX8_init_X8 tyX8 tyX8_ok nmX8 hown hK hw mo_ok.1 rfl 21 rfl (by decide) rfl hkX8_init_67 rfl (by decide +kernel) dX8_init_217 (fun H locs hw => ?_)
  refine lv_aload_n hx hb dX8_init_220 rfl (lv_at hl 0 rfl) ?_
  obtain ⟨f13, ef13, h⟩ := b1_s h
  refine h_callV hw (va_runV (As := []) (rest := []) ⟨hx, hb, hml, hown, hts⟩ (mX8_settles l D ac (hB base) shAll f12 f13 mo_ok ef13) (cwV 0 hts gX8_init_X8_settles rfl rfl rfl (by decide +kernel) ⟨Nat.le_of_ble_eq_true rfl, Nat.le_of_ble_eq_true rfl⟩) (h_preV hK hw mo_ok.1 rfl _) rfl rfl hl.1 rfl (lv_room (Nat.le_of_ble_eq_true rfl)) dX8_init_221 ⟨Nat.le_of_ble_eq_true rfl, Nat.le_of_ble_eq_true rfl⟩) (fun H locs hw => ?_)
  exact n_ret hx hb hr hlocks hw rfl (so1 h) dX8_init_224
