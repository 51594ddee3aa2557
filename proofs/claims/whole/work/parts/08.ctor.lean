def shBk (k : Nat) : List hSh := [.inl (0, [none, rf (k+1), rf (k+2), rf (k+3), rf (k+4), rf (k+5), rf (k+6), rf (k+7), rf (k+8)]), .inr (0, 8), .inr (0, 3), .inr (0, 3), .inr (0, 24), .inr (0, 24), .inr (0, 24), .inr (0, 24), .inr (0, 24)]
def shSc (k : Nat) : List hSh := [.inl (4, [rf (k+1), none]), .inr (1, 200)]
def shRo (k : Nat) : List hSh := [.inl (3, [none, none, none, rf (k+1), rf (k+2), rf (k+3), rf (k+4), rf (k+5), rf (k+6), rf (k+7)]), .inr (2, 8), .inr (0, 8), .inr (0, 8), .inr (0, 8), .inr (0, 3), .inr (0, 3), .inr (0, 3)]
def shSi (k : Nat) : List hSh := [.inl (6, [none, rf (k+1), rf (k+2), rf (k+3), rf (k+4)]), .inr (0, 6), .inr (0, 6), .inr (0, 6), .inr (2, 6)]
def shHd (k : Nat) (bk : Nat) : List hSh := [.inl (1, [rf bk, rf (k+1), rf (k+2)]), .inr (0, 8), .inr (0, 3)]
def shHo (k : Nat) (ro : Nat) : List hSh := .inl (2, [rf ro, rf (k+1), rf (k+10), rf (k+13)]) :: (shBk (k+1) ++ shHd (k+10) (k+1) ++ [.inr (0, 8)])
theorem hdX4_init_oi1 : Cond.methodLink RX4 3 objectInit ∈ wsX4_init := by decide +kernel
theorem hdX4_init_oi2 : Cond.instanceMethod objectInit ∈ wsX4_init := by decide +kernel
theorem hdX4_init_oi3 : Cond.code objectInit ⟨#[0xb1]⟩ 1 none ∈ wsX4_init := by decide +kernel
theorem hdX4_init_achar : Cond.arrayClass .char ∈ wsX4_init := by decide +kernel
theorem hnX4_init_X4 : ∀ w ∈ wsX40, w ∈ wsX4_init := by decide +kernel
theorem hkX4_init_9 : Cond.fieldLink RX4 9 (TX4 0).1 (TX4 0).2.1 (TX4 0).2.2.1 ∈ wsX4_init := by decide +kernel
set_option maxHeartbeats 8000000 in
set_option maxRecDepth 100000 in
theorem nX4_init (l : Launch) (D : va_G) (ac : Nat → ClassId) (base : Nat) (T : List hSh) (k : Nat) (hT : T.length = k) (f : hF) (hf : ∀ j, k ≤ j → f j = fun _ => 0) : Met l yX4_init wsX4_init ({ frames := 1, cells := 1, slots := 200, locals := 12 }) (nPc D ac base (T ++ [.inl (4, [some none, none])]) f [.ref (hB base k)]) (nQv D ac base (T ++ shSc k) f) 1 200 (hU base) := by
  refine n_enter (C := RX4) (cc := cX4_init) (maxL := 1) (ret := none) (lv := [(0, .ref (hB base k))]) (by decide) rfl rfl rfl (Nat.le_of_ble_eq_true rfl) rfl (fun p e s m below meth c ls hx hb hml hr hlocks hin hN hown hts hK h0 hw hl => ?_)
  refine lv_aload_n hx hb dX4_init_0 rfl (lv_at hl 0 rfl) ?_
  refine W.objInit hx hb hown (hts _ hdX4_init_oi1) (hts _ hdX4_init_oi2) (hts _ hdX4_init_oi3) rfl (by rw [hml]; exact hl.1) rfl dX4_init_1 (Nat.le_of_ble_eq_true rfl) (Nat.le_of_ble_eq_true rfl) ?_
  refine W.eq (g2 := F0 m 4 ls []) rfl ?_
  refine lv_aload_n hx hb dX4_init_4 rfl (lv_at hl 0 rfl) ?_
  refine lv_sipush (v := 200) hx hb dX4_init_5 (by decide) ?_
  refine n_size h0 hw (by simp only [List.length_append, List.length_cons, List.length_nil, shBk, shHd, shHo, shRo, shSc, shSi, hT] <;> omega) (by simp only [List.length_append, List.length_cons, List.length_nil, shBk, shHd, shHo, shRo, shSc, shSi, hT] <;> omega) (fun hsz => ?_)
  refine n_newa (atype := .char) hx hb (hts _ hdX4_init_achar) (ty := .char) rfl 1 rfl (fun C h => by cases h) (fun n => rfl) rfl hK hw (N := (k+1)) (by simp only [List.length_append, List.length_cons, List.length_nil, shBk, shHd, shHo, shRo, shSc, shSi, hT] <;> omega) hsz (hf _ (by omega)) (n := 200) (N' := 200) (by decide) (by decide) (Nat.le_of_ble_eq_true rfl) (Nat.le_of_ble_eq_true rfl) (Nat.le_of_ble_eq_true rfl) dX4_init_8 (fun H hw => ?_)
  have hw : hOk D ac (hB base) (T ++ (.inl (4, [some none, none]) :: ([.inr (1, 200)]))) (hU base) s.heap f H [] := by first | exact hw | (rw [hT_push] at hw; exact hw)
  refine n_putF (t := (k+1)) (ty := tyX4 0) hx hb hts hnX4_init_X4 tyX4 tyX4_ok nmX4 hown hK hT hw rfl 0 (by decide) (Nat.le_of_ble_eq_true rfl) rfl hkX4_init_9 rfl hin rfl (tyX4_ok 0 (by decide)) rfl rfl dX4_init_10 (fun H locs hw => ?_)
  have hw : hOk D ac (hB base) (T ++ (.inl (4, [rf (k+1), none]) :: ([.inr (1, 200)]))) (hU base) s.heap f H locs := by first | exact hw | (rw [hT_push] at hw; exact hw)
  exact n_ret hx hb hr hlocks hw rfl rfl dX4_init_13
theorem hdX3_init_oi1 : Cond.methodLink RX3 3 objectInit ∈ wsX3_init := by decide +kernel
theorem hdX3_init_oi2 : Cond.instanceMethod objectInit ∈ wsX3_init := by decide +kernel
theorem hdX3_init_oi3 : Cond.code objectInit ⟨#[0xb1]⟩ 1 none ∈ wsX3_init := by decide +kernel
theorem hdX3_init_aboolean : Cond.arrayClass .boolean ∈ wsX3_init := by decide +kernel
theorem hnX3_init_X3 : ∀ w ∈ wsX30, w ∈ wsX3_init := by decide +kernel
theorem hkX3_init_9 : Cond.fieldLink RX3 9 (TX3 3).1 (TX3 3).2.1 (TX3 3).2.2.1 ∈ wsX3_init := by decide +kernel
theorem hdX3_init_aint : Cond.arrayClass .int ∈ wsX3_init := by decide +kernel
theorem hkX3_init_15 : Cond.fieldLink RX3 15 (TX3 4).1 (TX3 4).2.1 (TX3 4).2.2.1 ∈ wsX3_init := by decide +kernel
theorem hkX3_init_19 : Cond.fieldLink RX3 19 (TX3 5).1 (TX3 5).2.1 (TX3 5).2.2.1 ∈ wsX3_init := by decide +kernel
theorem hkX3_init_22 : Cond.fieldLink RX3 22 (TX3 6).1 (TX3 6).2.1 (TX3 6).2.2.1 ∈ wsX3_init := by decide +kernel
theorem hkX3_init_25 : Cond.fieldLink RX3 25 (TX3 7).1 (TX3 7).2.1 (TX3 7).2.2.1 ∈ wsX3_init := by decide +kernel
theorem hkX3_init_28 : Cond.fieldLink RX3 28 (TX3 8).1 (TX3 8).2.1 (TX3 8).2.2.1 ∈ wsX3_init := by decide +kernel
theorem hkX3_init_31 : Cond.fieldLink RX3 31 (TX3 9).1 (TX3 9).2.1 (TX3 9).2.2.1 ∈ wsX3_init := by decide +kernel
set_option maxHeartbeats 8000000 in
set_option maxRecDepth 100000 in
theorem nX3_init (l : Launch) (D : va_G) (ac : Nat → ClassId) (base : Nat) (T : List hSh) (k : Nat) (hT : T.length = k) (f : hF) (hf : ∀ j, k ≤ j → f j = fun _ => 0) : Met l yX3_init wsX3_init ({ frames := 1, cells := 7, slots := 41, locals := 12 }) (nPc D ac base (T ++ [.inl (3, [none, none, none, some none, some none, some none, some none, some none, some none, some none])]) f [.ref (hB base k)]) (nQv D ac base (T ++ shRo k) f) 7 41 (hU base) := by
  refine n_enter (C := RX3) (cc := cX3_init) (maxL := 1) (ret := none) (lv := [(0, .ref (hB base k))]) (by decide) rfl rfl rfl (Nat.le_of_ble_eq_true rfl) rfl (fun p e s m below meth c ls hx hb hml hr hlocks hin hN hown hts hK h0 hw hl => ?_)
  refine lv_aload_n hx hb dX3_init_0 rfl (lv_at hl 0 rfl) ?_
  refine W.objInit hx hb hown (hts _ hdX3_init_oi1) (hts _ hdX3_init_oi2) (hts _ hdX3_init_oi3) rfl (by rw [hml]; exact hl.1) rfl dX3_init_1 (Nat.le_of_ble_eq_true rfl) (Nat.le_of_ble_eq_true rfl) ?_
  refine W.eq (g2 := F0 m 4 ls []) rfl ?_
  refine lv_aload_n hx hb dX3_init_4 rfl (lv_at hl 0 rfl) ?_
  refine lv_bipush (v := 8) hx hb dX3_init_5 (by decide) ?_
  refine n_size h0 hw (by simp only [List.length_append, List.length_cons, List.length_nil, shBk, shHd, shHo, shRo, shSc, shSi, hT] <;> omega) (by simp only [List.length_append, List.length_cons, List.length_nil, shBk, shHd, shHo, shRo, shSc, shSi, hT] <;> omega) (fun hsz => ?_)
  refine n_newa (atype := .boolean) hx hb (hts _ hdX3_init_aboolean) (ty := .boolean) rfl 2 rfl (fun C h => by cases h) (fun n => rfl) rfl hK hw (N := (k+1)) (by simp only [List.length_append, List.length_cons, List.length_nil, shBk, shHd, shHo, shRo, shSc, shSi, hT] <;> omega) hsz (hf _ (by omega)) (n := 8) (N' := 8) (by decide) (by decide) (Nat.le_of_ble_eq_true rfl) (Nat.le_of_ble_eq_true rfl) (Nat.le_of_ble_eq_true rfl) dX3_init_7 (fun H hw => ?_)
  have hw : hOk D ac (hB base) (T ++ (.inl (3, [none, none, none, some none, some none, some none, some none, some none, some none, some none]) :: ([.inr (2, 8)]))) (hU base) s.heap f H [] := by first | exact hw | (rw [hT_push] at hw; exact hw)
  refine n_putF (t := (k+1)) (ty := tyX3 3) hx hb hts hnX3_init_X3 tyX3 tyX3_ok nmX3 hown hK hT hw rfl 3 (by decide) (Nat.le_of_ble_eq_true rfl) rfl hkX3_init_9 rfl hin rfl (tyX3_ok 3 (by decide)) rfl rfl dX3_init_9 (fun H locs hw => ?_)
  have hw : hOk D ac (hB base) (T ++ (.inl (3, [none, none, none, rf (k+1), some none, some none, some none, some none, some none, some none]) :: ([.inr (2, 8)]))) (hU base) s.heap f H locs := by first | exact hw | (rw [hT_push] at hw; exact hw)
  refine lv_aload_n hx hb dX3_init_12 rfl (lv_at hl 0 rfl) ?_
  refine lv_bipush (v := 8) hx hb dX3_init_13 (by decide) ?_
  refine n_size h0 hw (by simp only [List.length_append, List.length_cons, List.length_nil, shBk, shHd, shHo, shRo, shSc, shSi, hT] <;> omega) (by simp only [List.length_append, List.length_cons, List.length_nil, shBk, shHd, shHo, shRo, shSc, shSi, hT] <;> omega) (fun hsz => ?_)
  refine n_newa (atype := .int) hx hb (hts _ hdX3_init_aint) (ty := .int) rfl 0 rfl (fun C h => by cases h) (fun n => rfl) rfl hK hw (N := (k+2)) (by simp only [List.length_append, List.length_cons, List.length_nil, shBk, shHd, shHo, shRo, shSc, shSi, hT] <;> omega) hsz (hf _ (by omega)) (n := 8) (N' := 8) (by decide) (by decide) (Nat.le_of_ble_eq_true rfl) (Nat.le_of_ble_eq_true rfl) (Nat.le_of_ble_eq_true rfl) dX3_init_15 (fun H hw => ?_)
  have hw : hOk D ac (hB base) (T ++ (.inl (3, [none, none, none, rf (k+1), some none, some none, some none, some none, some none, some none]) :: ([.inr (2, 8), .inr (0, 8)]))) (hU base) s.heap f H locs := by first | exact hw | (rw [hT_push] at hw; exact hw)
  refine n_putF (t := (k+2)) (ty := tyX3 4) hx hb hts hnX3_init_X3 tyX3 tyX3_ok nmX3 hown hK hT hw rfl 4 (by decide) (Nat.le_of_ble_eq_true rfl) rfl hkX3_init_15 rfl hin rfl (tyX3_ok 4 (by decide)) rfl rfl dX3_init_17 (fun H locs hw => ?_)
  have hw : hOk D ac (hB base) (T ++ (.inl (3, [none, none, none, rf (k+1), rf (k+2), some none, some none, some none, some none, some none]) :: ([.inr (2, 8), .inr (0, 8)]))) (hU base) s.heap f H locs := by first | exact hw | (rw [hT_push] at hw; exact hw)
  refine lv_aload_n hx hb dX3_init_20 rfl (lv_at hl 0 rfl) ?_
  refine lv_bipush (v := 8) hx hb dX3_init_21 (by decide) ?_
  refine n_size h0 hw (by simp only [List.length_append, List.length_cons, List.length_nil, shBk, shHd, shHo, shRo, shSc, shSi, hT] <;> omega) (by simp only [List.length_append, List.length_cons, List.length_nil, shBk, shHd, shHo, shRo, shSc, shSi, hT] <;> omega) (fun hsz => ?_)
  refine n_newa (atype := .int) hx hb (hts _ hdX3_init_aint) (ty := .int) rfl 0 rfl (fun C h => by cases h) (fun n => rfl) rfl hK hw (N := (k+3)) (by simp only [List.length_append, List.length_cons, List.length_nil, shBk, shHd, shHo, shRo, shSc, shSi, hT] <;> omega) hsz (hf _ (by omega)) (n := 8) (N' := 8) (by decide) (by decide) (Nat.le_of_ble_eq_true rfl) (Nat.le_of_ble_eq_true rfl) (Nat.le_of_ble_eq_true rfl) dX3_init_23 (fun H hw => ?_)
  have hw : hOk D ac (hB base) (T ++ (.inl (3, [none, none, none, rf (k+1), rf (k+2), some none, some none, some none, some none, some none]) :: ([.inr (2, 8), .inr (0, 8), .inr (0, 8)]))) (hU base) s.heap f H locs := by first | exact hw | (rw [hT_push] at hw; exact hw)
  refine n_putF (t := (k+3)) (ty := tyX3 5) hx hb hts hnX3_init_X3 tyX3 tyX3_ok nmX3 hown hK hT hw rfl 5 (by decide) (Nat.le_of_ble_eq_true rfl) rfl hkX3_init_19 rfl hin rfl (tyX3_ok 5 (by decide)) rfl rfl dX3_init_25 (fun H locs hw => ?_)
  have hw : hOk D ac (hB base) (T ++ (.inl (3, [none, none, none, rf (k+1), rf (k+2), rf (k+3), some none, some none, some none, some none]) :: ([.inr (2, 8), .inr (0, 8), .inr (0, 8)]))) (hU base) s.heap f H locs := by first | exact hw | (rw [hT_push] at hw; exact hw)
  refine lv_aload_n hx hb dX3_init_28 rfl (lv_at hl 0 rfl) ?_
  refine lv_bipush (v := 8) hx hb dX3_init_29 (by decide) ?_
  refine n_size h0 hw (by simp only [List.length_append, List.length_cons, List.length_nil, shBk, shHd, shHo, shRo, shSc, shSi, hT] <;> omega) (by simp only [List.length_append, List.length_cons, List.length_nil, shBk, shHd, shHo, shRo, shSc, shSi, hT] <;> omega) (fun hsz => ?_)
  refine n_newa (atype := .int) hx hb (hts _ hdX3_init_aint) (ty := .int) rfl 0 rfl (fun C h => by cases h) (fun n => rfl) rfl hK hw (N := (k+4)) (by simp only [List.length_append, List.length_cons, List.length_nil, shBk, shHd, shHo, shRo, shSc, shSi, hT] <;> omega) hsz (hf _ (by omega)) (n := 8) (N' := 8) (by decide) (by decide) (Nat.le_of_ble_eq_true rfl) (Nat.le_of_ble_eq_true rfl) (Nat.le_of_ble_eq_true rfl) dX3_init_31 (fun H hw => ?_)
  have hw : hOk D ac (hB base) (T ++ (.inl (3, [none, none, none, rf (k+1), rf (k+2), rf (k+3), some none, some none, some none, some none]) :: ([.inr (2, 8), .inr (0, 8), .inr (0, 8), .inr (0, 8)]))) (hU base) s.heap f H locs := by first | exact hw | (rw [hT_push] at hw; exact hw)
  refine n_putF (t := (k+4)) (ty := tyX3 6) hx hb hts hnX3_init_X3 tyX3 tyX3_ok nmX3 hown hK hT hw rfl 6 (by decide) (Nat.le_of_ble_eq_true rfl) rfl hkX3_init_22 rfl hin rfl (tyX3_ok 6 (by decide)) rfl rfl dX3_init_33 (fun H locs hw => ?_)
  have hw : hOk D ac (hB base) (T ++ (.inl (3, [none, none, none, rf (k+1), rf (k+2), rf (k+3), rf (k+4), some none, some none, some none]) :: ([.inr (2, 8), .inr (0, 8), .inr (0, 8), .inr (0, 8)]))) (hU base) s.heap f H locs := by first | exact hw | (rw [hT_push] at hw; exact hw)
  refine lv_aload_n hx hb dX3_init_36 rfl (lv_at hl 0 rfl) ?_
  refine lv_iconst (v := 3) hx hb dX3_init_37 (by decide) ?_
  refine n_size h0 hw (by simp only [List.length_append, List.length_cons, List.length_nil, shBk, shHd, shHo, shRo, shSc, shSi, hT] <;> omega) (by simp only [List.length_append, List.length_cons, List.length_nil, shBk, shHd, shHo, shRo, shSc, shSi, hT] <;> omega) (fun hsz => ?_)
  refine n_newa (atype := .int) hx hb (hts _ hdX3_init_aint) (ty := .int) rfl 0 rfl (fun C h => by cases h) (fun n => rfl) rfl hK hw (N := (k+5)) (by simp only [List.length_append, List.length_cons, List.length_nil, shBk, shHd, shHo, shRo, shSc, shSi, hT] <;> omega) hsz (hf _ (by omega)) (n := 3) (N' := 3) (by decide) (by decide) (Nat.le_of_ble_eq_true rfl) (Nat.le_of_ble_eq_true rfl) (Nat.le_of_ble_eq_true rfl) dX3_init_38 (fun H hw => ?_)
  have hw : hOk D ac (hB base) (T ++ (.inl (3, [none, none, none, rf (k+1), rf (k+2), rf (k+3), rf (k+4), some none, some none, some none]) :: ([.inr (2, 8), .inr (0, 8), .inr (0, 8), .inr (0, 8), .inr (0, 3)]))) (hU base) s.heap f H locs := by first | exact hw | (rw [hT_push] at hw; exact hw)
  refine n_putF (t := (k+5)) (ty := tyX3 7) hx hb hts hnX3_init_X3 tyX3 tyX3_ok nmX3 hown hK hT hw rfl 7 (by decide) (Nat.le_of_ble_eq_true rfl) rfl hkX3_init_25 rfl hin rfl (tyX3_ok 7 (by decide)) rfl rfl dX3_init_40 (fun H locs hw => ?_)
  have hw : hOk D ac (hB base) (T ++ (.inl (3, [none, none, none, rf (k+1), rf (k+2), rf (k+3), rf (k+4), rf (k+5), some none, some none]) :: ([.inr (2, 8), .inr (0, 8), .inr (0, 8), .inr (0, 8), .inr (0, 3)]))) (hU base) s.heap f H locs := by first | exact hw | (rw [hT_push] at hw; exact hw)
  refine lv_aload_n hx hb dX3_init_43 rfl (lv_at hl 0 rfl) ?_
  refine lv_iconst (v := 3) hx hb dX3_init_44 (by decide) ?_
  refine n_size h0 hw (by simp only [List.length_append, List.length_cons, List.length_nil, shBk, shHd, shHo, shRo, shSc, shSi, hT] <;> omega) (by simp only [List.length_append, List.length_cons, List.length_nil, shBk, shHd, shHo, shRo, shSc, shSi, hT] <;> omega) (fun hsz => ?_)
  refine n_newa (atype := .int) hx hb (hts _ hdX3_init_aint) (ty := .int) rfl 0 rfl (fun C h => by cases h) (fun n => rfl) rfl hK hw (N := (k+6)) (by simp only [List.length_append, List.length_cons, List.length_nil, shBk, shHd, shHo, shRo, shSc, shSi, hT] <;> omega) hsz (hf _ (by omega)) (n := 3) (N' := 3) (by decide) (by decide) (Nat.le_of_ble_eq_true rfl) (Nat.le_of_ble_eq_true rfl) (Nat.le_of_ble_eq_true rfl) dX3_init_45 (fun H hw => ?_)
  have hw : hOk D ac (hB base) (T ++ (.inl (3, [none, none, none, rf (k+1), rf (k+2), rf (k+3), rf (k+4), rf (k+5), some none, some none]) :: ([.inr (2, 8), .inr (0, 8), .inr (0, 8), .inr (0, 8), .inr (0, 3), .inr (0, 3)]))) (hU base) s.heap f H locs := by first | exact hw | (rw [hT_push] at hw; exact hw)
  refine n_putF (t := (k+6)) (ty := tyX3 8) hx hb hts hnX3_init_X3 tyX3 tyX3_ok nmX3 hown hK hT hw rfl 8 (by decide) (Nat.le_of_ble_eq_true rfl) rfl hkX3_init_28 rfl hin rfl (tyX3_ok 8 (by decide)) rfl rfl dX3_init_47 (fun H locs hw => ?_)
  have hw : hOk D ac (hB base) (T ++ (.inl (3, [none, none, none, rf (k+1), rf (k+2), rf (k+3), rf (k+4), rf (k+5), rf (k+6), some none]) :: ([.inr (2, 8), .inr (0, 8), .inr (0, 8), .inr (0, 8), .inr (0, 3), .inr (0, 3)]))) (hU base) s.heap f H locs := by first | exact hw | (rw [hT_push] at hw; exact hw)
  refine lv_aload_n hx hb dX3_init_50 rfl (lv_at hl 0 rfl) ?_
  refine lv_iconst (v := 3) hx hb dX3_init_51 (by decide) ?_
  refine n_size h0 hw (by simp only [List.length_append, List.length_cons, List.length_nil, shBk, shHd, shHo, shRo, shSc, shSi, hT] <;> omega) (by simp only [List.length_append, List.length_cons, List.length_nil, shBk, shHd, shHo, shRo, shSc, shSi, hT] <;> omega) (fun hsz => ?_)
  refine n_newa (atype := .int) hx hb (hts _ hdX3_init_aint) (ty := .int) rfl 0 rfl (fun C h => by cases h) (fun n => rfl) rfl hK hw (N := (k+7)) (by simp only [List.length_append, List.length_cons, List.length_nil, shBk, shHd, shHo, shRo, shSc, shSi, hT] <;> omega) hsz (hf _ (by omega)) (n := 3) (N' := 3) (by decide) (by decide) (Nat.le_of_ble_eq_true rfl) (Nat.le_of_ble_eq_true rfl) (Nat.le_of_ble_eq_true rfl) dX3_init_52 (fun H hw => ?_)
  have hw : hOk D ac (hB base) (T ++ (.inl (3, [none, none, none, rf (k+1), rf (k+2), rf (k+3), rf (k+4), rf (k+5), rf (k+6), some none]) :: ([.inr (2, 8), .inr (0, 8), .inr (0, 8), .inr (0, 8), .inr (0, 3), .inr (0, 3), .inr (0, 3)]))) (hU base) s.heap f H locs := by first | exact hw | (rw [hT_push] at hw; exact hw)
  refine n_putF (t := (k+7)) (ty := tyX3 9) hx hb hts hnX3_init_X3 tyX3 tyX3_ok nmX3 hown hK hT hw rfl 9 (by decide) (Nat.le_of_ble_eq_true rfl) rfl hkX3_init_31 rfl hin rfl (tyX3_ok 9 (by decide)) rfl rfl dX3_init_54 (fun H locs hw => ?_)
  have hw : hOk D ac (hB base) (T ++ (.inl (3, [none, none, none, rf (k+1), rf (k+2), rf (k+3), rf (k+4), rf (k+5), rf (k+6), rf (k+7)]) :: ([.inr (2, 8), .inr (0, 8), .inr (0, 8), .inr (0, 8), .inr (0, 3), .inr (0, 3), .inr (0, 3)]))) (hU base) s.heap f H locs := by first | exact hw | (rw [hT_push] at hw; exact hw)
  exact n_ret hx hb hr hlocks hw rfl rfl dX3_init_57
theorem hdX0_init_oi1 : Cond.methodLink RX0 3 objectInit ∈ wsX0_init := by decide +kernel
theorem hdX0_init_oi2 : Cond.instanceMethod objectInit ∈ wsX0_init := by decide +kernel
theorem hdX0_init_oi3 : Cond.code objectInit ⟨#[0xb1]⟩ 1 none ∈ wsX0_init := by decide +kernel
theorem hdX0_init_aint : Cond.arrayClass .int ∈ wsX0_init := by decide +kernel
theorem hnX0_init_X0 : ∀ w ∈ wsX00, w ∈ wsX0_init := by decide +kernel
theorem hkX0_init_9 : Cond.fieldLink RX0 9 (TX0 1).1 (TX0 1).2.1 (TX0 1).2.2.1 ∈ wsX0_init := by decide +kernel
theorem hkX0_init_15 : Cond.fieldLink RX0 15 (TX0 2).1 (TX0 2).2.1 (TX0 2).2.2.1 ∈ wsX0_init := by decide +kernel
theorem hkX0_init_18 : Cond.fieldLink RX0 18 (TX0 3).1 (TX0 3).2.1 (TX0 3).2.2.1 ∈ wsX0_init := by decide +kernel
theorem hkX0_init_21 : Cond.fieldLink RX0 21 (TX0 4).1 (TX0 4).2.1 (TX0 4).2.2.1 ∈ wsX0_init := by decide +kernel
theorem hkX0_init_24 : Cond.fieldLink RX0 24 (TX0 5).1 (TX0 5).2.1 (TX0 5).2.2.1 ∈ wsX0_init := by decide +kernel
theorem hkX0_init_27 : Cond.fieldLink RX0 27 (TX0 6).1 (TX0 6).2.1 (TX0 6).2.2.1 ∈ wsX0_init := by decide +kernel
theorem hkX0_init_30 : Cond.fieldLink RX0 30 (TX0 7).1 (TX0 7).2.1 (TX0 7).2.2.1 ∈ wsX0_init := by decide +kernel
theorem hkX0_init_33 : Cond.fieldLink RX0 33 (TX0 8).1 (TX0 8).2.1 (TX0 8).2.2.1 ∈ wsX0_init := by decide +kernel
set_option maxHeartbeats 8000000 in
set_option maxRecDepth 100000 in
theorem nX0_init (l : Launch) (D : va_G) (ac : Nat → ClassId) (base : Nat) (T : List hSh) (k : Nat) (hT : T.length = k) (f : hF) (hf : ∀ j, k ≤ j → f j = fun _ => 0) : Met l yX0_init wsX0_init ({ frames := 1, cells := 8, slots := 134, locals := 12 }) (nPc D ac base (T ++ [.inl (0, [none, some none, some none, some none, some none, some none, some none, some none, some none])]) f [.ref (hB base k)]) (nQv D ac base (T ++ shBk k) f) 8 134 (hU base) := by
  refine n_enter (C := RX0) (cc := cX0_init) (maxL := 1) (ret := none) (lv := [(0, .ref (hB base k))]) (by decide) rfl rfl rfl (Nat.le_of_ble_eq_true rfl) rfl (fun p e s m below meth c ls hx hb hml hr hlocks hin hN hown hts hK h0 hw hl => ?_)
  refine lv_aload_n hx hb dX0_init_0 rfl (lv_at hl 0 rfl) ?_
  refine W.objInit hx hb hown (hts _ hdX0_init_oi1) (hts _ hdX0_init_oi2) (hts _ hdX0_init_oi3) rfl (by rw [hml]; exact hl.1) rfl dX0_init_1 (Nat.le_of_ble_eq_true rfl) (Nat.le_of_ble_eq_true rfl) ?_
  refine W.eq (g2 := F0 m 4 ls []) rfl ?_
  refine lv_aload_n hx hb dX0_init_4 rfl (lv_at hl 0 rfl) ?_
  refine lv_bipush (v := 8) hx hb dX0_init_5 (by decide) ?_
  refine n_size h0 hw (by simp only [List.length_append, List.length_cons, List.length_nil, shBk, shHd, shHo, shRo, shSc, shSi, hT] <;> omega) (by simp only [List.length_append, List.length_cons, List.length_nil, shBk, shHd, shHo, shRo, shSc, shSi, hT] <;> omega) (fun hsz => ?_)
  refine n_newa (atype := .int) hx hb (hts _ hdX0_init_aint) (ty := .int) rfl 0 rfl (fun C h => by cases h) (fun n => rfl) rfl hK hw (N := (k+1)) (by simp only [List.length_append, List.length_cons, List.length_nil, shBk, shHd, shHo, shRo, shSc, shSi, hT] <;> omega) hsz (hf _ (by omega)) (n := 8) (N' := 8) (by decide) (by decide) (Nat.le_of_ble_eq_true rfl) (Nat.le_of_ble_eq_true rfl) (Nat.le_of_ble_eq_true rfl) dX0_init_7 (fun H hw => ?_)
  have hw : hOk D ac (hB base) (T ++ (.inl (0, [none, some none, some none, some none, some none, some none, some none, some none, some none]) :: ([.inr (0, 8)]))) (hU base) s.heap f H [] := by first | exact hw | (rw [hT_push] at hw; exact hw)
  refine n_putF (t := (k+1)) (ty := tyX0 1) hx hb hts hnX0_init_X0 tyX0 tyX0_ok nmX0 hown hK hT hw rfl 1 (by decide) (Nat.le_of_ble_eq_true rfl) rfl hkX0_init_9 rfl hin rfl (tyX0_ok 1 (by decide)) rfl rfl dX0_init_9 (fun H locs hw => ?_)
  have hw : hOk D ac (hB base) (T ++ (.inl (0, [none, rf (k+1), some none, some none, some none, some none, some none, some none, some none]) :: ([.inr (0, 8)]))) (hU base) s.heap f H locs := by first | exact hw | (rw [hT_push] at hw; exact hw)
  refine lv_aload_n hx hb dX0_init_12 rfl (lv_at hl 0 rfl) ?_
  refine lv_iconst (v := 3) hx hb dX0_init_13 (by decide) ?_
  refine n_size h0 hw (by simp only [List.length_append, List.length_cons, List.length_nil, shBk, shHd, shHo, shRo, shSc, shSi, hT] <;> omega) (by simp only [List.length_append, List.length_cons, List.length_nil, shBk, shHd, shHo, shRo, shSc, shSi, hT] <;> omega) (fun hsz => ?_)
  refine n_newa (atype := .int) hx hb (hts _ hdX0_init_aint) (ty := .int) rfl 0 rfl (fun C h => by cases h) (fun n => rfl) rfl hK hw (N := (k+2)) (by simp only [List.length_append, List.length_cons, List.length_nil, shBk, shHd, shHo, shRo, shSc, shSi, hT] <;> omega) hsz (hf _ (by omega)) (n := 3) (N' := 3) (by decide) (by decide) (Nat.le_of_ble_eq_true rfl) (Nat.le_of_ble_eq_true rfl) (Nat.le_of_ble_eq_true rfl) dX0_init_14 (fun H hw => ?_)
  have hw : hOk D ac (hB base) (T ++ (.inl (0, [none, rf (k+1), some none, some none, some none, some none, some none, some none, some none]) :: ([.inr (0, 8), .inr (0, 3)]))) (hU base) s.heap f H locs := by first | exact hw | (rw [hT_push] at hw; exact hw)
  refine n_putF (t := (k+2)) (ty := tyX0 2) hx hb hts hnX0_init_X0 tyX0 tyX0_ok nmX0 hown hK hT hw rfl 2 (by decide) (Nat.le_of_ble_eq_true rfl) rfl hkX0_init_15 rfl hin rfl (tyX0_ok 2 (by decide)) rfl rfl dX0_init_16 (fun H locs hw => ?_)
  have hw : hOk D ac (hB base) (T ++ (.inl (0, [none, rf (k+1), rf (k+2), some none, some none, some none, some none, some none, some none]) :: ([.inr (0, 8), .inr (0, 3)]))) (hU base) s.heap f H locs := by first | exact hw | (rw [hT_push] at hw; exact hw)
  refine lv_aload_n hx hb dX0_init_19 rfl (lv_at hl 0 rfl) ?_
  refine lv_iconst (v := 3) hx hb dX0_init_20 (by decide) ?_
  refine n_size h0 hw (by simp only [List.length_append, List.length_cons, List.length_nil, shBk, shHd, shHo, shRo, shSc, shSi, hT] <;> omega) (by simp only [List.length_append, List.length_cons, List.length_nil, shBk, shHd, shHo, shRo, shSc, shSi, hT] <;> omega) (fun hsz => ?_)
  refine n_newa (atype := .int) hx hb (hts _ hdX0_init_aint) (ty := .int) rfl 0 rfl (fun C h => by cases h) (fun n => rfl) rfl hK hw (N := (k+3)) (by simp only [List.length_append, List.length_cons, List.length_nil, shBk, shHd, shHo, shRo, shSc, shSi, hT] <;> omega) hsz (hf _ (by omega)) (n := 3) (N' := 3) (by decide) (by decide) (Nat.le_of_ble_eq_true rfl) (Nat.le_of_ble_eq_true rfl) (Nat.le_of_ble_eq_true rfl) dX0_init_21 (fun H hw => ?_)
  have hw : hOk D ac (hB base) (T ++ (.inl (0, [none, rf (k+1), rf (k+2), some none, some none, some none, some none, some none, some none]) :: ([.inr (0, 8), .inr (0, 3), .inr (0, 3)]))) (hU base) s.heap f H locs := by first | exact hw | (rw [hT_push] at hw; exact hw)
  refine n_putF (t := (k+3)) (ty := tyX0 3) hx hb hts hnX0_init_X0 tyX0 tyX0_ok nmX0 hown hK hT hw rfl 3 (by decide) (Nat.le_of_ble_eq_true rfl) rfl hkX0_init_18 rfl hin rfl (tyX0_ok 3 (by decide)) rfl rfl dX0_init_23 (fun H locs hw => ?_)
  have hw : hOk D ac (hB base) (T ++ (.inl (0, [none, rf (k+1), rf (k+2), rf (k+3), some none, some none, some none, some none, some none]) :: ([.inr (0, 8), .inr (0, 3), .inr (0, 3)]))) (hU base) s.heap f H locs := by first | exact hw | (rw [hT_push] at hw; exact hw)
  refine lv_aload_n hx hb dX0_init_26 rfl (lv_at hl 0 rfl) ?_
  refine lv_bipush (v := 24) hx hb dX0_init_27 (by decide) ?_
  refine n_size h0 hw (by simp only [List.length_append, List.length_cons, List.length_nil, shBk, shHd, shHo, shRo, shSc, shSi, hT] <;> omega) (by simp only [List.length_append, List.length_cons, List.length_nil, shBk, shHd, shHo, shRo, shSc, shSi, hT] <;> omega) (fun hsz => ?_)
  refine n_newa (atype := .int) hx hb (hts _ hdX0_init_aint) (ty := .int) rfl 0 rfl (fun C h => by cases h) (fun n => rfl) rfl hK hw (N := (k+4)) (by simp only [List.length_append, List.length_cons, List.length_nil, shBk, shHd, shHo, shRo, shSc, shSi, hT] <;> omega) hsz (hf _ (by omega)) (n := 24) (N' := 24) (by decide) (by decide) (Nat.le_of_ble_eq_true rfl) (Nat.le_of_ble_eq_true rfl) (Nat.le_of_ble_eq_true rfl) dX0_init_29 (fun H hw => ?_)
  have hw : hOk D ac (hB base) (T ++ (.inl (0, [none, rf (k+1), rf (k+2), rf (k+3), some none, some none, some none, some none, some none]) :: ([.inr (0, 8), .inr (0, 3), .inr (0, 3), .inr (0, 24)]))) (hU base) s.heap f H locs := by first | exact hw | (rw [hT_push] at hw; exact hw)
  refine n_putF (t := (k+4)) (ty := tyX0 4) hx hb hts hnX0_init_X0 tyX0 tyX0_ok nmX0 hown hK hT hw rfl 4 (by decide) (Nat.le_of_ble_eq_true rfl) rfl hkX0_init_21 rfl hin rfl (tyX0_ok 4 (by decide)) rfl rfl dX0_init_31 (fun H locs hw => ?_)
  have hw : hOk D ac (hB base) (T ++ (.inl (0, [none, rf (k+1), rf (k+2), rf (k+3), rf (k+4), some none, some none, some none, some none]) :: ([.inr (0, 8), .inr (0, 3), .inr (0, 3), .inr (0, 24)]))) (hU base) s.heap f H locs := by first | exact hw | (rw [hT_push] at hw; exact hw)
  refine lv_aload_n hx hb dX0_init_34 rfl (lv_at hl 0 rfl) ?_
  refine lv_bipush (v := 24) hx hb dX0_init_35 (by decide) ?_
  refine n_size h0 hw (by simp only [List.length_append, List.length_cons, List.length_nil, shBk, shHd, shHo, shRo, shSc, shSi, hT] <;> omega) (by simp only [List.length_append, List.length_cons, List.length_nil, shBk, shHd, shHo, shRo, shSc, shSi, hT] <;> omega) (fun hsz => ?_)
  refine n_newa (atype := .int) hx hb (hts _ hdX0_init_aint) (ty := .int) rfl 0 rfl (fun C h => by cases h) (fun n => rfl) rfl hK hw (N := (k+5)) (by simp only [List.length_append, List.length_cons, List.length_nil, shBk, shHd, shHo, shRo, shSc, shSi, hT] <;> omega) hsz (hf _ (by omega)) (n := 24) (N' := 24) (by decide) (by decide) (Nat.le_of_ble_eq_true rfl) (Nat.le_of_ble_eq_true rfl) (Nat.le_of_ble_eq_true rfl) dX0_init_37 (fun H hw => ?_)
  have hw : hOk D ac (hB base) (T ++ (.inl (0, [none, rf (k+1), rf (k+2), rf (k+3), rf (k+4), some none, some none, some none, some none]) :: ([.inr (0, 8), .inr (0, 3), .inr (0, 3), .inr (0, 24), .inr (0, 24)]))) (hU base) s.heap f H locs := by first | exact hw | (rw [hT_push] at hw; exact hw)
  refine n_putF (t := (k+5)) (ty := tyX0 5) hx hb hts hnX0_init_X0 tyX0 tyX0_ok nmX0 hown hK hT hw rfl 5 (by decide) (Nat.le_of_ble_eq_true rfl) rfl hkX0_init_24 rfl hin rfl (tyX0_ok 5 (by decide)) rfl rfl dX0_init_39 (fun H locs hw => ?_)
  have hw : hOk D ac (hB base) (T ++ (.inl (0, [none, rf (k+1), rf (k+2), rf (k+3), rf (k+4), rf (k+5), some none, some none, some none]) :: ([.inr (0, 8), .inr (0, 3), .inr (0, 3), .inr (0, 24), .inr (0, 24)]))) (hU base) s.heap f H locs := by first | exact hw | (rw [hT_push] at hw; exact hw)
  refine lv_aload_n hx hb dX0_init_42 rfl (lv_at hl 0 rfl) ?_
  refine lv_bipush (v := 24) hx hb dX0_init_43 (by decide) ?_
  refine n_size h0 hw (by simp only [List.length_append, List.length_cons, List.length_nil, shBk, shHd, shHo, shRo, shSc, shSi, hT] <;> omega) (by simp only [List.length_append, List.length_cons, List.length_nil, shBk, shHd, shHo, shRo, shSc, shSi, hT] <;> omega) (fun hsz => ?_)
  refine n_newa (atype := .int) hx hb (hts _ hdX0_init_aint) (ty := .int) rfl 0 rfl (fun C h => by cases h) (fun n => rfl) rfl hK hw (N := (k+6)) (by simp only [List.length_append, List.length_cons, List.length_nil, shBk, shHd, shHo, shRo, shSc, shSi, hT] <;> omega) hsz (hf _ (by omega)) (n := 24) (N' := 24) (by decide) (by decide) (Nat.le_of_ble_eq_true rfl) (Nat.le_of_ble_eq_true rfl) (Nat.le_of_ble_eq_true rfl) dX0_init_45 (fun H hw => ?_)
  have hw : hOk D ac (hB base) (T ++ (.inl (0, [none, rf (k+1), rf (k+2), rf (k+3), rf (k+4), rf (k+5), some none, some none, some none]) :: ([.inr (0, 8), .inr (0, 3), .inr (0, 3), .inr (0, 24), .inr (0, 24), .inr (0, 24)]))) (hU base) s.heap f H locs := by first | exact hw | (rw [hT_push] at hw; exact hw)
  refine n_putF (t := (k+6)) (ty := tyX0 6) hx hb hts hnX0_init_X0 tyX0 tyX0_ok nmX0 hown hK hT hw rfl 6 (by decide) (Nat.le_of_ble_eq_true rfl) rfl hkX0_init_27 rfl hin rfl (tyX0_ok 6 (by decide)) rfl rfl dX0_init_47 (fun H locs hw => ?_)
  have hw : hOk D ac (hB base) (T ++ (.inl (0, [none, rf (k+1), rf (k+2), rf (k+3), rf (k+4), rf (k+5), rf (k+6), some none, some none]) :: ([.inr (0, 8), .inr (0, 3), .inr (0, 3), .inr (0, 24), .inr (0, 24), .inr (0, 24)]))) (hU base) s.heap f H locs := by first | exact hw | (rw [hT_push] at hw; exact hw)
  refine lv_aload_n hx hb dX0_init_50 rfl (lv_at hl 0 rfl) ?_
  refine lv_bipush (v := 24) hx hb dX0_init_51 (by decide) ?_
  refine n_size h0 hw (by simp only [List.length_append, List.length_cons, List.length_nil, shBk, shHd, shHo, shRo, shSc, shSi, hT] <;> omega) (by simp only [List.length_append, List.length_cons, List.length_nil, shBk, shHd, shHo, shRo, shSc, shSi, hT] <;> omega) (fun hsz => ?_)
  refine n_newa (atype := .int) hx hb (hts _ hdX0_init_aint) (ty := .int) rfl 0 rfl (fun C h => by cases h) (fun n => rfl) rfl hK hw (N := (k+7)) (by simp only [List.length_append, List.length_cons, List.length_nil, shBk, shHd, shHo, shRo, shSc, shSi, hT] <;> omega) hsz (hf _ (by omega)) (n := 24) (N' := 24) (by decide) (by decide) (Nat.le_of_ble_eq_true rfl) (Nat.le_of_ble_eq_true rfl) (Nat.le_of_ble_eq_true rfl) dX0_init_53 (fun H hw => ?_)
  have hw : hOk D ac (hB base) (T ++ (.inl (0, [none, rf (k+1), rf (k+2), rf (k+3), rf (k+4), rf (k+5), rf (k+6), some none, some none]) :: ([.inr (0, 8), .inr (0, 3), .inr (0, 3), .inr (0, 24), .inr (0, 24), .inr (0, 24), .inr (0, 24)]))) (hU base) s.heap f H locs := by first | exact hw | (rw [hT_push] at hw; exact hw)
  refine n_putF (t := (k+7)) (ty := tyX0 7) hx hb hts hnX0_init_X0 tyX0 tyX0_ok nmX0 hown hK hT hw rfl 7 (by decide) (Nat.le_of_ble_eq_true rfl) rfl hkX0_init_30 rfl hin rfl (tyX0_ok 7 (by decide)) rfl rfl dX0_init_55 (fun H locs hw => ?_)
  have hw : hOk D ac (hB base) (T ++ (.inl (0, [none, rf (k+1), rf (k+2), rf (k+3), rf (k+4), rf (k+5), rf (k+6), rf (k+7), some none]) :: ([.inr (0, 8), .inr (0, 3), .inr (0, 3), .inr (0, 24), .inr (0, 24), .inr (0, 24), .inr (0, 24)]))) (hU base) s.heap f H locs := by first | exact hw | (rw [hT_push] at hw; exact hw)
  refine lv_aload_n hx hb dX0_init_58 rfl (lv_at hl 0 rfl) ?_
  refine lv_bipush (v := 24) hx hb dX0_init_59 (by decide) ?_
  refine n_size h0 hw (by simp only [List.length_append, List.length_cons, List.length_nil, shBk, shHd, shHo, shRo, shSc, shSi, hT] <;> omega) (by simp only [List.length_append, List.length_cons, List.length_nil, shBk, shHd, shHo, shRo, shSc, shSi, hT] <;> omega) (fun hsz => ?_)
  refine n_newa (atype := .int) hx hb (hts _ hdX0_init_aint) (ty := .int) rfl 0 rfl (fun C h => by cases h) (fun n => rfl) rfl hK hw (N := (k+8)) (by simp only [List.length_append, List.length_cons, List.length_nil, shBk, shHd, shHo, shRo, shSc, shSi, hT] <;> omega) hsz (hf _ (by omega)) (n := 24) (N' := 24) (by decide) (by decide) (Nat.le_of_ble_eq_true rfl) (Nat.le_of_ble_eq_true rfl) (Nat.le_of_ble_eq_true rfl) dX0_init_61 (fun H hw => ?_)
  have hw : hOk D ac (hB base) (T ++ (.inl (0, [none, rf (k+1), rf (k+2), rf (k+3), rf (k+4), rf (k+5), rf (k+6), rf (k+7), some none]) :: ([.inr (0, 8), .inr (0, 3), .inr (0, 3), .inr (0, 24), .inr (0, 24), .inr (0, 24), .inr (0, 24), .inr (0, 24)]))) (hU base) s.heap f H locs := by first | exact hw | (rw [hT_push] at hw; exact hw)
  refine n_putF (t := (k+8)) (ty := tyX0 8) hx hb hts hnX0_init_X0 tyX0 tyX0_ok nmX0 hown hK hT hw rfl 8 (by decide) (Nat.le_of_ble_eq_true rfl) rfl hkX0_init_33 rfl hin rfl (tyX0_ok 8 (by decide)) rfl rfl dX0_init_63 (fun H locs hw => ?_)
  have hw : hOk D ac (hB base) (T ++ (.inl (0, [none, rf (k+1), rf (k+2), rf (k+3), rf (k+4), rf (k+5), rf (k+6), rf (k+7), rf (k+8)]) :: ([.inr (0, 8), .inr (0, 3), .inr (0, 3), .inr (0, 24), .inr (0, 24), .inr (0, 24), .inr (0, 24), .inr (0, 24)]))) (hU base) s.heap f H locs := by first | exact hw | (rw [hT_push] at hw; exact hw)
  exact n_ret hx hb hr hlocks hw rfl rfl dX0_init_66
theorem hdX6_init_oi1 : Cond.methodLink RX6 3 objectInit ∈ wsX6_init := by decide +kernel
theorem hdX6_init_oi2 : Cond.instanceMethod objectInit ∈ wsX6_init := by decide +kernel
theorem hdX6_init_oi3 : Cond.code objectInit ⟨#[0xb1]⟩ 1 none ∈ wsX6_init := by decide +kernel
theorem hdX6_init_aint : Cond.arrayClass .int ∈ wsX6_init := by decide +kernel
theorem hnX6_init_X6 : ∀ w ∈ wsX60, w ∈ wsX6_init := by decide +kernel
theorem hkX6_init_9 : Cond.fieldLink RX6 9 (TX6 1).1 (TX6 1).2.1 (TX6 1).2.2.1 ∈ wsX6_init := by decide +kernel
theorem hkX6_init_15 : Cond.fieldLink RX6 15 (TX6 2).1 (TX6 2).2.1 (TX6 2).2.2.1 ∈ wsX6_init := by decide +kernel
theorem hkX6_init_18 : Cond.fieldLink RX6 18 (TX6 3).1 (TX6 3).2.1 (TX6 3).2.2.1 ∈ wsX6_init := by decide +kernel
theorem hdX6_init_aboolean : Cond.arrayClass .boolean ∈ wsX6_init := by decide +kernel
theorem hkX6_init_21 : Cond.fieldLink RX6 21 (TX6 4).1 (TX6 4).2.1 (TX6 4).2.2.1 ∈ wsX6_init := by decide +kernel
set_option maxHeartbeats 8000000 in
set_option maxRecDepth 100000 in
theorem nX6_init (l : Launch) (D : va_G) (ac : Nat → ClassId) (base : Nat) (T : List hSh) (k : Nat) (hT : T.length = k) (f : hF) (hf : ∀ j, k ≤ j → f j = fun _ => 0) : Met l yX6_init wsX6_init ({ frames := 1, cells := 4, slots := 24, locals := 12 }) (nPc D ac base (T ++ [.inl (6, [none, some none, some none, some none, some none])]) f [.ref (hB base k)]) (nQv D ac base (T ++ shSi k) f) 4 24 (hU base) := by
  refine n_enter (C := RX6) (cc := cX6_init) (maxL := 1) (ret := none) (lv := [(0, .ref (hB base k))]) (by decide) rfl rfl rfl (Nat.le_of_ble_eq_true rfl) rfl (fun p e s m below meth c ls hx hb hml hr hlocks hin hN hown hts hK h0 hw hl => ?_)
  refine lv_aload_n hx hb dX6_init_0 rfl (lv_at hl 0 rfl) ?_
  refine W.objInit hx hb hown (hts _ hdX6_init_oi1) (hts _ hdX6_init_oi2) (hts _ hdX6_init_oi3) rfl (by rw [hml]; exact hl.1) rfl dX6_init_1 (Nat.le_of_ble_eq_true rfl) (Nat.le_of_ble_eq_true rfl) ?_
  refine W.eq (g2 := F0 m 4 ls []) rfl ?_
  refine lv_aload_n hx hb dX6_init_4 rfl (lv_at hl 0 rfl) ?_
  refine lv_bipush (v := 6) hx hb dX6_init_5 (by decide) ?_
  refine n_size h0 hw (by simp only [List.length_append, List.length_cons, List.length_nil, shBk, shHd, shHo, shRo, shSc, shSi, hT] <;> omega) (by simp only [List.length_append, List.length_cons, List.length_nil, shBk, shHd, shHo, shRo, shSc, shSi, hT] <;> omega) (fun hsz => ?_)
  refine n_newa (atype := .int) hx hb (hts _ hdX6_init_aint) (ty := .int) rfl 0 rfl (fun C h => by cases h) (fun n => rfl) rfl hK hw (N := (k+1)) (by simp only [List.length_append, List.length_cons, List.length_nil, shBk, shHd, shHo, shRo, shSc, shSi, hT] <;> omega) hsz (hf _ (by omega)) (n := 6) (N' := 6) (by decide) (by decide) (Nat.le_of_ble_eq_true rfl) (Nat.le_of_ble_eq_true rfl) (Nat.le_of_ble_eq_true rfl) dX6_init_7 (fun H hw => ?_)
  have hw : hOk D ac (hB base) (T ++ (.inl (6, [none, some none, some none, some none, some none]) :: ([.inr (0, 6)]))) (hU base) s.heap f H [] := by first | exact hw | (rw [hT_push] at hw; exact hw)
  refine n_putF (t := (k+1)) (ty := tyX6 1) hx hb hts hnX6_init_X6 tyX6 tyX6_ok nmX6 hown hK hT hw rfl 1 (by decide) (Nat.le_of_ble_eq_true rfl) rfl hkX6_init_9 rfl hin rfl (tyX6_ok 1 (by decide)) rfl rfl dX6_init_9 (fun H locs hw => ?_)
  have hw : hOk D ac (hB base) (T ++ (.inl (6, [none, rf (k+1), some none, some none, some none]) :: ([.inr (0, 6)]))) (hU base) s.heap f H locs := by first | exact hw | (rw [hT_push] at hw; exact hw)
  refine lv_aload_n hx hb dX6_init_12 rfl (lv_at hl 0 rfl) ?_
  refine lv_bipush (v := 6) hx hb dX6_init_13 (by decide) ?_
  refine n_size h0 hw (by simp only [List.length_append, List.length_cons, List.length_nil, shBk, shHd, shHo, shRo, shSc, shSi, hT] <;> omega) (by simp only [List.length_append, List.length_cons, List.length_nil, shBk, shHd, shHo, shRo, shSc, shSi, hT] <;> omega) (fun hsz => ?_)
  refine n_newa (atype := .int) hx hb (hts _ hdX6_init_aint) (ty := .int) rfl 0 rfl (fun C h => by cases h) (fun n => rfl) rfl hK hw (N := (k+2)) (by simp only [List.length_append, List.length_cons, List.length_nil, shBk, shHd, shHo, shRo, shSc, shSi, hT] <;> omega) hsz (hf _ (by omega)) (n := 6) (N' := 6) (by decide) (by decide) (Nat.le_of_ble_eq_true rfl) (Nat.le_of_ble_eq_true rfl) (Nat.le_of_ble_eq_true rfl) dX6_init_15 (fun H hw => ?_)
  have hw : hOk D ac (hB base) (T ++ (.inl (6, [none, rf (k+1), some none, some none, some none]) :: ([.inr (0, 6), .inr (0, 6)]))) (hU base) s.heap f H locs := by first | exact hw | (rw [hT_push] at hw; exact hw)
  refine n_putF (t := (k+2)) (ty := tyX6 2) hx hb hts hnX6_init_X6 tyX6 tyX6_ok nmX6 hown hK hT hw rfl 2 (by decide) (Nat.le_of_ble_eq_true rfl) rfl hkX6_init_15 rfl hin rfl (tyX6_ok 2 (by decide)) rfl rfl dX6_init_17 (fun H locs hw => ?_)
  have hw : hOk D ac (hB base) (T ++ (.inl (6, [none, rf (k+1), rf (k+2), some none, some none]) :: ([.inr (0, 6), .inr (0, 6)]))) (hU base) s.heap f H locs := by first | exact hw | (rw [hT_push] at hw; exact hw)
  refine lv_aload_n hx hb dX6_init_20 rfl (lv_at hl 0 rfl) ?_
  refine lv_bipush (v := 6) hx hb dX6_init_21 (by decide) ?_
  refine n_size h0 hw (by simp only [List.length_append, List.length_cons, List.length_nil, shBk, shHd, shHo, shRo, shSc, shSi, hT] <;> omega) (by simp only [List.length_append, List.length_cons, List.length_nil, shBk, shHd, shHo, shRo, shSc, shSi, hT] <;> omega) (fun hsz => ?_)
  refine n_newa (atype := .int) hx hb (hts _ hdX6_init_aint) (ty := .int) rfl 0 rfl (fun C h => by cases h) (fun n => rfl) rfl hK hw (N := (k+3)) (by simp only [List.length_append, List.length_cons, List.length_nil, shBk, shHd, shHo, shRo, shSc, shSi, hT] <;> omega) hsz (hf _ (by omega)) (n := 6) (N' := 6) (by decide) (by decide) (Nat.le_of_ble_eq_true rfl) (Nat.le_of_ble_eq_true rfl) (Nat.le_of_ble_eq_true rfl) dX6_init_23 (fun H hw => ?_)
  have hw : hOk D ac (hB base) (T ++ (.inl (6, [none, rf (k+1), rf (k+2), some none, some none]) :: ([.inr (0, 6), .inr (0, 6), .inr (0, 6)]))) (hU base) s.heap f H locs := by first | exact hw | (rw [hT_push] at hw; exact hw)
  refine n_putF (t := (k+3)) (ty := tyX6 3) hx hb hts hnX6_init_X6 tyX6 tyX6_ok nmX6 hown hK hT hw rfl 3 (by decide) (Nat.le_of_ble_eq_true rfl) rfl hkX6_init_18 rfl hin rfl (tyX6_ok 3 (by decide)) rfl rfl dX6_init_25 (fun H locs hw => ?_)
  have hw : hOk D ac (hB base) (T ++ (.inl (6, [none, rf (k+1), rf (k+2), rf (k+3), some none]) :: ([.inr (0, 6), .inr (0, 6), .inr (0, 6)]))) (hU base) s.heap f H locs := by first | exact hw | (rw [hT_push] at hw; exact hw)
  refine lv_aload_n hx hb dX6_init_28 rfl (lv_at hl 0 rfl) ?_
  refine lv_bipush (v := 6) hx hb dX6_init_29 (by decide) ?_
  refine n_size h0 hw (by simp only [List.length_append, List.length_cons, List.length_nil, shBk, shHd, shHo, shRo, shSc, shSi, hT] <;> omega) (by simp only [List.length_append, List.length_cons, List.length_nil, shBk, shHd, shHo, shRo, shSc, shSi, hT] <;> omega) (fun hsz => ?_)
  refine n_newa (atype := .boolean) hx hb (hts _ hdX6_init_aboolean) (ty := .boolean) rfl 2 rfl (fun C h => by cases h) (fun n => rfl) rfl hK hw (N := (k+4)) (by simp only [List.length_append, List.length_cons, List.length_nil, shBk, shHd, shHo, shRo, shSc, shSi, hT] <;> omega) hsz (hf _ (by omega)) (n := 6) (N' := 6) (by decide) (by decide) (Nat.le_of_ble_eq_true rfl) (Nat.le_of_ble_eq_true rfl) (Nat.le_of_ble_eq_true rfl) dX6_init_31 (fun H hw => ?_)
  have hw : hOk D ac (hB base) (T ++ (.inl (6, [none, rf (k+1), rf (k+2), rf (k+3), some none]) :: ([.inr (0, 6), .inr (0, 6), .inr (0, 6), .inr (2, 6)]))) (hU base) s.heap f H locs := by first | exact hw | (rw [hT_push] at hw; exact hw)
  refine n_putF (t := (k+4)) (ty := tyX6 4) hx hb hts hnX6_init_X6 tyX6 tyX6_ok nmX6 hown hK hT hw rfl 4 (by decide) (Nat.le_of_ble_eq_true rfl) rfl hkX6_init_21 rfl hin rfl (tyX6_ok 4 (by decide)) rfl rfl dX6_init_33 (fun H locs hw => ?_)
  have hw : hOk D ac (hB base) (T ++ (.inl (6, [none, rf (k+1), rf (k+2), rf (k+3), rf (k+4)]) :: ([.inr (0, 6), .inr (0, 6), .inr (0, 6), .inr (2, 6)]))) (hU base) s.heap f H locs := by first | exact hw | (rw [hT_push] at hw; exact hw)
  exact n_ret hx hb hr hlocks hw rfl rfl dX6_init_36
theorem hdX1_init_oi1 : Cond.methodLink RX1 3 objectInit ∈ wsX1_init := by decide +kernel
theorem hdX1_init_oi2 : Cond.instanceMethod objectInit ∈ wsX1_init := by decide +kernel
theorem hdX1_init_oi3 : Cond.code objectInit ⟨#[0xb1]⟩ 1 none ∈ wsX1_init := by decide +kernel
theorem hdX1_init_aint : Cond.arrayClass .int ∈ wsX1_init := by decide +kernel
theorem hnX1_init_X1 : ∀ w ∈ wsX10, w ∈ wsX1_init := by decide +kernel
theorem hkX1_init_9 : Cond.fieldLink RX1 9 (TX1 1).1 (TX1 1).2.1 (TX1 1).2.2.1 ∈ wsX1_init := by decide +kernel
theorem hkX1_init_15 : Cond.fieldLink RX1 15 (TX1 2).1 (TX1 2).2.1 (TX1 2).2.2.1 ∈ wsX1_init := by decide +kernel
theorem hkX1_init_18 : Cond.fieldLink RX1 18 (TX1 0).1 (TX1 0).2.1 (TX1 0).2.2.1 ∈ wsX1_init := by decide +kernel
set_option maxHeartbeats 8000000 in
set_option maxRecDepth 100000 in
theorem nX1_init (l : Launch) (D : va_G) (ac : Nat → ClassId) (base : Nat) (T : List hSh) (k : Nat) (bk : Nat) (hT : T.length = k) (f : hF) (hf : ∀ j, k ≤ j → f j = fun _ => 0) : Met l yX1_init wsX1_init ({ frames := 1, cells := 2, slots := 11, locals := 12 }) (nPc D ac base (T ++ [.inl (1, [some none, some none, some none])]) f [.ref (hB base k), .ref (hB base bk)]) (nQv D ac base (T ++ shHd k bk) f) 2 11 (hU base) := by
  refine n_enter (C := RX1) (cc := cX1_init) (maxL := 2) (ret := none) (lv := [(0, .ref (hB base k)), (1, .ref (hB base bk))]) (by decide) rfl rfl rfl (Nat.le_of_ble_eq_true rfl) rfl (fun p e s m below meth c ls hx hb hml hr hlocks hin hN hown hts hK h0 hw hl => ?_)
  refine lv_aload_n hx hb dX1_init_0 rfl (lv_at hl 0 rfl) ?_
  refine W.objInit hx hb hown (hts _ hdX1_init_oi1) (hts _ hdX1_init_oi2) (hts _ hdX1_init_oi3) rfl (by rw [hml]; exact hl.1) rfl dX1_init_1 (Nat.le_of_ble_eq_true rfl) (Nat.le_of_ble_eq_true rfl) ?_
  refine W.eq (g2 := F0 m 4 ls []) rfl ?_
  refine lv_aload_n hx hb dX1_init_4 rfl (lv_at hl 0 rfl) ?_
  refine lv_bipush (v := 8) hx hb dX1_init_5 (by decide) ?_
  refine n_size h0 hw (by simp only [List.length_append, List.length_cons, List.length_nil, shBk, shHd, shHo, shRo, shSc, shSi, hT] <;> omega) (by simp only [List.length_append, List.length_cons, List.length_nil, shBk, shHd, shHo, shRo, shSc, shSi, hT] <;> omega) (fun hsz => ?_)
  refine n_newa (atype := .int) hx hb (hts _ hdX1_init_aint) (ty := .int) rfl 0 rfl (fun C h => by cases h) (fun n => rfl) rfl hK hw (N := (k+1)) (by simp only [List.length_append, List.length_cons, List.length_nil, shBk, shHd, shHo, shRo, shSc, shSi, hT] <;> omega) hsz (hf _ (by omega)) (n := 8) (N' := 8) (by decide) (by decide) (Nat.le_of_ble_eq_true rfl) (Nat.le_of_ble_eq_true rfl) (Nat.le_of_ble_eq_true rfl) dX1_init_7 (fun H hw => ?_)
  have hw : hOk D ac (hB base) (T ++ (.inl (1, [some none, some none, some none]) :: ([.inr (0, 8)]))) (hU base) s.heap f H [] := by first | exact hw | (rw [hT_push] at hw; exact hw)
  refine n_putF (t := (k+1)) (ty := tyX1 1) hx hb hts hnX1_init_X1 tyX1 tyX1_ok nmX1 hown hK hT hw rfl 1 (by decide) (Nat.le_of_ble_eq_true rfl) rfl hkX1_init_9 rfl hin rfl (tyX1_ok 1 (by decide)) rfl rfl dX1_init_9 (fun H locs hw => ?_)
  have hw : hOk D ac (hB base) (T ++ (.inl (1, [some none, rf (k+1), some none]) :: ([.inr (0, 8)]))) (hU base) s.heap f H locs := by first | exact hw | (rw [hT_push] at hw; exact hw)
  refine lv_aload_n hx hb dX1_init_12 rfl (lv_at hl 0 rfl) ?_
  refine lv_iconst (v := 3) hx hb dX1_init_13 (by decide) ?_
  refine n_size h0 hw (by simp only [List.length_append, List.length_cons, List.length_nil, shBk, shHd, shHo, shRo, shSc, shSi, hT] <;> omega) (by simp only [List.length_append, List.length_cons, List.length_nil, shBk, shHd, shHo, shRo, shSc, shSi, hT] <;> omega) (fun hsz => ?_)
  refine n_newa (atype := .int) hx hb (hts _ hdX1_init_aint) (ty := .int) rfl 0 rfl (fun C h => by cases h) (fun n => rfl) rfl hK hw (N := (k+2)) (by simp only [List.length_append, List.length_cons, List.length_nil, shBk, shHd, shHo, shRo, shSc, shSi, hT] <;> omega) hsz (hf _ (by omega)) (n := 3) (N' := 3) (by decide) (by decide) (Nat.le_of_ble_eq_true rfl) (Nat.le_of_ble_eq_true rfl) (Nat.le_of_ble_eq_true rfl) dX1_init_14 (fun H hw => ?_)
  have hw : hOk D ac (hB base) (T ++ (.inl (1, [some none, rf (k+1), some none]) :: ([.inr (0, 8), .inr (0, 3)]))) (hU base) s.heap f H locs := by first | exact hw | (rw [hT_push] at hw; exact hw)
  refine n_putF (t := (k+2)) (ty := tyX1 2) hx hb hts hnX1_init_X1 tyX1 tyX1_ok nmX1 hown hK hT hw rfl 2 (by decide) (Nat.le_of_ble_eq_true rfl) rfl hkX1_init_15 rfl hin rfl (tyX1_ok 2 (by decide)) rfl rfl dX1_init_16 (fun H locs hw => ?_)
  have hw : hOk D ac (hB base) (T ++ (.inl (1, [some none, rf (k+1), rf (k+2)]) :: ([.inr (0, 8), .inr (0, 3)]))) (hU base) s.heap f H locs := by first | exact hw | (rw [hT_push] at hw; exact hw)
  refine lv_aload_n hx hb dX1_init_19 rfl (lv_at hl 0 rfl) ?_
  refine lv_aload_n hx hb dX1_init_20 rfl (lv_at hl 1 rfl) ?_
  refine n_putF (t := bk) (ty := tyX1 0) hx hb hts hnX1_init_X1 tyX1 tyX1_ok nmX1 hown hK hT hw rfl 0 (by decide) (Nat.le_of_ble_eq_true rfl) rfl hkX1_init_18 rfl hin rfl (tyX1_ok 0 (by decide)) rfl rfl dX1_init_21 (fun H locs hw => ?_)
  have hw : hOk D ac (hB base) (T ++ (.inl (1, [rf bk, rf (k+1), rf (k+2)]) :: ([.inr (0, 8), .inr (0, 3)]))) (hU base) s.heap f H locs := by first | exact hw | (rw [hT_push] at hw; exact hw)
  exact n_ret hx hb hr hlocks hw rfl rfl dX1_init_24
theorem hdX2_init_oi1 : Cond.methodLink RX2 3 objectInit ∈ wsX2_init := by decide +kernel
theorem hdX2_init_oi2 : Cond.instanceMethod objectInit ∈ wsX2_init := by decide +kernel
theorem hdX2_init_oi3 : Cond.code objectInit ⟨#[0xb1]⟩ 1 none ∈ wsX2_init := by decide +kernel
theorem hdX2_init_cl9 : Cond.classLink RX2 9 RX0 ∈ wsX2_init := by decide +kernel
theorem hdX2_init_inX0 : Cond.instantiable RX0 9 ∈ wsX2_init := by decide +kernel
theorem hdX2_init_iiX0 : Cond.initialized RX0 ∈ wsX2_init := by decide +kernel
theorem hnX2_init_X0 : ∀ w ∈ wsX00, w ∈ wsX2_init := by decide +kernel
theorem hdX2_init_imX0_init : Cond.instanceMethod yX0_init ∈ wsX2_init := by decide +kernel
theorem hnX2_init_X2 : ∀ w ∈ wsX20, w ∈ wsX2_init := by decide +kernel
theorem hkX2_init_12 : Cond.fieldLink RX2 12 (TX2 1).1 (TX2 1).2.1 (TX2 1).2.2.1 ∈ wsX2_init := by decide +kernel
theorem hdX2_init_cl18 : Cond.classLink RX2 18 RX1 ∈ wsX2_init := by decide +kernel
theorem hdX2_init_inX1 : Cond.instantiable RX1 3 ∈ wsX2_init := by decide +kernel
theorem hdX2_init_iiX1 : Cond.initialized RX1 ∈ wsX2_init := by decide +kernel
theorem hnX2_init_X1 : ∀ w ∈ wsX10, w ∈ wsX2_init := by decide +kernel
theorem hdX2_init_imX1_init : Cond.instanceMethod yX1_init ∈ wsX2_init := by decide +kernel
theorem hdX2_init_ml20 : Cond.methodLink RX2 20 yX1_init ∈ wsX2_init := by decide +kernel
theorem hkX2_init_23 : Cond.fieldLink RX2 23 (TX2 2).1 (TX2 2).2.1 (TX2 2).2.2.1 ∈ wsX2_init := by decide +kernel
theorem hdX2_init_aint : Cond.arrayClass .int ∈ wsX2_init := by decide +kernel
theorem hkX2_init_27 : Cond.fieldLink RX2 27 (TX2 3).1 (TX2 3).2.1 (TX2 3).2.2.1 ∈ wsX2_init := by decide +kernel
theorem hkX2_init_31 : Cond.fieldLink RX2 31 (TX2 0).1 (TX2 0).2.1 (TX2 0).2.2.1 ∈ wsX2_init := by decide +kernel
set_option maxHeartbeats 8000000 in
set_option maxRecDepth 100000 in
theorem nX2_init (l : Launch) (D : va_G) (ac : Nat → ClassId) (base : Nat) (T : List hSh) (k : Nat) (ro : Nat) (hT : T.length = k) (f : hF) (hf : ∀ j, k ≤ j → f j = fun _ => 0) : Met l yX2_init wsX2_init ({ frames := 2, cells := 13, slots := 165, locals := 33 }) (nPc D ac base (T ++ [.inl (2, [some none, some none, some none, some none])]) f [.ref (hB base k), .ref (hB base ro)]) (nQv D ac base (T ++ shHo k ro) f) 13 165 (hU base) := by
  refine n_enter (C := RX2) (cc := cX2_init) (maxL := 2) (ret := none) (lv := [(0, .ref (hB base k)), (1, .ref (hB base ro))]) (by decide) rfl rfl rfl (Nat.le_of_ble_eq_true rfl) rfl (fun p e s m below meth c ls hx hb hml hr hlocks hin hN hown hts hK h0 hw hl => ?_)
  refine lv_aload_n hx hb dX2_init_0 rfl (lv_at hl 0 rfl) ?_
  refine W.objInit hx hb hown (hts _ hdX2_init_oi1) (hts _ hdX2_init_oi2) (hts _ hdX2_init_oi3) rfl (by rw [hml]; exact hl.1) rfl dX2_init_1 (Nat.le_of_ble_eq_true rfl) (Nat.le_of_ble_eq_true rfl) ?_
  refine W.eq (g2 := F0 m 4 ls []) rfl ?_
  refine lv_aload_n hx hb dX2_init_4 rfl (lv_at hl 0 rfl) ?_
  refine n_size h0 hw (by simp only [List.length_append, List.length_cons, List.length_nil, shBk, shHd, shHo, shRo, shSc, shSi, hT] <;> omega) (by simp only [List.length_append, List.length_cons, List.length_nil, shBk, shHd, shHo, shRo, shSc, shSi, hT] <;> omega) (fun hsz => ?_)
  refine n_newo (ci := 0) (fl := [none, some none, some none, some none, some none, some none, some none, some none, some none]) hx hb hts hnX2_init_X0 tyX0 tyX0_ok hown (hts _ hdX2_init_cl9) (hts _ hdX2_init_inX0) (hts _ hdX2_init_iiX0) hK hw (Nn := (k+1)) (by simp only [List.length_append, List.length_cons, List.length_nil, shBk, shHd, shHo, shRo, shSc, shSi, hT] <;> omega) hsz (hf _ (by omega)) rfl (fun j hj => by rcases (show j = 0 ∨ j = 1 ∨ j = 2 ∨ j = 3 ∨ j = 4 ∨ j = 5 ∨ j = 6 ∨ j = 7 ∨ j = 8 by omega) with rfl | rfl | rfl | rfl | rfl | rfl | rfl | rfl | rfl <;> rfl) (Nat.le_of_ble_eq_true rfl) (Nat.le_of_ble_eq_true rfl) dX2_init_5 (fun H hw => ?_)
  refine lv_dup hx hb dX2_init_8 rfl ?_
  refine n_size h0 hw (by simp only [List.length_append, List.length_cons, List.length_nil, shBk, shHd, shHo, shRo, shSc, shSi, hT] <;> omega) (by simp only [List.length_append, List.length_cons, List.length_nil, shBk, shHd, shHo, shRo, shSc, shSi, hT] <;> omega) (fun hsz => ?_)
  refine n_call hw (va_runIN (As := []) (rest := [.ref (hB base (k+1)), .ref (hB base k)]) ⟨hx, hb, hml, hown, hts⟩ (nX0_init l D ac base (T ++ (.inl (2, [some none, some none, some none, some none]) :: ([]))) (k+1)  (by simp only [List.length_append, List.length_cons, List.length_nil, shBk, shHd, shHo, shRo, shSc, shSi, hT] <;> omega) f (fun j hj => hf j (by omega))) ⟨va_cnB 0 hts gX2_init_X0_init_n11 rfl rfl rfl hN.2.2.2.1 (hts _ hdX2_init_iiX0) (by decide +kernel) ⟨Nat.le_of_ble_eq_true rfl, Nat.le_of_ble_eq_true rfl⟩, rfl, hts _ hdX2_init_imX0_init⟩ (n_pre hN hK hw hsz _) rfl rfl hl.1 rfl (lv_room (Nat.le_of_ble_eq_true rfl)) dX2_init_9 ⟨Nat.le_of_ble_eq_true rfl, Nat.le_of_ble_eq_true rfl⟩) (fun H locs hw => ?_)
  have hw : hOk D ac (hB base) (T ++ (.inl (2, [some none, some none, some none, some none]) :: (shBk (k+1)))) (hU base) s.heap f H locs := by first | exact hw | (rw [hT_push] at hw; exact hw)
  refine n_putF (t := (k+1)) (ty := tyX2 1) hx hb hts hnX2_init_X2 tyX2 tyX2_ok nmX2 hown hK hT hw rfl 1 (by decide) (Nat.le_of_ble_eq_true rfl) rfl hkX2_init_12 rfl hin rfl (tyX2_ok 1 (by decide)) rfl rfl dX2_init_12 (fun H locs hw => ?_)
  have hw : hOk D ac (hB base) (T ++ (.inl (2, [some none, rf (k+1), some none, some none]) :: (shBk (k+1)))) (hU base) s.heap f H locs := by first | exact hw | (rw [hT_push] at hw; exact hw)
  refine lv_aload_n hx hb dX2_init_15 rfl (lv_at hl 0 rfl) ?_
  refine n_size h0 hw (by simp only [List.length_append, List.length_cons, List.length_nil, shBk, shHd, shHo, shRo, shSc, shSi, hT] <;> omega) (by simp only [List.length_append, List.length_cons, List.length_nil, shBk, shHd, shHo, shRo, shSc, shSi, hT] <;> omega) (fun hsz => ?_)
  refine n_newo (ci := 1) (fl := [some none, some none, some none]) hx hb hts hnX2_init_X1 tyX1 tyX1_ok hown (hts _ hdX2_init_cl18) (hts _ hdX2_init_inX1) (hts _ hdX2_init_iiX1) hK hw (Nn := (k+10)) (by simp only [List.length_append, List.length_cons, List.length_nil, shBk, shHd, shHo, shRo, shSc, shSi, hT] <;> omega) hsz (hf _ (by omega)) rfl (fun j hj => by rcases (show j = 0 ∨ j = 1 ∨ j = 2 by omega) with rfl | rfl | rfl <;> rfl) (Nat.le_of_ble_eq_true rfl) (Nat.le_of_ble_eq_true rfl) dX2_init_16 (fun H hw => ?_)
  refine lv_dup hx hb dX2_init_19 rfl ?_
  refine lv_aload_n hx hb dX2_init_20 rfl (lv_at hl 0 rfl) ?_
  refine h_getR (t := (k+1)) (fl := [some none, rf (k+1), some none, some none]) hx hb hts hnX2_init_X2 hown hK hw (by first | exact hT_get hT | (rw [hT_push]; exact hT_get hT)) rfl 1 (by decide) rfl hkX2_init_12 dX2_init_21 ?_
  refine n_size h0 hw (by simp only [List.length_append, List.length_cons, List.length_nil, shBk, shHd, shHo, shRo, shSc, shSi, hT] <;> omega) (by simp only [List.length_append, List.length_cons, List.length_nil, shBk, shHd, shHo, shRo, shSc, shSi, hT] <;> omega) (fun hsz => ?_)
  refine n_call hw (va_runI (As := [.ref (hB base (k+1))]) (rest := [.ref (hB base (k+10)), .ref (hB base k)]) ⟨hx, hb, hml, hown, hts⟩ (nX1_init l D ac base (T ++ (.inl (2, [some none, rf (k+1), some none, some none]) :: (shBk (k+1)))) (k+10) (k+1) (by simp only [List.length_append, List.length_cons, List.length_nil, shBk, shHd, shHo, shRo, shSc, shSi, hT] <;> omega) f (fun j hj => hf j (by omega))) (cwI 1 hts gX2_init_X1_init rfl rfl rfl (hts _ hdX2_init_iiX1) (hts _ hdX2_init_ml20) (hts _ hdX2_init_imX1_init) rfl (by decide +kernel) ⟨Nat.le_of_ble_eq_true rfl, Nat.le_of_ble_eq_true rfl⟩) (n_pre hN hK hw hsz _) rfl rfl hl.1 rfl (lv_room (Nat.le_of_ble_eq_true rfl)) dX2_init_24 ⟨Nat.le_of_ble_eq_true rfl, Nat.le_of_ble_eq_true rfl⟩) (fun H locs hw => ?_)
  have hw : hOk D ac (hB base) (T ++ (.inl (2, [some none, rf (k+1), some none, some none]) :: (shBk (k+1) ++ shHd (k+10) (k+1)))) (hU base) s.heap f H locs := by first | exact hw | (rw [hT_push] at hw; exact hw)
  refine n_putF (t := (k+10)) (ty := tyX2 2) hx hb hts hnX2_init_X2 tyX2 tyX2_ok nmX2 hown hK hT hw rfl 2 (by decide) (Nat.le_of_ble_eq_true rfl) rfl hkX2_init_23 rfl hin rfl (tyX2_ok 2 (by decide)) rfl rfl dX2_init_27 (fun H locs hw => ?_)
  have hw : hOk D ac (hB base) (T ++ (.inl (2, [some none, rf (k+1), rf (k+10), some none]) :: (shBk (k+1) ++ shHd (k+10) (k+1)))) (hU base) s.heap f H locs := by first | exact hw | (rw [hT_push] at hw; exact hw)
  refine lv_aload_n hx hb dX2_init_30 rfl (lv_at hl 0 rfl) ?_
  refine lv_bipush (v := 8) hx hb dX2_init_31 (by decide) ?_
  refine n_size h0 hw (by simp only [List.length_append, List.length_cons, List.length_nil, shBk, shHd, shHo, shRo, shSc, shSi, hT] <;> omega) (by simp only [List.length_append, List.length_cons, List.length_nil, shBk, shHd, shHo, shRo, shSc, shSi, hT] <;> omega) (fun hsz => ?_)
  refine n_newa (atype := .int) hx hb (hts _ hdX2_init_aint) (ty := .int) rfl 0 rfl (fun C h => by cases h) (fun n => rfl) rfl hK hw (N := (k+13)) (by simp only [List.length_append, List.length_cons, List.length_nil, shBk, shHd, shHo, shRo, shSc, shSi, hT] <;> omega) hsz (hf _ (by omega)) (n := 8) (N' := 8) (by decide) (by decide) (Nat.le_of_ble_eq_true rfl) (Nat.le_of_ble_eq_true rfl) (Nat.le_of_ble_eq_true rfl) dX2_init_33 (fun H hw => ?_)
  have hw : hOk D ac (hB base) (T ++ (.inl (2, [some none, rf (k+1), rf (k+10), some none]) :: (shBk (k+1) ++ shHd (k+10) (k+1) ++ [.inr (0, 8)]))) (hU base) s.heap f H locs := by first | exact hw | (rw [hT_push] at hw; exact hw)
  refine n_putF (t := (k+13)) (ty := tyX2 3) hx hb hts hnX2_init_X2 tyX2 tyX2_ok nmX2 hown hK hT hw rfl 3 (by decide) (Nat.le_of_ble_eq_true rfl) rfl hkX2_init_27 rfl hin rfl (tyX2_ok 3 (by decide)) rfl rfl dX2_init_35 (fun H locs hw => ?_)
  have hw : hOk D ac (hB base) (T ++ (.inl (2, [some none, rf (k+1), rf (k+10), rf (k+13)]) :: (shBk (k+1) ++ shHd (k+10) (k+1) ++ [.inr (0, 8)]))) (hU base) s.heap f H locs := by first | exact hw | (rw [hT_push] at hw; exact hw)
  refine lv_aload_n hx hb dX2_init_38 rfl (lv_at hl 0 rfl) ?_
  refine lv_aload_n hx hb dX2_init_39 rfl (lv_at hl 1 rfl) ?_
  refine n_putF (t := ro) (ty := tyX2 0) hx hb hts hnX2_init_X2 tyX2 tyX2_ok nmX2 hown hK hT hw rfl 0 (by decide) (Nat.le_of_ble_eq_true rfl) rfl hkX2_init_31 rfl hin rfl (tyX2_ok 0 (by decide)) rfl rfl dX2_init_40 (fun H locs hw => ?_)
  have hw : hOk D ac (hB base) (T ++ (.inl (2, [rf ro, rf (k+1), rf (k+10), rf (k+13)]) :: (shBk (k+1) ++ shHd (k+10) (k+1) ++ [.inr (0, 8)]))) (hU base) s.heap f H locs := by first | exact hw | (rw [hT_push] at hw; exact hw)
  exact n_ret hx hb hr hlocks hw rfl rfl dX2_init_43
def shBlk (k : Nat) : Nat → List hSh
  | 0 => []
  | i+1 => shBlk k i ++ shBk (k+2+9*i)
theorem shBlk_len (k i : Nat) : (shBlk k i).length = 9 * i := by
  induction i with
  | zero => rfl
  | succ i ih =>
    rw [shBlk, List.length_append, ih]
    show 9 * i + 9 = _
    omega
def shSh (k w : Nat) : List hSh := .inl (5, [rf (k+1), none]) :: (.inr (3, w) :: shBlk k w)
theorem shSh_len (k w : Nat) : (shSh k w).length = 2 + 9 * w := by
  simp only [shSh, List.length_cons, shBlk_len]
  omega
def fShelf (f : hF) (k w : Nat) : hF := stA f (k+1) (fun m => if m < w then nI (k+2+9*m) else 0)
theorem fShelf_hi {f : hF} {k w j : Nat} (h : j ≠ k + 1) : fShelf f k w j = f j := by simp [fShelf, stA, h]
theorem fShelf_0 {f : hF} {k : Nat} (h : f (k+1) = fun _ => 0) : fShelf f k 0 = f := by
  funext j
  by_cases hj : j = k + 1
  · subst hj
    simp [fShelf, stA, h]
  · exact fShelf_hi hj
theorem fShelf_s {f : hF} {k i : Nat} : st2 (fShelf f k i) (k+1) i (nI (k+2+9*i)) = fShelf f k (i+1) := by
  funext j
  by_cases hj : j = k + 1
  · subst hj
    funext m
    by_cases hm : m = i
    · subst hm
      simp [st2, fShelf, stA, upd]
    · simp only [st2, fShelf, stA, upd, if_true, hm, if_false]
      by_cases h2 : m < i
      · rw [if_pos h2, if_pos (by omega)]
      · rw [if_neg h2, if_neg (by omega)]
  · simp [st2, fShelf, stA, hj]
theorem shBlk_at (k i : Nat) (o a : hSh) : (o :: (a :: shBlk k (i+1)))[2 + 9 * i]? = (shBk (k+2+9*i))[0]? := by
  rw [show 2 + 9 * i = 9 * i + 1 + 1 by omega, List.getElem?_cons_succ, List.getElem?_cons_succ, shBlk, List.getElem?_append_right (by rw [shBlk_len]; exact Nat.le_refl _), shBlk_len, Nat.sub_self]
theorem hdX5_init_oi1 : Cond.methodLink RX5 1 objectInit ∈ wsX5_init := by decide +kernel
theorem hdX5_init_oi2 : Cond.instanceMethod objectInit ∈ wsX5_init := by decide +kernel
theorem hdX5_init_oi3 : Cond.code objectInit ⟨#[0xb1]⟩ 1 none ∈ wsX5_init := by decide +kernel
theorem hdX5_init_cl7 : Cond.classLink RX5 7 RX0 ∈ wsX5_init := by decide +kernel
theorem hdX5_init_in0 : Cond.instantiable RX0 9 ∈ wsX5_init := by decide +kernel
theorem hdX5_init_ii0 : Cond.initialized RX0 ∈ wsX5_init := by decide +kernel
theorem hdX5_init_im : Cond.instanceMethod yX0_init ∈ wsX5_init := by decide +kernel
theorem hnX5_init_X5 : ∀ w ∈ wsX50, w ∈ wsX5_init := by decide +kernel
theorem hnX5_init_X0 : ∀ w ∈ wsX00, w ∈ wsX5_init := by decide +kernel
theorem hkX5_init_9 : Cond.fieldLink RX5 9 (TX5 0).1 (TX5 0).2.1 (TX5 0).2.2.1 ∈ wsX5_init := by decide +kernel
set_option maxHeartbeats 8000000 in
set_option maxRecDepth 100000 in
theorem nX5_init (l : Launch) (D : va_G) (ac : Nat → ClassId) (base : Nat) (T : List hSh) (k w : Nat) (hT : T.length = k) (f : hF) (hf : ∀ j, k ≤ j → f j = fun _ => 0) (hkw : k + 2 + 9 * w < 1000) : Met l yX5_init wsX5_init ({ frames := 2, cells := 1 + 9 * w, slots := w + 143 * w, locals := 32 }) (nPc D ac base (T ++ [.inl (5, [some none, none])]) f [.ref (hB base k), .int (nI w)]) (nQv D ac base (T ++ shSh k w) (fShelf f k w)) (1 + 9 * w) (w + 143 * w) (hU base) := by
  refine n_enter (C := RX5) (cc := cX5_init) (maxL := 3) (ret := none) (lv := [(0, .ref (hB base k)), (1, .int (nI w))]) (by decide) rfl rfl rfl (Nat.le_of_ble_eq_true rfl) rfl (fun p e s m below meth c ls hx hb hml hr hlocks hin hN hown hts hK h0 hw hl => ?_)
  have hN0 : (nI w).toNatClampNeg = w := nI_clamp (by omega)
  have hlen0 : (T ++ [(.inl (5, [some none, none]) : hSh)]).length = k + 1 := by rw [List.length_append, hT]; rfl
  have key : ∀ (r i : Nat), i + r = w → ∀ (H : Heap) (locs : List Loc) (ls : Array Slot), hOk D ac (hB base) (T ++ (.inl (5, [rf (k+1), none]) :: (.inr (3, w) :: shBlk k i))) (hU base) s.heap (fShelf f k i) H locs → lv_has ls 3 [(0, .ref (hB base k)), (2, .int (nI i))] → W p l e ({ frames := 2, cells := 1 + 9 * w, slots := w + 143 * w, locals := 32 } : Room) s m ([.ref (hB base k), .int (nI w)] : List Value).toArray below meth c H locs (1 + 9 * i) (w + 143 * i) (MQ below (nQv D ac base (T ++ shSh k w) (fShelf f k w)) ([.ref (hB base k), .int (nI w)] : List Value).toArray s (1 + 9 * w) (w + 143 * w) (hU base)) (F0 m 22 ls []) := by
    intro r
    induction r with
    | zero =>
      intro i hi H locs ls hw hl
      have hiw : i = w := by omega
      rw [hiw] at hw hl
      rw [hiw]
      refine lv_iload_n hx hb dX5_init_22 rfl (lv_at hl 1 rfl) ?_
      refine lv_aload_n hx hb dX5_init_23 rfl (lv_at hl 0 rfl) ?_
      refine h_getR (t := k+1) (fl := [rf (k+1), none]) hx hb hts hnX5_init_X5 hown hK hw (hT_get hT) rfl 0 (by decide) rfl hkX5_init_9 dX5_init_24 ?_
      refine h_alen (v := nI w) hx hb hK hw ((hT_at hT 1).trans rfl) (by decide) rfl dX5_init_27 ?_
      refine lv_icmp_ge (tgt := 50) hx hb dX5_init_28 (by decide) (fun _ => ?_) (fun hc => absurd (nI_le (Nat.le_refl _) (by omega)) hc)
      exact n_ret hx hb hr hlocks hw rfl rfl dX5_init_50
    | succ r ih =>
      intro i hi H locs ls hw hl
      have hlen : (T ++ ((.inl (5, [rf (k+1), none]) : hSh) :: (.inr (3, w) :: shBlk k i))).length = k + 2 + 9 * i := by
        rw [List.length_append, hT, List.length_cons, List.length_cons, shBlk_len]; omega
      refine lv_iload_n hx hb dX5_init_22 rfl (lv_at hl 1 rfl) ?_
      refine lv_aload_n hx hb dX5_init_23 rfl (lv_at hl 0 rfl) ?_
      refine h_getR (t := k+1) (fl := [rf (k+1), none]) hx hb hts hnX5_init_X5 hown hK hw (hT_get hT) rfl 0 (by decide) rfl hkX5_init_9 dX5_init_24 ?_
      refine h_alen (v := nI w) hx hb hK hw ((hT_at hT 1).trans rfl) (by decide) rfl dX5_init_27 ?_
      refine lv_icmp_ge (tgt := 50) hx hb dX5_init_28 (by decide) (fun hc => absurd hc (nI_ge (by omega) (by omega))) (fun _ => ?_)
      refine lv_aload_n hx hb dX5_init_31 rfl (lv_at hl 0 rfl) ?_
      refine h_getR (t := k+1) (fl := [rf (k+1), none]) hx hb hts hnX5_init_X5 hown hK hw (hT_get hT) rfl 0 (by decide) rfl hkX5_init_9 dX5_init_32 ?_
      refine lv_iload_n hx hb dX5_init_35 rfl (lv_at hl 1 rfl) ?_
      refine n_size h0 hw (by rw [hlen, hlen0]; omega) (by omega) (fun hsz => ?_)
      refine n_newo (ci := 0) (fl := [none, some none, some none, some none, some none, some none, some none, some none, some none]) hx hb hts hnX5_init_X0 tyX0 tyX0_ok hown (hts _ hdX5_init_cl7) (hts _ hdX5_init_in0) (hts _ hdX5_init_ii0) hK hw (Nn := k+2+9*i) hlen hsz ((fShelf_hi (by omega)).trans (hf _ (by omega))) rfl (fun j hj => by rcases (show j = 0 ∨ j = 1 ∨ j = 2 ∨ j = 3 ∨ j = 4 ∨ j = 5 ∨ j = 6 ∨ j = 7 ∨ j = 8 by omega) with rfl | rfl | rfl | rfl | rfl | rfl | rfl | rfl | rfl <;> rfl) (by show 1 + 9 * i + 1 ≤ 1 + 9 * w; omega) (by show w + 143 * i + 9 ≤ w + 143 * w; omega) dX5_init_36 (fun H hw => ?_)
      refine lv_dup hx hb dX5_init_39 rfl ?_
      refine n_size h0 hw (by rw [List.length_append, hlen, hlen0]; show k + 2 + 9 * i + 1 = _; omega) (by rw [List.length_append, hlen]; omega) (fun hsz => ?_)
      refine n_call hw (va_runIN (As := []) (rest := [.ref (hB base (k+2+9*i)), .int (nI i), .ref (hB base (k+1))]) ⟨hx, hb, hml, hown, hts⟩ (nX0_init l D ac base (T ++ (.inl (5, [rf (k+1), none]) :: (.inr (3, w) :: shBlk k i))) (k+2+9*i) hlen (fShelf f k i) (fun j hj => (fShelf_hi (by omega)).trans (hf j (by omega)))) ⟨va_cnB 0 hts gX5_init_X0_init_n15 rfl rfl rfl hN.2.2.2.2.1 (hts _ hdX5_init_ii0) (by decide +kernel) ⟨Nat.le_of_ble_eq_true rfl, Nat.le_of_ble_eq_true rfl⟩, rfl, hts _ hdX5_init_im⟩ (n_pre hN hK hw hsz _) rfl rfl hl.1 rfl (lv_room (Nat.le_of_ble_eq_true rfl)) dX5_init_40 ⟨by show 1 + 9 * i + 1 + 8 ≤ 1 + 9 * w; omega, by show w + 143 * i + 9 + 134 ≤ w + 143 * w; omega⟩) (fun H locs hw => ?_)
      have hw : hOk D ac (hB base) (T ++ (.inl (5, [rf (k+1), none]) :: (.inr (3, w) :: shBlk k (i+1)))) (hU base) s.heap (fShelf f k i) H locs := by rw [hT_push] at hw; exact hw
      have hlen2 : (T ++ ((.inl (5, [rf (k+1), none]) : hSh) :: (.inr (3, w) :: shBlk k (i+1)))).length < 1000 := by
        rw [List.length_append, hT, List.length_cons, List.length_cons, shBlk_len]; omega
      have hix : (nI i).toNatClampNeg = i := nI_clamp (by omega)
      refine h_aast (g := fShelf f k (i+1)) (t := k+2+9*i) (by omega) (by rw [hix, fShelf_s]) hx hb hK hw hlen2 ((hT_at hT 1).trans rfl) (by rw [show k + 2 + 9 * i = k + (2 + 9 * i) by omega, hT_at hT, shBlk_at]; rfl) (vp_in_nI (by omega) (by omega)) dX5_init_43 (fun H locs hw => ?_)
      refine lv_iinc (v := nI (i+1)) (lv' := [(2, .int (nI (i+1))), (0, .ref (hB base k))]) hx hb dX5_init_44 hl (k := 1) rfl (by rw [← nI_1]; rfl) (by decide) rfl (fun ls hl => ?_)
      refine lv_goto (tgt := 22) hx hb dX5_init_47 (by decide) ?_
      refine W.cs (cells' := 1 + 9 * (i+1)) (slots' := w + 143 * (i+1)) (by omega) (by omega) ?_
      exact ih (i+1) (by omega) H locs ls hw (lv_sub hl [1, 0] rfl)
  refine lv_aload_n hx hb dX5_init_0 rfl (lv_at hl 0 rfl) ?_
  refine W.objInit hx hb hown (hts _ hdX5_init_oi1) (hts _ hdX5_init_oi2) (hts _ hdX5_init_oi3) rfl (by rw [hml]; exact hl.1) rfl dX5_init_1 (Nat.le_of_ble_eq_true rfl) (Nat.le_of_ble_eq_true rfl) ?_
  refine W.eq (g2 := F0 m 4 ls []) rfl ?_
  refine lv_aload_n hx hb dX5_init_4 rfl (lv_at hl 0 rfl) ?_
  refine lv_iload_n hx hb dX5_init_5 rfl (lv_at hl 1 rfl) ?_
  refine lv_if_ge (tgt := 13) hx hb dX5_init_6 (by decide) (fun _ => ?_) (fun hc => absurd (nI_pos' (by omega)) hc)
  refine lv_iload_n hx hb dX5_init_13 rfl (lv_at hl 1 rfl) ?_
  refine n_size h0 hw (by omega) (by rw [hlen0]; omega) (fun hsz => ?_)
  refine n_anew hx hb rfl hown (hts _ hdX5_init_cl7) hN.2.2.2.2.2 hK hw (N := k+1) hlen0 hsz (hf _ (by omega)) (nI_pos (by omega)) hN0 (by omega) (by show 0 + 1 ≤ 1 + 9 * w; omega) (by show 0 + w ≤ w + 143 * w; omega) dX5_init_14 (fun H hw => ?_)
  have hw : hOk D ac (hB base) (T ++ (.inl (5, [some none, none]) :: [.inr (3, w)])) (hU base) s.heap f H [] := by rw [hT_push] at hw; exact hw
  refine n_putF (t := k+1) (ty := tyX5 0) hx hb hts hnX5_init_X5 tyX5 tyX5_ok nmX5 hown hK hT hw rfl 0 (by decide) (Nat.le_of_ble_eq_true rfl) rfl hkX5_init_9 rfl hin rfl (tyX5_ok 0 (by decide)) rfl rfl dX5_init_17 (fun H locs hw => ?_)
  refine lv_iconst (v := 0) hx hb dX5_init_20 (by decide) ?_
  refine lv_istore_n (lv' := [(2, .int 0), (0, .ref (hB base k)), (1, .int (nI w))]) hx hb dX5_init_21 rfl hl (by decide) rfl (fun ls hl => ?_)
  refine W.cs (cells' := 1 + 9 * 0) (slots' := w + 143 * 0) (by omega) (by omega) ?_
  exact key w 0 (by omega) H locs ls (by rw [fShelf_0 (hf _ (by omega))]; exact hw) (lv_sub hl [1, 0] rfl)
