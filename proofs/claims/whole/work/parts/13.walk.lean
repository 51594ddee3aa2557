/-! contracts: X5_dropOldest X0_copyFrom X5_put X0_begin X2_writeTwo X2_writeWedding X7_wed X2_refuseBlank X7_leave -/
theorem hnX5_dropOldest_X5 : ∀ w ∈ wsX50, w ∈ wsX5_dropOldest := by decide +kernel
theorem hkX5_dropOldest_9 : Cond.fieldLink RX5 9 (TX5 0).1 (TX5 0).2.1 (TX5 0).2.2.1 ∈ wsX5_dropOldest := by decide +kernel
theorem hkX5_dropOldest_16 : Cond.fieldLink RX5 16 (TX5 1).1 (TX5 1).2.1 (TX5 1).2.2.1 ∈ wsX5_dropOldest := by decide +kernel
set_option maxHeartbeats 8000000 in
set_option maxRecDepth 100000 in
theorem mX5_dropOldest (l : Launch) (D : va_G) (ac : Nat → ClassId) (ad : Nat → Nat) (S : List hSh) (k : Nat) (w : Nat) (f : hF) (gv : hF) (hS : isSh S k w) (h : fX5_dropOldest k w f = some gv) : Met l yX5_dropOldest wsX5_dropOldest ({ frames := 0, cells := 0, slots := 0, locals := 0 }) (hPc D ac ad S f [.ref (ad k)]) (hQv D ac ad S gv) 0 0 (hAd ad S.length) := by
  refine h_enter (C := RX5) (cc := cX5_dropOldest) (maxL := 3) (ret := none) (lv := [(0, .ref (ad k))]) (by decide) rfl rfl (Nat.le_of_ble_eq_true rfl) rfl (fun p e s m below meth c ls hx hb hml hr hlocks hown hts hK hw hl => ?_)
  have J18 : ∀ (n : Nat), (∀ (f : hF) (y1 : Nat) (y2 : Int32) (hy1 : isBk S y1) (py1 : 0 < y1) (H : Heap) (locs : List Loc) (ls : Array Slot), hOk D ac ad S (hAd ad S.length) s.heap f H locs → lv_has ls 3 [(0, .ref (ad k)), (1, .ref (ad y1)), (2, .int y2)] → fX5_dropOldest_18 k w n f y1 y2 = some gv → W p l e ({ frames := 0, cells := 0, slots := 0, locals := 0 } : Room) s m ([.ref (ad k)] : List Value).toArray below meth c H locs 0 0 (MQ below (hQv D ac ad S gv) ([.ref (ad k)] : List Value).toArray s 0 0 (hAd ad S.length)) (F0 m 18 ls [])) := by
    intro n
    induction n with
    | zero =>
      intro f y1 y2 hy1 py1 H locs ls hw hl h
      rw [fX5_dropOldest_18] at h
      cases h
    | succ n ih =>
      intro f y1 y2 hy1 py1 H locs ls hw hl h
      rw [fX5_dropOldest_18] at h
      refine lv_iload_n hx hb dX5_dropOldest_18 rfl (lv_at hl 2 rfl) ?_
      refine lv_aload_n hx hb dX5_dropOldest_19 rfl (lv_at hl 0 rfl) ?_
      refine h_getR hx hb hts hnX5_dropOldest_X5 hown hK hw hS.1 rfl 0 (by decide) rfl hkX5_dropOldest_9 dX5_dropOldest_20 ?_
      refine h_alen (v := (Int32.ofNat w)) hx hb hK hw hS.2.1 (by decide) rfl dX5_dropOldest_23 ?_
      refine lv_icmp_ge (tgt := 47) hx hb dX5_dropOldest_24 (by decide) (fun hc1 => ?_) (fun hc1 => ?_)
      · have h := it hc1 h
        refine lv_aload_n hx hb dX5_dropOldest_47 rfl (lv_at hl 0 rfl) ?_
        refine h_getR hx hb hts hnX5_dropOldest_X5 hown hK hw hS.1 rfl 0 (by decide) rfl hkX5_dropOldest_9 dX5_dropOldest_48 ?_
        refine lv_aload_n hx hb dX5_dropOldest_51 rfl (lv_at hl 0 rfl) ?_
        refine h_getR hx hb hts hnX5_dropOldest_X5 hown hK hw hS.1 rfl 0 (by decide) rfl hkX5_dropOldest_9 dX5_dropOldest_52 ?_
        refine h_alen (v := (Int32.ofNat w)) hx hb hK hw hS.2.1 (by decide) rfl dX5_dropOldest_55 ?_
        refine lv_iconst (v := 1) hx hb dX5_dropOldest_56 (by decide) ?_
        refine lv_isub hx hb dX5_dropOldest_57 ?_
        refine lv_aload_n hx hb dX5_dropOldest_58 rfl (lv_at hl 1 rfl) ?_
        obtain ⟨hi2, h⟩ := gd_s h
        obtain ⟨f3, ef3, h⟩ := lt_s2 h
        refine h_aast (g := f3) py1 ef3 hx hb hK hw hS.2.2.2 hS.2.1 hy1.1 hi2 dX5_dropOldest_59 (fun H locs hw => ?_)
        refine lv_aload_n hx hb dX5_dropOldest_60 rfl (lv_at hl 0 rfl) ?_
        refine lv_aload_n hx hb dX5_dropOldest_61 rfl (lv_at hl 0 rfl) ?_
        refine h_getR hx hb hts hnX5_dropOldest_X5 hown hK hw hS.1 rfl 0 (by decide) rfl hkX5_dropOldest_9 dX5_dropOldest_62 ?_
        refine h_alen (v := (Int32.ofNat w)) hx hb hK hw hS.2.1 (by decide) rfl dX5_dropOldest_65 ?_
        refine lv_iconst (v := 1) hx hb dX5_dropOldest_66 (by decide) ?_
        refine lv_isub hx hb dX5_dropOldest_67 ?_
        obtain ⟨f4, ef4, h⟩ := lt_s2 h
        refine h_putI (g := f4) ef4 hx hb hts hnX5_dropOldest_X5 tyX5 tyX5_ok nmX5 hown hK hw hS.1 rfl 1 rfl (by decide) rfl hkX5_dropOldest_16 rfl (by decide +kernel) dX5_dropOldest_68 (fun H locs hw => ?_)
        exact h_retV hx hb hr hlocks hw (so1 h) dX5_dropOldest_71
      · have h := ie hc1 h
        refine lv_aload_n hx hb dX5_dropOldest_27 rfl (lv_at hl 0 rfl) ?_
        refine h_getR hx hb hts hnX5_dropOldest_X5 hown hK hw hS.1 rfl 0 (by decide) rfl hkX5_dropOldest_9 dX5_dropOldest_28 ?_
        refine lv_iload_n hx hb dX5_dropOldest_31 rfl (lv_at hl 2 rfl) ?_
        refine lv_iconst (v := 1) hx hb dX5_dropOldest_32 (by decide) ?_
        refine lv_isub hx hb dX5_dropOldest_33 ?_
        refine lv_aload_n hx hb dX5_dropOldest_34 rfl (lv_at hl 0 rfl) ?_
        refine h_getR hx hb hts hnX5_dropOldest_X5 hown hK hw hS.1 rfl 0 (by decide) rfl hkX5_dropOldest_9 dX5_dropOldest_35 ?_
        refine lv_iload_n hx hb dX5_dropOldest_38 rfl (lv_at hl 2 rfl) ?_
        obtain ⟨hi5, h⟩ := gd_s h
        obtain ⟨b6, eb6, cb6, h⟩ := ckB_s h
        have hb6 : isBk S b6 := ckB_b hS.2.2.1 cb6
        have pb6 : 0 < b6 := ckB_p cb6
        refine h_aald (t := b6) eb6 hS.2.2.2 hb6.1 (ckB_p cb6) hx hb hK hw hS.2.1 hi5 dX5_dropOldest_39 ?_
        obtain ⟨hi7, h⟩ := gd_s h
        obtain ⟨f8, ef8, h⟩ := lt_s2 h
        refine h_aast (g := f8) pb6 ef8 hx hb hK hw hS.2.2.2 hS.2.1 hb6.1 hi7 dX5_dropOldest_40 (fun H locs hw => ?_)
        refine lv_iinc (v := (y2 + 1)) (lv' := [(2, .int (y2 + 1)), (0, .ref (ad k)), (1, .ref (ad y1))]) hx hb dX5_dropOldest_41 hl (k := 2) rfl rfl (by decide) rfl (fun ls hl => ?_)
        refine lv_goto (tgt := 18) hx hb dX5_dropOldest_44 (by decide) ?_
        exact ih f8 y1 (y2 + 1) hy1 py1 _ _ _ hw (lv_sub hl [1, 2, 0] rfl) h
  unfold fX5_dropOldest at h
  refine lv_aload_n hx hb dX5_dropOldest_0 rfl (lv_at hl 0 rfl) ?_
  refine h_getR hx hb hts hnX5_dropOldest_X5 hown hK hw hS.1 rfl 0 (by decide) rfl hkX5_dropOldest_9 dX5_dropOldest_1 ?_
  refine h_alen (v := (Int32.ofNat w)) hx hb hK hw hS.2.1 (by decide) rfl dX5_dropOldest_4 ?_
  refine lv_if_ne (tgt := 9) hx hb dX5_dropOldest_5 (by decide) (fun hc1 => ?_) (fun hc1 => ?_)
  · have h := ie hc1 h
    refine lv_aload_n hx hb dX5_dropOldest_9 rfl (lv_at hl 0 rfl) ?_
    refine h_getR hx hb hts hnX5_dropOldest_X5 hown hK hw hS.1 rfl 0 (by decide) rfl hkX5_dropOldest_9 dX5_dropOldest_10 ?_
    refine lv_iconst (v := 0) hx hb dX5_dropOldest_13 (by decide) ?_
    obtain ⟨hi2, h⟩ := gd_s h
    obtain ⟨b3, eb3, cb3, h⟩ := ckB_s h
    have hb3 : isBk S b3 := ckB_b hS.2.2.1 cb3
    have pb3 : 0 < b3 := ckB_p cb3
    refine h_aald (t := b3) eb3 hS.2.2.2 hb3.1 (ckB_p cb3) hx hb hK hw hS.2.1 hi2 dX5_dropOldest_14 ?_
    refine lv_astore_n (lv' := [(1, .ref (ad b3)), (0, .ref (ad k))]) hx hb dX5_dropOldest_15 rfl hl (by decide) rfl (fun ls hl => ?_)
    refine lv_iconst (v := 1) hx hb dX5_dropOldest_16 (by decide) ?_
    refine lv_istore_n (lv' := [(2, .int 1), (1, .ref (ad b3)), (0, .ref (ad k))]) hx hb dX5_dropOldest_17 rfl hl (by decide) rfl (fun ls hl => ?_)
    exact J18 _ f b3 1 hb3 pb3 _ _ _ hw (lv_sub hl [2, 1, 0] rfl) h
  · have h := it hc1 h
    exact h_retV hx hb hr hlocks hw (so1 h) dX5_dropOldest_8

theorem hnX0_copyFrom_X0 : ∀ w ∈ wsX00, w ∈ wsX0_copyFrom := by decide +kernel
theorem hkX0_copyFrom_36 : Cond.fieldLink RX0 36 (TX0 0).1 (TX0 0).2.1 (TX0 0).2.2.1 ∈ wsX0_copyFrom := by decide +kernel
theorem hkX0_copyFrom_9 : Cond.fieldLink RX0 9 (TX0 1).1 (TX0 1).2.1 (TX0 1).2.2.1 ∈ wsX0_copyFrom := by decide +kernel
theorem hdX0_copyFrom_ac1_49 : Cond.methodLink RX0 49 arraycopyName ∈ wsX0_copyFrom := by decide +kernel
theorem hdX0_copyFrom_ac2 : Cond.native arraycopyName ∈ wsX0_copyFrom := by decide +kernel
theorem hdX0_copyFrom_ac3 : Cond.static arraycopyName ∈ wsX0_copyFrom := by decide +kernel
theorem hdX0_copyFrom_ac4 : Cond.initialized "java/lang/System" ∈ wsX0_copyFrom := by decide +kernel
theorem hkX0_copyFrom_15 : Cond.fieldLink RX0 15 (TX0 2).1 (TX0 2).2.1 (TX0 2).2.2.1 ∈ wsX0_copyFrom := by decide +kernel
theorem hkX0_copyFrom_18 : Cond.fieldLink RX0 18 (TX0 3).1 (TX0 3).2.1 (TX0 3).2.2.1 ∈ wsX0_copyFrom := by decide +kernel
theorem hkX0_copyFrom_21 : Cond.fieldLink RX0 21 (TX0 4).1 (TX0 4).2.1 (TX0 4).2.2.1 ∈ wsX0_copyFrom := by decide +kernel
theorem hkX0_copyFrom_24 : Cond.fieldLink RX0 24 (TX0 5).1 (TX0 5).2.1 (TX0 5).2.2.1 ∈ wsX0_copyFrom := by decide +kernel
theorem hkX0_copyFrom_27 : Cond.fieldLink RX0 27 (TX0 6).1 (TX0 6).2.1 (TX0 6).2.2.1 ∈ wsX0_copyFrom := by decide +kernel
theorem hkX0_copyFrom_30 : Cond.fieldLink RX0 30 (TX0 7).1 (TX0 7).2.1 (TX0 7).2.2.1 ∈ wsX0_copyFrom := by decide +kernel
theorem hkX0_copyFrom_33 : Cond.fieldLink RX0 33 (TX0 8).1 (TX0 8).2.1 (TX0 8).2.2.1 ∈ wsX0_copyFrom := by decide +kernel
set_option maxHeartbeats 8000000 in
set_option maxRecDepth 100000 in
theorem mX0_copyFrom (l : Launch) (D : va_G) (ac : Nat → ClassId) (ad : Nat → Nat) (S : List hSh) (k : Nat) (o1 : Nat) (f : hF) (gv : hF) (hS : isBk S k) (hA1 : isBk S o1) (h : fX0_copyFrom k o1 f = some gv) : Met l yX0_copyFrom wsX0_copyFrom ({ frames := 1, cells := 0, slots := 0, locals := 32 }) (hPc D ac ad S f [.ref (ad k), .ref (ad o1)]) (hQv D ac ad S gv) 0 0 (hAd ad S.length) := by
  refine h_enter (C := RX0) (cc := cX0_copyFrom) (maxL := 2) (ret := none) (lv := [(0, .ref (ad k)), (1, .ref (ad o1))]) (by decide) rfl rfl (Nat.le_of_ble_eq_true rfl) rfl (fun p e s m below meth c ls hx hb hml hr hlocks hown hts hK hw hl => ?_)
  unfold fX0_copyFrom at h
  refine lv_aload_n hx hb dX0_copyFrom_0 rfl (lv_at hl 0 rfl) ?_
  refine lv_aload_n hx hb dX0_copyFrom_1 rfl (lv_at hl 1 rfl) ?_
  refine h_getI hx hb hts hnX0_copyFrom_X0 hown hK hw hA1.1 rfl 0 (by decide) rfl hkX0_copyFrom_36 dX0_copyFrom_2 ?_
  obtain ⟨f1, ef1, h⟩ := lt_s2 h
  refine h_putI (g := f1) ef1 hx hb hts hnX0_copyFrom_X0 tyX0 tyX0_ok nmX0 hown hK hw hS.1 rfl 0 rfl (by decide) rfl hkX0_copyFrom_36 rfl (by decide +kernel) dX0_copyFrom_5 (fun H locs hw => ?_)
  refine lv_aload_n hx hb dX0_copyFrom_8 rfl (lv_at hl 1 rfl) ?_
  refine h_getR hx hb hts hnX0_copyFrom_X0 hown hK hw hA1.1 rfl 1 (by decide) rfl hkX0_copyFrom_9 dX0_copyFrom_9 ?_
  refine lv_iconst (v := 0) hx hb dX0_copyFrom_12 (by decide) ?_
  refine lv_aload_n hx hb dX0_copyFrom_13 rfl (lv_at hl 0 rfl) ?_
  refine h_getR hx hb hts hnX0_copyFrom_X0 hown hK hw hS.1 rfl 1 (by decide) rfl hkX0_copyFrom_9 dX0_copyFrom_14 ?_
  refine lv_iconst (v := 0) hx hb dX0_copyFrom_17 (by decide) ?_
  refine lv_bipush (v := 8) hx hb dX0_copyFrom_18 (by decide) ?_
  obtain ⟨f2, ef2, h⟩ := lt_s2 h
  refine h_acpy (g := f2) ef2 hx hb (by rw [hml]; exact hl.1.symm) hown (hts _ hdX0_copyFrom_ac1_49) (hts _ hdX0_copyFrom_ac2) (hts _ hdX0_copyFrom_ac3) (hts _ hdX0_copyFrom_ac4) hK hw hA1.2.1 hS.2.1 (by decide) (by decide) (by decide) (by decide) (by decide) (Nat.le_of_ble_eq_true rfl) (Nat.le_of_ble_eq_true rfl) dX0_copyFrom_20 (fun H locs hw => ?_)
  refine lv_aload_n hx hb dX0_copyFrom_23 rfl (lv_at hl 1 rfl) ?_
  refine h_getR hx hb hts hnX0_copyFrom_X0 hown hK hw hA1.1 rfl 2 (by decide) rfl hkX0_copyFrom_15 dX0_copyFrom_24 ?_
  refine lv_iconst (v := 0) hx hb dX0_copyFrom_27 (by decide) ?_
  refine lv_aload_n hx hb dX0_copyFrom_28 rfl (lv_at hl 0 rfl) ?_
  refine h_getR hx hb hts hnX0_copyFrom_X0 hown hK hw hS.1 rfl 2 (by decide) rfl hkX0_copyFrom_15 dX0_copyFrom_29 ?_
  refine lv_iconst (v := 0) hx hb dX0_copyFrom_32 (by decide) ?_
  refine lv_iconst (v := 3) hx hb dX0_copyFrom_33 (by decide) ?_
  obtain ⟨f3, ef3, h⟩ := lt_s2 h
  refine h_acpy (g := f3) ef3 hx hb (by rw [hml]; exact hl.1.symm) hown (hts _ hdX0_copyFrom_ac1_49) (hts _ hdX0_copyFrom_ac2) (hts _ hdX0_copyFrom_ac3) (hts _ hdX0_copyFrom_ac4) hK hw hA1.2.2.1 hS.2.2.1 (by decide) (by decide) (by decide) (by decide) (by decide) (Nat.le_of_ble_eq_true rfl) (Nat.le_of_ble_eq_true rfl) dX0_copyFrom_34 (fun H locs hw => ?_)
  refine lv_aload_n hx hb dX0_copyFrom_37 rfl (lv_at hl 1 rfl) ?_
  refine h_getR hx hb hts hnX0_copyFrom_X0 hown hK hw hA1.1 rfl 3 (by decide) rfl hkX0_copyFrom_18 dX0_copyFrom_38 ?_
  refine lv_iconst (v := 0) hx hb dX0_copyFrom_41 (by decide) ?_
  refine lv_aload_n hx hb dX0_copyFrom_42 rfl (lv_at hl 0 rfl) ?_
  refine h_getR hx hb hts hnX0_copyFrom_X0 hown hK hw hS.1 rfl 3 (by decide) rfl hkX0_copyFrom_18 dX0_copyFrom_43 ?_
  refine lv_iconst (v := 0) hx hb dX0_copyFrom_46 (by decide) ?_
  refine lv_iconst (v := 3) hx hb dX0_copyFrom_47 (by decide) ?_
  obtain ⟨f4, ef4, h⟩ := lt_s2 h
  refine h_acpy (g := f4) ef4 hx hb (by rw [hml]; exact hl.1.symm) hown (hts _ hdX0_copyFrom_ac1_49) (hts _ hdX0_copyFrom_ac2) (hts _ hdX0_copyFrom_ac3) (hts _ hdX0_copyFrom_ac4) hK hw hA1.2.2.2.1 hS.2.2.2.1 (by decide) (by decide) (by decide) (by decide) (by decide) (Nat.le_of_ble_eq_true rfl) (Nat.le_of_ble_eq_true rfl) dX0_copyFrom_48 (fun H locs hw => ?_)
  refine lv_aload_n hx hb dX0_copyFrom_51 rfl (lv_at hl 1 rfl) ?_
  refine h_getR hx hb hts hnX0_copyFrom_X0 hown hK hw hA1.1 rfl 4 (by decide) rfl hkX0_copyFrom_21 dX0_copyFrom_52 ?_
  refine lv_iconst (v := 0) hx hb dX0_copyFrom_55 (by decide) ?_
  refine lv_aload_n hx hb dX0_copyFrom_56 rfl (lv_at hl 0 rfl) ?_
  refine h_getR hx hb hts hnX0_copyFrom_X0 hown hK hw hS.1 rfl 4 (by decide) rfl hkX0_copyFrom_21 dX0_copyFrom_57 ?_
  refine lv_iconst (v := 0) hx hb dX0_copyFrom_60 (by decide) ?_
  refine lv_bipush (v := 24) hx hb dX0_copyFrom_61 (by decide) ?_
  obtain ⟨f5, ef5, h⟩ := lt_s2 h
  refine h_acpy (g := f5) ef5 hx hb (by rw [hml]; exact hl.1.symm) hown (hts _ hdX0_copyFrom_ac1_49) (hts _ hdX0_copyFrom_ac2) (hts _ hdX0_copyFrom_ac3) (hts _ hdX0_copyFrom_ac4) hK hw hA1.2.2.2.2.1 hS.2.2.2.2.1 (by decide) (by decide) (by decide) (by decide) (by decide) (Nat.le_of_ble_eq_true rfl) (Nat.le_of_ble_eq_true rfl) dX0_copyFrom_63 (fun H locs hw => ?_)
  refine lv_aload_n hx hb dX0_copyFrom_66 rfl (lv_at hl 1 rfl) ?_
  refine h_getR hx hb hts hnX0_copyFrom_X0 hown hK hw hA1.1 rfl 5 (by decide) rfl hkX0_copyFrom_24 dX0_copyFrom_67 ?_
  refine lv_iconst (v := 0) hx hb dX0_copyFrom_70 (by decide) ?_
  refine lv_aload_n hx hb dX0_copyFrom_71 rfl (lv_at hl 0 rfl) ?_
  refine h_getR hx hb hts hnX0_copyFrom_X0 hown hK hw hS.1 rfl 5 (by decide) rfl hkX0_copyFrom_24 dX0_copyFrom_72 ?_
  refine lv_iconst (v := 0) hx hb dX0_copyFrom_75 (by decide) ?_
  refine lv_bipush (v := 24) hx hb dX0_copyFrom_76 (by decide) ?_
  obtain ⟨f6, ef6, h⟩ := lt_s2 h
  refine h_acpy (g := f6) ef6 hx hb (by rw [hml]; exact hl.1.symm) hown (hts _ hdX0_copyFrom_ac1_49) (hts _ hdX0_copyFrom_ac2) (hts _ hdX0_copyFrom_ac3) (hts _ hdX0_copyFrom_ac4) hK hw hA1.2.2.2.2.2.1 hS.2.2.2.2.2.1 (by decide) (by decide) (by decide) (by decide) (by decide) (Nat.le_of_ble_eq_true rfl) (Nat.le_of_ble_eq_true rfl) dX0_copyFrom_78 (fun H locs hw => ?_)
  refine lv_aload_n hx hb dX0_copyFrom_81 rfl (lv_at hl 1 rfl) ?_
  refine h_getR hx hb hts hnX0_copyFrom_X0 hown hK hw hA1.1 rfl 6 (by decide) rfl hkX0_copyFrom_27 dX0_copyFrom_82 ?_
  refine lv_iconst (v := 0) hx hb dX0_copyFrom_85 (by decide) ?_
  refine lv_aload_n hx hb dX0_copyFrom_86 rfl (lv_at hl 0 rfl) ?_
  refine h_getR hx hb hts hnX0_copyFrom_X0 hown hK hw hS.1 rfl 6 (by decide) rfl hkX0_copyFrom_27 dX0_copyFrom_87 ?_
  refine lv_iconst (v := 0) hx hb dX0_copyFrom_90 (by decide) ?_
  refine lv_bipush (v := 24) hx hb dX0_copyFrom_91 (by decide) ?_
  obtain ⟨f7, ef7, h⟩ := lt_s2 h
  refine h_acpy (g := f7) ef7 hx hb (by rw [hml]; exact hl.1.symm) hown (hts _ hdX0_copyFrom_ac1_49) (hts _ hdX0_copyFrom_ac2) (hts _ hdX0_copyFrom_ac3) (hts _ hdX0_copyFrom_ac4) hK hw hA1.2.2.2.2.2.2.1 hS.2.2.2.2.2.2.1 (by decide) (by decide) (by decide) (by decide) (by decide) (Nat.le_of_ble_eq_true rfl) (Nat.le_of_ble_eq_true rfl) dX0_copyFrom_93 (fun H locs hw => ?_)
  refine lv_aload_n hx hb dX0_copyFrom_96 rfl (lv_at hl 1 rfl) ?_
  refine h_getR hx hb hts hnX0_copyFrom_X0 hown hK hw hA1.1 rfl 7 (by decide) rfl hkX0_copyFrom_30 dX0_copyFrom_97 ?_
  refine lv_iconst (v := 0) hx hb dX0_copyFrom_100 (by decide) ?_
  refine lv_aload_n hx hb dX0_copyFrom_101 rfl (lv_at hl 0 rfl) ?_
  refine h_getR hx hb hts hnX0_copyFrom_X0 hown hK hw hS.1 rfl 7 (by decide) rfl hkX0_copyFrom_30 dX0_copyFrom_102 ?_
  refine lv_iconst (v := 0) hx hb dX0_copyFrom_105 (by decide) ?_
  refine lv_bipush (v := 24) hx hb dX0_copyFrom_106 (by decide) ?_
  obtain ⟨f8, ef8, h⟩ := lt_s2 h
  refine h_acpy (g := f8) ef8 hx hb (by rw [hml]; exact hl.1.symm) hown (hts _ hdX0_copyFrom_ac1_49) (hts _ hdX0_copyFrom_ac2) (hts _ hdX0_copyFrom_ac3) (hts _ hdX0_copyFrom_ac4) hK hw hA1.2.2.2.2.2.2.2.1 hS.2.2.2.2.2.2.2.1 (by decide) (by decide) (by decide) (by decide) (by decide) (Nat.le_of_ble_eq_true rfl) (Nat.le_of_ble_eq_true rfl) dX0_copyFrom_108 (fun H locs hw => ?_)
  refine lv_aload_n hx hb dX0_copyFrom_111 rfl (lv_at hl 1 rfl) ?_
  refine h_getR hx hb hts hnX0_copyFrom_X0 hown hK hw hA1.1 rfl 8 (by decide) rfl hkX0_copyFrom_33 dX0_copyFrom_112 ?_
  refine lv_iconst (v := 0) hx hb dX0_copyFrom_115 (by decide) ?_
  refine lv_aload_n hx hb dX0_copyFrom_116 rfl (lv_at hl 0 rfl) ?_
  refine h_getR hx hb hts hnX0_copyFrom_X0 hown hK hw hS.1 rfl 8 (by decide) rfl hkX0_copyFrom_33 dX0_copyFrom_117 ?_
  refine lv_iconst (v := 0) hx hb dX0_copyFrom_120 (by decide) ?_
  refine lv_bipush (v := 24) hx hb dX0_copyFrom_121 (by decide) ?_
  obtain ⟨f9, ef9, h⟩ := lt_s2 h
  refine h_acpy (g := f9) ef9 hx hb (by rw [hml]; exact hl.1.symm) hown (hts _ hdX0_copyFrom_ac1_49) (hts _ hdX0_copyFrom_ac2) (hts _ hdX0_copyFrom_ac3) (hts _ hdX0_copyFrom_ac4) hK hw hA1.2.2.2.2.2.2.2.2 hS.2.2.2.2.2.2.2.2 (by decide) (by decide) (by decide) (by decide) (by decide) (Nat.le_of_ble_eq_true rfl) (Nat.le_of_ble_eq_true rfl) dX0_copyFrom_123 (fun H locs hw => ?_)
  exact h_retV hx hb hr hlocks hw (so1 h) dX0_copyFrom_126

theorem hnX5_put_X5 : ∀ w ∈ wsX50, w ∈ wsX5_put := by decide +kernel
theorem hkX5_put_16 : Cond.fieldLink RX5 16 (TX5 1).1 (TX5 1).2.1 (TX5 1).2.2.1 ∈ wsX5_put := by decide +kernel
theorem hkX5_put_9 : Cond.fieldLink RX5 9 (TX5 0).1 (TX5 0).2.1 (TX5 0).2.2.1 ∈ wsX5_put := by decide +kernel
set_option maxHeartbeats 8000000 in
set_option maxRecDepth 100000 in
theorem mX5_put (l : Launch) (D : va_G) (ac : Nat → ClassId) (ad : Nat → Nat) (S : List hSh) (k : Nat) (w : Nat) (o1 : Nat) (f : hF) (gv : hF) (hS : isSh S k w) (hA1 : isBk S o1) (h : fX5_put k w o1 f = some gv) : Met l yX5_put wsX5_put ({ frames := 2, cells := 0, slots := 0, locals := 53 }) (hPc D ac ad S f [.ref (ad k), .ref (ad o1)]) (hQv D ac ad S gv) 0 0 (hAd ad S.length) := by
  refine h_enter (C := RX5) (cc := cX5_put) (maxL := 2) (ret := none) (lv := [(0, .ref (ad k)), (1, .ref (ad o1))]) (by decide) rfl rfl (Nat.le_of_ble_eq_true rfl) rfl (fun p e s m below meth c ls hx hb hml hr hlocks hown hts hK hw hl => ?_)
  have J16 : ∀ (_ : Unit), (∀ (f : hF) (H : Heap) (locs : List Loc) (ls : Array Slot), hOk D ac ad S (hAd ad S.length) s.heap f H locs → lv_has ls 2 [(0, .ref (ad k)), (1, .ref (ad o1))] → fX5_put_16 k w o1 f = some gv → W p l e ({ frames := 2, cells := 0, slots := 0, locals := 53 } : Room) s m ([.ref (ad k), .ref (ad o1)] : List Value).toArray below meth c H locs 0 0 (MQ below (hQv D ac ad S gv) ([.ref (ad k), .ref (ad o1)] : List Value).toArray s 0 0 (hAd ad S.length)) (F0 m 16 ls [])) := by
    intro _ f H locs ls hw hl h
    unfold fX5_put_16 at h
    refine lv_aload_n hx hb dX5_put_16 rfl (lv_at hl 0 rfl) ?_
    refine h_getI hx hb hts hnX5_put_X5 hown hK hw hS.1 rfl 1 (by decide) rfl hkX5_put_16 dX5_put_17 ?_
    refine lv_if_lt (tgt := 58) hx hb dX5_put_20 (by decide) (fun hc1 => ?_) (fun hc1 => ?_)
    · have h := it hc1 h
      exact h_retV hx hb hr hlocks hw (so1 h) dX5_put_58
    · have h := ie hc1 h
      refine lv_aload_n hx hb dX5_put_23 rfl (lv_at hl 0 rfl) ?_
      refine h_getI hx hb hts hnX5_put_X5 hown hK hw hS.1 rfl 1 (by decide) rfl hkX5_put_16 dX5_put_24 ?_
      refine lv_aload_n hx hb dX5_put_27 rfl (lv_at hl 0 rfl) ?_
      refine h_getR hx hb hts hnX5_put_X5 hown hK hw hS.1 rfl 0 (by decide) rfl hkX5_put_9 dX5_put_28 ?_
      refine h_alen (v := (Int32.ofNat w)) hx hb hK hw hS.2.1 (by decide) rfl dX5_put_31 ?_
      refine lv_icmp_ge (tgt := 58) hx hb dX5_put_32 (by decide) (fun hc2 => ?_) (fun hc2 => ?_)
      · have h := it hc2 h
        exact h_retV hx hb hr hlocks hw (so1 h) dX5_put_58
      · have h := ie hc2 h
        refine lv_aload_n hx hb dX5_put_35 rfl (lv_at hl 0 rfl) ?_
        refine h_getR hx hb hts hnX5_put_X5 hown hK hw hS.1 rfl 0 (by decide) rfl hkX5_put_9 dX5_put_36 ?_
        refine lv_aload_n hx hb dX5_put_39 rfl (lv_at hl 0 rfl) ?_
        refine h_getI hx hb hts hnX5_put_X5 hown hK hw hS.1 rfl 1 (by decide) rfl hkX5_put_16 dX5_put_40 ?_
        obtain ⟨hi3, h⟩ := gd_s h
        obtain ⟨b4, eb4, cb4, h⟩ := ckB_s h
        have hb4 : isBk S b4 := ckB_b hS.2.2.1 cb4
        have pb4 : 0 < b4 := ckB_p cb4
        refine h_aald (t := b4) eb4 hS.2.2.2 hb4.1 (ckB_p cb4) hx hb hK hw hS.2.1 hi3 dX5_put_43 ?_
        refine lv_aload_n hx hb dX5_put_44 rfl (lv_at hl 1 rfl) ?_
        obtain ⟨f5, ef5, h⟩ := b1_s h
        refine h_callV hw (va_runV (As := [.ref (ad o1)]) (rest := []) ⟨hx, hb, hml, hown, hts⟩ (mX0_copyFrom l D ac ad S b4 o1 f f5 hb4 hA1 ef5) (cwV 1 hts gX5_put_X0_copyFrom rfl rfl rfl (by decide +kernel) ⟨Nat.le_of_ble_eq_true rfl, Nat.le_of_ble_eq_true rfl⟩) (h_preV hK hw hb4.1 rfl _) rfl rfl hl.1 rfl (lv_room (Nat.le_of_ble_eq_true rfl)) dX5_put_45 ⟨Nat.le_of_ble_eq_true rfl, Nat.le_of_ble_eq_true rfl⟩) (fun H locs hw => ?_)
        refine lv_aload_n hx hb dX5_put_48 rfl (lv_at hl 0 rfl) ?_
        refine lv_dup hx hb dX5_put_49 rfl ?_
        refine h_getI hx hb hts hnX5_put_X5 hown hK hw hS.1 rfl 1 (by decide) rfl hkX5_put_16 dX5_put_50 ?_
        refine lv_iconst (v := 1) hx hb dX5_put_53 (by decide) ?_
        refine lv_iadd hx hb dX5_put_54 ?_
        obtain ⟨f6, ef6, h⟩ := lt_s2 h
        refine h_putI (g := f6) ef6 hx hb hts hnX5_put_X5 tyX5 tyX5_ok nmX5 hown hK hw hS.1 rfl 1 rfl (by decide) rfl hkX5_put_16 rfl (by decide +kernel) dX5_put_55 (fun H locs hw => ?_)
        exact h_retV hx hb hr hlocks hw (so1 h) dX5_put_58
  unfold fX5_put at h
  refine lv_aload_n hx hb dX5_put_0 rfl (lv_at hl 0 rfl) ?_
  refine h_getI hx hb hts hnX5_put_X5 hown hK hw hS.1 rfl 1 (by decide) rfl hkX5_put_16 dX5_put_1 ?_
  refine lv_aload_n hx hb dX5_put_4 rfl (lv_at hl 0 rfl) ?_
  refine h_getR hx hb hts hnX5_put_X5 hown hK hw hS.1 rfl 0 (by decide) rfl hkX5_put_9 dX5_put_5 ?_
  refine h_alen (v := (Int32.ofNat w)) hx hb hK hw hS.2.1 (by decide) rfl dX5_put_8 ?_
  refine lv_icmp_lt (tgt := 16) hx hb dX5_put_9 (by decide) (fun hc1 => ?_) (fun hc1 => ?_)
  · have h := it hc1 h
    exact J16 () f _ _ _ hw (lv_sub hl [0, 1] rfl) h
  · have h := ie hc1 h
    refine lv_aload_n hx hb dX5_put_12 rfl (lv_at hl 0 rfl) ?_
    obtain ⟨f2, ef2, h⟩ := b1_s h
    refine h_callV hw (va_runV (As := []) (rest := []) ⟨hx, hb, hml, hown, hts⟩ (mX5_dropOldest l D ac ad S k w f f2 hS ef2) (cwV 0 hts gX5_put_X5_dropOldest rfl rfl rfl (by decide +kernel) ⟨Nat.le_of_ble_eq_true rfl, Nat.le_of_ble_eq_true rfl⟩) (h_preV hK hw hS.1 rfl _) rfl rfl hl.1 rfl (lv_room (Nat.le_of_ble_eq_true rfl)) dX5_put_13 ⟨Nat.le_of_ble_eq_true rfl, Nat.le_of_ble_eq_true rfl⟩) (fun H locs hw => ?_)
    exact J16 () f2 _ _ _ hw (lv_sub hl [0, 1] rfl) h

theorem hnX0_begin_X0 : ∀ w ∈ wsX00, w ∈ wsX0_begin := by decide +kernel
theorem hkX0_begin_18 : Cond.fieldLink RX0 18 (TX0 3).1 (TX0 3).2.1 (TX0 3).2.2.1 ∈ wsX0_begin := by decide +kernel
theorem hkX0_begin_21 : Cond.fieldLink RX0 21 (TX0 4).1 (TX0 4).2.1 (TX0 4).2.2.1 ∈ wsX0_begin := by decide +kernel
theorem hkX0_begin_24 : Cond.fieldLink RX0 24 (TX0 5).1 (TX0 5).2.1 (TX0 5).2.2.1 ∈ wsX0_begin := by decide +kernel
theorem hkX0_begin_36 : Cond.fieldLink RX0 36 (TX0 0).1 (TX0 0).2.1 (TX0 0).2.2.1 ∈ wsX0_begin := by decide +kernel
set_option maxHeartbeats 8000000 in
set_option maxRecDepth 100000 in
theorem mX0_begin (l : Launch) (D : va_G) (ac : Nat → ClassId) (ad : Nat → Nat) (S : List hSh) (k : Nat) (f : hF) (x1 : Int32) (rv : Int32) (gv : hF) (hS : isBk S k) (h : fX0_begin k f x1 = some (rv, gv)) : Met l yX0_begin wsX0_begin ({ frames := 1, cells := 0, slots := 0, locals := 22 }) (hPc D ac ad S f [.ref (ad k), .int x1]) (hQi D ac ad S rv gv) 0 0 (hAd ad S.length) := by
  refine h_enter (C := RX0) (cc := cX0_begin) (maxL := 4) (ret := (some .int)) (lv := [(0, .ref (ad k)), (1, .int x1)]) (by decide) rfl rfl (Nat.le_of_ble_eq_true rfl) rfl (fun p e s m below meth c ls hx hb hml hr hlocks hown hts hK hw hl => ?_)
  unfold fX0_begin at h
  refine lv_aload_n hx hb dX0_begin_0 rfl (lv_at hl 0 rfl) ?_
  refine lv_iload_n hx hb dX0_begin_1 rfl (lv_at hl 1 rfl) ?_
  obtain ⟨r1, er1, h⟩ := b1_s h
  refine h_callR (va_runV (As := [.int x1]) (rest := []) ⟨hx, hb, hml, hown, hts⟩ (mX0_hasRoom l D ac ad S k f x1 r1 hS er1) (cwV 1 hts gX0_begin_X0_hasRoom rfl rfl rfl (by decide +kernel) ⟨Nat.le_of_ble_eq_true rfl, Nat.le_of_ble_eq_true rfl⟩) (h_preV hK hw hS.1 rfl _) rfl rfl hl.1 rfl (lv_room (Nat.le_of_ble_eq_true rfl)) dX0_begin_2 ⟨Nat.le_of_ble_eq_true rfl, Nat.le_of_ble_eq_true rfl⟩) ?_
  refine lv_if_ne (tgt := 11) hx hb dX0_begin_5 (by decide) (fun hc2 => ?_) (fun hc2 => ?_)
  · have h := ie hc2 h
    refine lv_aload_n hx hb dX0_begin_11 rfl (lv_at hl 0 rfl) ?_
    refine h_getR hx hb hts hnX0_begin_X0 hown hK hw hS.1 rfl 3 (by decide) rfl hkX0_begin_18 dX0_begin_12 ?_
    refine lv_iload_n hx hb dX0_begin_15 rfl (lv_at hl 1 rfl) ?_
    obtain ⟨hi3, h⟩ := gd_s h
    refine h_iald hx hb hK hw hS.2.2.2.1 hi3 dX0_begin_16 ?_
    refine lv_istore_n (lv' := [(2, .int (f (k+3) x1.toNatClampNeg)), (0, .ref (ad k)), (1, .int x1)]) hx hb dX0_begin_17 rfl hl (by decide) rfl (fun ls hl => ?_)
    refine lv_aload_n hx hb dX0_begin_18 rfl (lv_at hl 1 rfl) ?_
    refine h_getR hx hb hts hnX0_begin_X0 hown hK hw hS.1 rfl 3 (by decide) rfl hkX0_begin_18 dX0_begin_19 ?_
    refine lv_iload_n hx hb dX0_begin_22 rfl (lv_at hl 2 rfl) ?_
    refine lv_dup2_11 hx hb dX0_begin_23 rfl rfl ?_
    obtain ⟨hi4, h⟩ := gd_s h
    refine h_iald hx hb hK hw hS.2.2.2.1 hi4 dX0_begin_24 ?_
    refine lv_iconst (v := 1) hx hb dX0_begin_25 (by decide) ?_
    refine lv_iadd hx hb dX0_begin_26 ?_
    obtain ⟨hi5, h⟩ := gd_s h
    obtain ⟨f6, ef6, h⟩ := lt_s2 h
    refine h_iast (g := f6) ef6 hx hb hK hw hS.2.2.2.1 hi5 dX0_begin_27 (fun H locs hw => ?_)
    refine lv_aload_n hx hb dX0_begin_28 rfl (lv_at hl 1 rfl) ?_
    refine lv_iload_n hx hb dX0_begin_29 rfl (lv_at hl 2 rfl) ?_
    refine lv_iload_n hx hb dX0_begin_30 rfl (lv_at hl 0 rfl) ?_
    obtain ⟨r7, er7, h⟩ := b1_s h
    refine h_callR (va_runV (As := [.int x1, .int (f (k+3) x1.toNatClampNeg)]) (rest := []) ⟨hx, hb, hml, hown, hts⟩ (mX0_slotOf l D ac ad S k f6 x1 (f (k+3) x1.toNatClampNeg) r7 hS er7) (cwV 2 hts gX0_begin_X0_slotOf rfl rfl rfl (by decide +kernel) ⟨Nat.le_of_ble_eq_true rfl, Nat.le_of_ble_eq_true rfl⟩) (h_preV hK hw hS.1 rfl _) rfl rfl hl.1 rfl (lv_room (Nat.le_of_ble_eq_true rfl)) dX0_begin_31 ⟨Nat.le_of_ble_eq_true rfl, Nat.le_of_ble_eq_true rfl⟩) ?_
    refine lv_istore_n (lv' := [(3, .int r7), (2, .int (f (k+3) x1.toNatClampNeg)), (0, .ref (ad k)), (1, .int x1)]) hx hb dX0_begin_34 rfl hl (by decide) rfl (fun ls hl => ?_)
    refine lv_iload_n hx hb dX0_begin_35 rfl (lv_at hl 0 rfl) ?_
    refine lv_iconst (v := (-1)) hx hb dX0_begin_36 (by decide) ?_
    refine lv_icmp_ne (tgt := 43) hx hb dX0_begin_37 (by decide) (fun hc8 => ?_) (fun hc8 => ?_)
    · have h := ie hc8 h
      refine lv_aload_n hx hb dX0_begin_43 rfl (lv_at hl 2 rfl) ?_
      refine h_getR hx hb hts hnX0_begin_X0 hown hK hw hS.1 rfl 4 (by decide) rfl hkX0_begin_21 dX0_begin_44 ?_
      refine lv_iload_n hx hb dX0_begin_47 rfl (lv_at hl 0 rfl) ?_
      refine lv_iconst (v := 0) hx hb dX0_begin_48 (by decide) ?_
      obtain ⟨hi9, h⟩ := gd_s h
      obtain ⟨f10, ef10, h⟩ := lt_s2 h
      refine h_iast (g := f10) ef10 hx hb hK hw hS.2.2.2.2.1 hi9 dX0_begin_49 (fun H locs hw => ?_)
      refine lv_aload_n hx hb dX0_begin_50 rfl (lv_at hl 2 rfl) ?_
      refine h_getR hx hb hts hnX0_begin_X0 hown hK hw hS.1 rfl 5 (by decide) rfl hkX0_begin_24 dX0_begin_51 ?_
      refine lv_iload_n hx hb dX0_begin_54 rfl (lv_at hl 0 rfl) ?_
      refine lv_aload_n hx hb dX0_begin_55 rfl (lv_at hl 2 rfl) ?_
      refine h_getI hx hb hts hnX0_begin_X0 hown hK hw hS.1 rfl 0 (by decide) rfl hkX0_begin_36 dX0_begin_56 ?_
      obtain ⟨hi11, h⟩ := gd_s h
      obtain ⟨f12, ef12, h⟩ := lt_s2 h
      refine h_iast (g := f12) ef12 hx hb hK hw hS.2.2.2.2.2.1 hi11 dX0_begin_59 (fun H locs hw => ?_)
      refine lv_iload_n hx hb dX0_begin_60 rfl (lv_at hl 1 rfl) ?_
      exact h_retQ hx hb hr hlocks hw rfl (so2 h) dX0_begin_61
    · have h := it hc8 h
      refine lv_bipush (v := (-3)) hx hb dX0_begin_40 (by decide) ?_
      exact h_retQ hx hb hr hlocks hw rfl (so2 h) dX0_begin_42
  · have h := it hc2 h
    refine lv_bipush (v := (-3)) hx hb dX0_begin_8 (by decide) ?_
    exact h_retQ hx hb hr hlocks hw rfl (so2 h) dX0_begin_10

theorem hnX2_writeTwo_X2 : ∀ w ∈ wsX20, w ∈ wsX2_writeTwo := by decide +kernel
theorem hkX2_writeTwo_12 : Cond.fieldLink RX2 12 (TX2 1).1 (TX2 1).2.1 (TX2 1).2.2.1 ∈ wsX2_writeTwo := by decide +kernel
theorem hnX2_writeTwo_X0 : ∀ w ∈ wsX00, w ∈ wsX2_writeTwo := by decide +kernel
theorem hkX2_writeTwo_82 : Cond.fieldLink RX2 82 (TX0 1).1 (TX0 1).2.1 (TX0 1).2.2.1 ∈ wsX2_writeTwo := by decide +kernel
theorem hdX2_writeTwo_min1 : Cond.methodLink RX2 128 Lib.Math.min.name ∈ wsX2_writeTwo := by decide +kernel
theorem hdX2_writeTwo_min2 : Cond.static Lib.Math.min.name ∈ wsX2_writeTwo := by decide +kernel
theorem hdX2_writeTwo_min3 : Cond.initialized "java/lang/Math" ∈ wsX2_writeTwo := by decide +kernel
theorem hdX2_writeTwo_min4 : Cond.code Lib.Math.min.name Lib.Math.min.code 2 (some .int) ∈ wsX2_writeTwo := by decide +kernel
theorem hkX2_writeTwo_133 : Cond.fieldLink RX2 133 (TX0 2).1 (TX0 2).2.1 (TX0 2).2.2.1 ∈ wsX2_writeTwo := by decide +kernel
theorem hkX2_writeTwo_136 : Cond.fieldLink RX2 136 (TX0 4).1 (TX0 4).2.1 (TX0 4).2.2.1 ∈ wsX2_writeTwo := by decide +kernel
theorem hkX2_writeTwo_139 : Cond.fieldLink RX2 139 (TX0 6).1 (TX0 6).2.1 (TX0 6).2.2.1 ∈ wsX2_writeTwo := by decide +kernel
theorem hkX2_writeTwo_142 : Cond.fieldLink RX2 142 (TX0 7).1 (TX0 7).2.1 (TX0 7).2.2.1 ∈ wsX2_writeTwo := by decide +kernel
theorem hkX2_writeTwo_145 : Cond.fieldLink RX2 145 (TX0 8).1 (TX0 8).2.1 (TX0 8).2.2.1 ∈ wsX2_writeTwo := by decide +kernel
theorem hkX2_writeTwo_49 : Cond.fieldLink RX2 49 (TX0 0).1 (TX0 0).2.1 (TX0 0).2.2.1 ∈ wsX2_writeTwo := by decide +kernel
theorem hkX2_writeTwo_31 : Cond.fieldLink RX2 31 (TX2 0).1 (TX2 0).2.1 (TX2 0).2.2.1 ∈ wsX2_writeTwo := by decide +kernel
theorem hnX2_writeTwo_X3 : ∀ w ∈ wsX30, w ∈ wsX2_writeTwo := by decide +kernel
theorem hkX2_writeTwo_69 : Cond.fieldLink RX2 69 (TX3 3).1 (TX3 3).2.1 (TX3 3).2.2.1 ∈ wsX2_writeTwo := by decide +kernel
set_option maxHeartbeats 8000000 in
set_option maxRecDepth 100000 in
theorem mX2_writeTwo (l : Launch) (D : va_G) (ac : Nat → ClassId) (ad : Nat → Nat) (S : List hSh) (k : Nat) (ro : Nat) (f : hF) (x1 : Int32) (x2 : Int32) (x3 : Int32) (x4 : Int32) (x5 : Int32) (gv : hF) (hS : isHo S k ro) (h : fX2_writeTwo k ro f x1 x2 x3 x4 x5 = some gv) : Met l yX2_writeTwo wsX2_writeTwo ({ frames := 1, cells := 0, slots := 0, locals := 22 }) (hPc D ac ad S f [.ref (ad k), .int x1, .int x2, .int x3, .int x4, .int x5]) (hQv D ac ad S gv) 0 0 (hAd ad S.length) := by
  refine h_enter (C := RX2) (cc := cX2_writeTwo) (maxL := 9) (ret := none) (lv := [(0, .ref (ad k)), (1, .int x1), (2, .int x2), (3, .int x3), (4, .int x4), (5, .int x5)]) (by decide) rfl rfl (Nat.le_of_ble_eq_true rfl) rfl (fun p e s m below meth c ls hx hb hml hr hlocks hown hts hK hw hl => ?_)
  have J74 : ∀ (_ : Unit), (∀ (f : hF) (y6 : Int32) (s0 : Int32) (H : Heap) (locs : List Loc) (ls : Array Slot), hOk D ac ad S (hAd ad S.length) s.heap f H locs → lv_has ls 9 [(0, .ref (ad k)), (1, .int x1), (2, .int x2), (5, .int x5), (6, .int y6)] → fX2_writeTwo_74 k ro x1 x2 x3 x4 x5 f y6 s0 = some gv → W p l e ({ frames := 1, cells := 0, slots := 0, locals := 22 } : Room) s m ([.ref (ad k), .int x1, .int x2, .int x3, .int x4, .int x5] : List Value).toArray below meth c H locs 0 0 (MQ below (hQv D ac ad S gv) ([.ref (ad k), .int x1, .int x2, .int x3, .int x4, .int x5] : List Value).toArray s 0 0 (hAd ad S.length)) (F0 m 74 ls [.int s0])) := by
    intro _ f y6 s0 H locs ls hw hl h
    unfold fX2_writeTwo_74 at h
    refine lv_istore (lv' := [(7, .int s0), (0, .ref (ad k)), (1, .int x1), (2, .int x2), (5, .int x5), (6, .int y6)]) hx hb dX2_writeTwo_74 hl (by decide) rfl (fun ls hl => ?_)
    refine lv_aload_n hx hb dX2_writeTwo_76 rfl (lv_at hl 1 rfl) ?_
    refine h_getR hx hb hts hnX2_writeTwo_X2 hown hK hw hS.1 rfl 1 (by decide) rfl hkX2_writeTwo_12 dX2_writeTwo_77 ?_
    refine h_getR hx hb hts hnX2_writeTwo_X0 hown hK hw hS.2.2.2.1.1 rfl 1 (by decide) rfl hkX2_writeTwo_82 dX2_writeTwo_80 ?_
    refine lv_iload hx hb dX2_writeTwo_83 (lv_at hl 5 rfl) ?_
    obtain ⟨hi1, h⟩ := gd_s h
    refine h_iald hx hb hK hw hS.2.2.2.1.2.1 hi1 dX2_writeTwo_85 ?_
    refine lv_iload hx hb dX2_writeTwo_86 (lv_at hl 4 rfl) ?_
    refine va_mmin hx hb (by rw [hml]; exact hl.1.symm) hown (hts _ hdX2_writeTwo_min1) (hts _ hdX2_writeTwo_min2) (hts _ hdX2_writeTwo_min3) (hts _ hdX2_writeTwo_min4) (Nat.le_of_ble_eq_true rfl) (Nat.le_of_ble_eq_true rfl) (Nat.le_of_ble_eq_true rfl) (Nat.le_of_ble_eq_true rfl) dX2_writeTwo_88 ?_
    refine lv_istore (lv' := [(8, .int (if x5 < (f ((k+1)+1) y6.toNatClampNeg) then x5 else (f ((k+1)+1) y6.toNatClampNeg))), (7, .int s0), (0, .ref (ad k)), (1, .int x1), (2, .int x2), (5, .int x5), (6, .int y6)]) hx hb dX2_writeTwo_91 hl (by decide) rfl (fun ls hl => ?_)
    refine lv_aload_n hx hb dX2_writeTwo_93 rfl (lv_at hl 2 rfl) ?_
    refine h_getR hx hb hts hnX2_writeTwo_X2 hown hK hw hS.1 rfl 1 (by decide) rfl hkX2_writeTwo_12 dX2_writeTwo_94 ?_
    refine h_getR hx hb hts hnX2_writeTwo_X0 hown hK hw hS.2.2.2.1.1 rfl 1 (by decide) rfl hkX2_writeTwo_82 dX2_writeTwo_97 ?_
    refine lv_iload hx hb dX2_writeTwo_100 (lv_at hl 6 rfl) ?_
    refine lv_dup2_11 hx hb dX2_writeTwo_102 rfl rfl ?_
    obtain ⟨hi2, h⟩ := gd_s h
    refine h_iald hx hb hK hw hS.2.2.2.1.2.1 hi2 dX2_writeTwo_103 ?_
    refine lv_iload hx hb dX2_writeTwo_104 (lv_at hl 0 rfl) ?_
    refine lv_isub hx hb dX2_writeTwo_106 ?_
    obtain ⟨hi3, h⟩ := gd_s h
    obtain ⟨f4, ef4, h⟩ := lt_s2 h
    refine h_iast (g := f4) ef4 hx hb hK hw hS.2.2.2.1.2.1 hi3 dX2_writeTwo_107 (fun H locs hw => ?_)
    refine lv_aload_n hx hb dX2_writeTwo_108 rfl (lv_at hl 2 rfl) ?_
    refine h_getR hx hb hts hnX2_writeTwo_X2 hown hK hw hS.1 rfl 1 (by decide) rfl hkX2_writeTwo_12 dX2_writeTwo_109 ?_
    refine h_getR hx hb hts hnX2_writeTwo_X0 hown hK hw hS.2.2.2.1.1 rfl 1 (by decide) rfl hkX2_writeTwo_82 dX2_writeTwo_112 ?_
    refine lv_iload hx hb dX2_writeTwo_115 (lv_at hl 1 rfl) ?_
    refine lv_dup2_11 hx hb dX2_writeTwo_117 rfl rfl ?_
    obtain ⟨hi5, h⟩ := gd_s h
    refine h_iald hx hb hK hw hS.2.2.2.1.2.1 hi5 dX2_writeTwo_118 ?_
    refine lv_iload hx hb dX2_writeTwo_119 (lv_at hl 5 rfl) ?_
    refine lv_iload hx hb dX2_writeTwo_121 (lv_at hl 0 rfl) ?_
    refine lv_isub hx hb dX2_writeTwo_123 ?_
    refine lv_isub hx hb dX2_writeTwo_124 ?_
    obtain ⟨hi6, h⟩ := gd_s h
    obtain ⟨f7, ef7, h⟩ := lt_s2 h
    refine h_iast (g := f7) ef7 hx hb hK hw hS.2.2.2.1.2.1 hi6 dX2_writeTwo_125 (fun H locs hw => ?_)
    refine lv_aload_n hx hb dX2_writeTwo_126 rfl (lv_at hl 2 rfl) ?_
    refine h_getR hx hb hts hnX2_writeTwo_X2 hown hK hw hS.1 rfl 1 (by decide) rfl hkX2_writeTwo_12 dX2_writeTwo_127 ?_
    refine h_getR hx hb hts hnX2_writeTwo_X0 hown hK hw hS.2.2.2.1.1 rfl 2 (by decide) rfl hkX2_writeTwo_133 dX2_writeTwo_130 ?_
    refine lv_iload_n hx hb dX2_writeTwo_133 rfl (lv_at hl 3 rfl) ?_
    refine lv_dup2_11 hx hb dX2_writeTwo_134 rfl rfl ?_
    obtain ⟨hi8, h⟩ := gd_s h
    refine h_iald hx hb hK hw hS.2.2.2.1.2.2.1 hi8 dX2_writeTwo_135 ?_
    refine lv_iload hx hb dX2_writeTwo_136 (lv_at hl 5 rfl) ?_
    refine lv_iadd hx hb dX2_writeTwo_138 ?_
    obtain ⟨hi9, h⟩ := gd_s h
    obtain ⟨f10, ef10, h⟩ := lt_s2 h
    refine h_iast (g := f10) ef10 hx hb hK hw hS.2.2.2.1.2.2.1 hi9 dX2_writeTwo_139 (fun H locs hw => ?_)
    refine lv_aload_n hx hb dX2_writeTwo_140 rfl (lv_at hl 2 rfl) ?_
    refine h_getR hx hb hts hnX2_writeTwo_X2 hown hK hw hS.1 rfl 1 (by decide) rfl hkX2_writeTwo_12 dX2_writeTwo_141 ?_
    refine h_getR hx hb hts hnX2_writeTwo_X0 hown hK hw hS.2.2.2.1.1 rfl 4 (by decide) rfl hkX2_writeTwo_136 dX2_writeTwo_144 ?_
    refine lv_iload_n hx hb dX2_writeTwo_147 rfl (lv_at hl 4 rfl) ?_
    refine lv_iconst (v := 1) hx hb dX2_writeTwo_148 (by decide) ?_
    obtain ⟨hi11, h⟩ := gd_s h
    obtain ⟨f12, ef12, h⟩ := lt_s2 h
    refine h_iast (g := f12) ef12 hx hb hK hw hS.2.2.2.1.2.2.2.2.1 hi11 dX2_writeTwo_149 (fun H locs hw => ?_)
    refine lv_aload_n hx hb dX2_writeTwo_150 rfl (lv_at hl 2 rfl) ?_
    refine h_getR hx hb hts hnX2_writeTwo_X2 hown hK hw hS.1 rfl 1 (by decide) rfl hkX2_writeTwo_12 dX2_writeTwo_151 ?_
    refine h_getR hx hb hts hnX2_writeTwo_X0 hown hK hw hS.2.2.2.1.1 rfl 6 (by decide) rfl hkX2_writeTwo_139 dX2_writeTwo_154 ?_
    refine lv_iload_n hx hb dX2_writeTwo_157 rfl (lv_at hl 4 rfl) ?_
    refine lv_iload hx hb dX2_writeTwo_158 (lv_at hl 6 rfl) ?_
    obtain ⟨hi13, h⟩ := gd_s h
    obtain ⟨f14, ef14, h⟩ := lt_s2 h
    refine h_iast (g := f14) ef14 hx hb hK hw hS.2.2.2.1.2.2.2.2.2.2.1 hi13 dX2_writeTwo_160 (fun H locs hw => ?_)
    refine lv_aload_n hx hb dX2_writeTwo_161 rfl (lv_at hl 2 rfl) ?_
    refine h_getR hx hb hts hnX2_writeTwo_X2 hown hK hw hS.1 rfl 1 (by decide) rfl hkX2_writeTwo_12 dX2_writeTwo_162 ?_
    refine h_getR hx hb hts hnX2_writeTwo_X0 hown hK hw hS.2.2.2.1.1 rfl 7 (by decide) rfl hkX2_writeTwo_142 dX2_writeTwo_165 ?_
    refine lv_iload_n hx hb dX2_writeTwo_168 rfl (lv_at hl 4 rfl) ?_
    refine lv_iload hx hb dX2_writeTwo_169 (lv_at hl 1 rfl) ?_
    obtain ⟨hi15, h⟩ := gd_s h
    obtain ⟨f16, ef16, h⟩ := lt_s2 h
    refine h_iast (g := f16) ef16 hx hb hK hw hS.2.2.2.1.2.2.2.2.2.2.2.1 hi15 dX2_writeTwo_171 (fun H locs hw => ?_)
    refine lv_aload_n hx hb dX2_writeTwo_172 rfl (lv_at hl 2 rfl) ?_
    refine h_getR hx hb hts hnX2_writeTwo_X2 hown hK hw hS.1 rfl 1 (by decide) rfl hkX2_writeTwo_12 dX2_writeTwo_173 ?_
    refine h_getR hx hb hts hnX2_writeTwo_X0 hown hK hw hS.2.2.2.1.1 rfl 8 (by decide) rfl hkX2_writeTwo_145 dX2_writeTwo_176 ?_
    refine lv_iload_n hx hb dX2_writeTwo_179 rfl (lv_at hl 4 rfl) ?_
    refine lv_aload_n hx hb dX2_writeTwo_180 rfl (lv_at hl 2 rfl) ?_
    refine h_getR hx hb hts hnX2_writeTwo_X2 hown hK hw hS.1 rfl 1 (by decide) rfl hkX2_writeTwo_12 dX2_writeTwo_181 ?_
    refine h_getI hx hb hts hnX2_writeTwo_X0 hown hK hw hS.2.2.2.1.1 rfl 0 (by decide) rfl hkX2_writeTwo_49 dX2_writeTwo_184 ?_
    obtain ⟨hi17, h⟩ := gd_s h
    obtain ⟨f18, ef18, h⟩ := lt_s2 h
    refine h_iast (g := f18) ef18 hx hb hK hw hS.2.2.2.1.2.2.2.2.2.2.2.2 hi17 dX2_writeTwo_187 (fun H locs hw => ?_)
    exact h_retV hx hb hr hlocks hw (so1 h) dX2_writeTwo_188
  have J54 : ∀ (_ : Unit), (∀ (f : hF) (s0 : Int32) (H : Heap) (locs : List Loc) (ls : Array Slot), hOk D ac ad S (hAd ad S.length) s.heap f H locs → lv_has ls 9 [(0, .ref (ad k)), (1, .int x1), (2, .int x2), (3, .int x3), (4, .int x4), (5, .int x5)] → fX2_writeTwo_54 k ro x1 x2 x3 x4 x5 f s0 = some gv → W p l e ({ frames := 1, cells := 0, slots := 0, locals := 22 } : Room) s m ([.ref (ad k), .int x1, .int x2, .int x3, .int x4, .int x5] : List Value).toArray below meth c H locs 0 0 (MQ below (hQv D ac ad S gv) ([.ref (ad k), .int x1, .int x2, .int x3, .int x4, .int x5] : List Value).toArray s 0 0 (hAd ad S.length)) (F0 m 54 ls [.int s0])) := by
    intro _ f s0 H locs ls hw hl h
    unfold fX2_writeTwo_54 at h
    refine lv_istore (lv' := [(6, .int s0), (0, .ref (ad k)), (1, .int x1), (2, .int x2), (3, .int x3), (4, .int x4), (5, .int x5)]) hx hb dX2_writeTwo_54 hl (by decide) rfl (fun ls hl => ?_)
    refine lv_aload_n hx hb dX2_writeTwo_56 rfl (lv_at hl 1 rfl) ?_
    refine h_getR hx hb hts hnX2_writeTwo_X2 hown hK hw hS.1 rfl 0 (by decide) rfl hkX2_writeTwo_31 dX2_writeTwo_57 ?_
    refine h_getR hx hb hts hnX2_writeTwo_X3 hown hK hw hS.2.2.1.1 rfl 3 (by decide) rfl hkX2_writeTwo_69 dX2_writeTwo_60 ?_
    refine lv_iload_n hx hb dX2_writeTwo_63 rfl (lv_at hl 4 rfl) ?_
    obtain ⟨hi1, h⟩ := gd_s h
    refine h_zald hx hb hK hw hS.2.2.1.2.1 hi1 dX2_writeTwo_64 ?_
    refine lv_if_eq (tgt := 72) hx hb dX2_writeTwo_65 (by decide) (fun hc2 => ?_) (fun hc2 => ?_)
    · have h := it hc2 h
      refine lv_iload hx hb dX2_writeTwo_72 (lv_at hl 5 rfl) ?_
      exact J74 () f s0 x4 _ _ _ hw (lv_sub hl [1, 2, 3, 6, 0] rfl) h
    · have h := ie hc2 h
      refine lv_iload_n hx hb dX2_writeTwo_68 rfl (lv_at hl 4 rfl) ?_
      refine lv_goto (tgt := 74) hx hb dX2_writeTwo_69 (by decide) ?_
      exact J74 () f s0 x3 _ _ _ hw (lv_sub hl [1, 2, 3, 6, 0] rfl) h
  unfold fX2_writeTwo at h
  refine lv_aload_n hx hb dX2_writeTwo_0 rfl (lv_at hl 0 rfl) ?_
  refine h_getR hx hb hts hnX2_writeTwo_X2 hown hK hw hS.1 rfl 0 (by decide) rfl hkX2_writeTwo_31 dX2_writeTwo_1 ?_
  refine lv_iload_n hx hb dX2_writeTwo_4 rfl (lv_at hl 1 rfl) ?_
  obtain ⟨r1, er1, h⟩ := b1_s h
  refine h_callR (va_runV (As := [.int x1]) (rest := []) ⟨hx, hb, hml, hown, hts⟩ (mX3_isParson l D ac ad S ro f x1 r1 hS.2.2.1 er1) (cwV 1 hts gX2_writeTwo_X3_isParson rfl rfl rfl (by decide +kernel) ⟨Nat.le_of_ble_eq_true rfl, Nat.le_of_ble_eq_true rfl⟩) (h_preV hK hw hS.2.2.1.1 rfl _) rfl rfl hl.1 rfl (lv_room (Nat.le_of_ble_eq_true rfl)) dX2_writeTwo_5 ⟨Nat.le_of_ble_eq_true rfl, Nat.le_of_ble_eq_true rfl⟩) ?_
  refine lv_if_eq (tgt := 35) hx hb dX2_writeTwo_8 (by decide) (fun hc2 => ?_) (fun hc2 => ?_)
  · have h := it hc2 h
    exact h_retV hx hb hr hlocks hw (so1 h) dX2_writeTwo_35
  · have h := ie hc2 h
    refine lv_aload_n hx hb dX2_writeTwo_11 rfl (lv_at hl 0 rfl) ?_
    refine h_getR hx hb hts hnX2_writeTwo_X2 hown hK hw hS.1 rfl 1 (by decide) rfl hkX2_writeTwo_12 dX2_writeTwo_12 ?_
    refine lv_iload_n hx hb dX2_writeTwo_15 rfl (lv_at hl 2 rfl) ?_
    obtain ⟨r3, er3, h⟩ := b1_s h
    refine h_callR (va_runV (As := [.int x2]) (rest := []) ⟨hx, hb, hml, hown, hts⟩ (mX0_isLine l D ac ad S (k+1) f x2 r3 hS.2.2.2.1 er3) (cwV 1 hts gX2_writeTwo_X0_isLine rfl rfl rfl (by decide +kernel) ⟨Nat.le_of_ble_eq_true rfl, Nat.le_of_ble_eq_true rfl⟩) (h_preV hK hw hS.2.2.2.1.1 rfl _) rfl rfl hl.1 rfl (lv_room (Nat.le_of_ble_eq_true rfl)) dX2_writeTwo_16 ⟨Nat.le_of_ble_eq_true rfl, Nat.le_of_ble_eq_true rfl⟩) ?_
    refine lv_if_eq (tgt := 35) hx hb dX2_writeTwo_19 (by decide) (fun hc4 => ?_) (fun hc4 => ?_)
    · have h := it hc4 h
      exact h_retV hx hb hr hlocks hw (so1 h) dX2_writeTwo_35
    · have h := ie hc4 h
      refine lv_aload_n hx hb dX2_writeTwo_22 rfl (lv_at hl 0 rfl) ?_
      refine h_getR hx hb hts hnX2_writeTwo_X2 hown hK hw hS.1 rfl 0 (by decide) rfl hkX2_writeTwo_31 dX2_writeTwo_23 ?_
      refine lv_iload_n hx hb dX2_writeTwo_26 rfl (lv_at hl 3 rfl) ?_
      refine lv_iload hx hb dX2_writeTwo_27 (lv_at hl 4 rfl) ?_
      obtain ⟨r5, er5, h⟩ := b1_s h
      refine h_callR (va_runV (As := [.int x3, .int x4]) (rest := []) ⟨hx, hb, hml, hown, hts⟩ (mX3_areTwo l D ac ad S ro f x3 x4 r5 hS.2.2.1 er5) (cwV 2 hts gX2_writeTwo_X3_areTwo rfl rfl rfl (by decide +kernel) ⟨Nat.le_of_ble_eq_true rfl, Nat.le_of_ble_eq_true rfl⟩) (h_preV hK hw hS.2.2.1.1 rfl _) rfl rfl hl.1 rfl (lv_room (Nat.le_of_ble_eq_true rfl)) dX2_writeTwo_29 ⟨Nat.le_of_ble_eq_true rfl, Nat.le_of_ble_eq_true rfl⟩) ?_
      refine lv_if_ne (tgt := 36) hx hb dX2_writeTwo_32 (by decide) (fun hc6 => ?_) (fun hc6 => ?_)
      · have h := ie hc6 h
        refine lv_aload_n hx hb dX2_writeTwo_36 rfl (lv_at hl 0 rfl) ?_
        refine h_getR hx hb hts hnX2_writeTwo_X2 hown hK hw hS.1 rfl 0 (by decide) rfl hkX2_writeTwo_31 dX2_writeTwo_37 ?_
        refine h_getR hx hb hts hnX2_writeTwo_X3 hown hK hw hS.2.2.1.1 rfl 3 (by decide) rfl hkX2_writeTwo_69 dX2_writeTwo_40 ?_
        refine lv_iload_n hx hb dX2_writeTwo_43 rfl (lv_at hl 3 rfl) ?_
        obtain ⟨hi7, h⟩ := gd_s h
        refine h_zald hx hb hK hw hS.2.2.1.2.1 hi7 dX2_writeTwo_44 ?_
        refine lv_if_eq (tgt := 53) hx hb dX2_writeTwo_45 (by decide) (fun hc8 => ?_) (fun hc8 => ?_)
        · have h := it hc8 h
          refine lv_iload_n hx hb dX2_writeTwo_53 rfl (lv_at hl 3 rfl) ?_
          exact J54 () f x3 _ _ _ hw (lv_sub hl [0, 1, 2, 3, 4, 5] rfl) h
        · have h := ie hc8 h
          refine lv_iload hx hb dX2_writeTwo_48 (lv_at hl 4 rfl) ?_
          refine lv_goto (tgt := 54) hx hb dX2_writeTwo_50 (by decide) ?_
          exact J54 () f x4 _ _ _ hw (lv_sub hl [0, 1, 2, 3, 4, 5] rfl) h
      · have h := it hc6 h
        exact h_retV hx hb hr hlocks hw (so1 h) dX2_writeTwo_35

theorem hnX2_writeWedding_X2 : ∀ w ∈ wsX20, w ∈ wsX2_writeWedding := by decide +kernel
theorem hkX2_writeWedding_12 : Cond.fieldLink RX2 12 (TX2 1).1 (TX2 1).2.1 (TX2 1).2.2.1 ∈ wsX2_writeWedding := by decide +kernel
theorem hkX2_writeWedding_31 : Cond.fieldLink RX2 31 (TX2 0).1 (TX2 0).2.1 (TX2 0).2.2.1 ∈ wsX2_writeWedding := by decide +kernel
theorem hnX2_writeWedding_X3 : ∀ w ∈ wsX30, w ∈ wsX2_writeWedding := by decide +kernel
theorem hkX2_writeWedding_96 : Cond.fieldLink RX2 96 (TX3 8).1 (TX3 8).2.1 (TX3 8).2.2.1 ∈ wsX2_writeWedding := by decide +kernel
set_option maxHeartbeats 8000000 in
set_option maxRecDepth 100000 in
theorem mX2_writeWedding (l : Launch) (D : va_G) (ac : Nat → ClassId) (ad : Nat → Nat) (S : List hSh) (k : Nat) (ro : Nat) (f : hF) (x1 : Int32) (x2 : Int32) (x3 : Int32) (rv : Int32) (gv : hF) (hS : isHo S k ro) (h : fX2_writeWedding k ro f x1 x2 x3 = some (rv, gv)) : Met l yX2_writeWedding wsX2_writeWedding ({ frames := 2, cells := 0, slots := 0, locals := 50 }) (hPc D ac ad S f [.ref (ad k), .int x1, .int x2, .int x3]) (hQi D ac ad S rv gv) 0 0 (hAd ad S.length) := by
  refine h_enter (C := RX2) (cc := cX2_writeWedding) (maxL := 6) (ret := (some .int)) (lv := [(0, .ref (ad k)), (1, .int x1), (2, .int x2), (3, .int x3)]) (by decide) rfl rfl (Nat.le_of_ble_eq_true rfl) rfl (fun p e s m below meth c ls hx hb hml hr hlocks hown hts hK hw hl => ?_)
  unfold fX2_writeWedding at h
  refine lv_aload_n hx hb dX2_writeWedding_0 rfl (lv_at hl 0 rfl) ?_
  refine h_getR hx hb hts hnX2_writeWedding_X2 hown hK hw hS.1 rfl 1 (by decide) rfl hkX2_writeWedding_12 dX2_writeWedding_1 ?_
  refine lv_iload_n hx hb dX2_writeWedding_4 rfl (lv_at hl 1 rfl) ?_
  obtain ⟨r1, f2, ef2, h⟩ := b2_s h
  refine h_callQ hw (va_runV (As := [.int x1]) (rest := []) ⟨hx, hb, hml, hown, hts⟩ (mX0_begin l D ac ad S (k+1) f x1 r1 f2 hS.2.2.2.1 ef2) (cwV 1 hts gX2_writeWedding_X0_begin rfl rfl rfl (by decide +kernel) ⟨Nat.le_of_ble_eq_true rfl, Nat.le_of_ble_eq_true rfl⟩) (h_preV hK hw hS.2.2.2.1.1 rfl _) rfl rfl hl.1 rfl (lv_room (Nat.le_of_ble_eq_true rfl)) dX2_writeWedding_5 ⟨Nat.le_of_ble_eq_true rfl, Nat.le_of_ble_eq_true rfl⟩) (fun H locs hw => ?_)
  refine lv_istore (lv' := [(4, .int r1), (0, .ref (ad k)), (1, .int x1), (2, .int x2), (3, .int x3)]) hx hb dX2_writeWedding_8 hl (by decide) rfl (fun ls hl => ?_)
  refine lv_aload_n hx hb dX2_writeWedding_10 rfl (lv_at hl 1 rfl) ?_
  refine h_getR hx hb hts hnX2_writeWedding_X2 hown hK hw hS.1 rfl 1 (by decide) rfl hkX2_writeWedding_12 dX2_writeWedding_11 ?_
  refine lv_iload_n hx hb dX2_writeWedding_14 rfl (lv_at hl 2 rfl) ?_
  refine lv_iload hx hb dX2_writeWedding_15 (lv_at hl 0 rfl) ?_
  obtain ⟨r3, er3, h⟩ := b1_s h
  refine h_callR (va_runV (As := [.int x1, .int r1]) (rest := []) ⟨hx, hb, hml, hown, hts⟩ (mX0_slotOf l D ac ad S (k+1) f2 x1 r1 r3 hS.2.2.2.1 er3) (cwV 2 hts gX2_writeWedding_X0_slotOf rfl rfl rfl (by decide +kernel) ⟨Nat.le_of_ble_eq_true rfl, Nat.le_of_ble_eq_true rfl⟩) (h_preV hK hw hS.2.2.2.1.1 rfl _) rfl rfl hl.1 rfl (lv_room (Nat.le_of_ble_eq_true rfl)) dX2_writeWedding_17 ⟨Nat.le_of_ble_eq_true rfl, Nat.le_of_ble_eq_true rfl⟩) ?_
  refine lv_istore (lv' := [(5, .int r3), (4, .int r1), (0, .ref (ad k)), (1, .int x1), (2, .int x2), (3, .int x3)]) hx hb dX2_writeWedding_20 hl (by decide) rfl (fun ls hl => ?_)
  refine lv_iload hx hb dX2_writeWedding_22 (lv_at hl 0 rfl) ?_
  refine lv_iconst (v := (-1)) hx hb dX2_writeWedding_24 (by decide) ?_
  refine lv_icmp_eq (tgt := 46) hx hb dX2_writeWedding_25 (by decide) (fun hc4 => ?_) (fun hc4 => ?_)
  · have h := it hc4 h
    refine lv_iload hx hb dX2_writeWedding_46 (lv_at hl 1 rfl) ?_
    exact h_retQ hx hb hr hlocks hw rfl (so2 h) dX2_writeWedding_48
  · have h := ie hc4 h
    refine lv_aload_n hx hb dX2_writeWedding_28 rfl (lv_at hl 2 rfl) ?_
    refine lv_iload_n hx hb dX2_writeWedding_29 rfl (lv_at hl 3 rfl) ?_
    refine lv_iload hx hb dX2_writeWedding_30 (lv_at hl 0 rfl) ?_
    refine lv_iload_n hx hb dX2_writeWedding_32 rfl (lv_at hl 4 rfl) ?_
    refine lv_iload_n hx hb dX2_writeWedding_33 rfl (lv_at hl 5 rfl) ?_
    refine lv_aload_n hx hb dX2_writeWedding_34 rfl (lv_at hl 2 rfl) ?_
    refine h_getR hx hb hts hnX2_writeWedding_X2 hown hK hw hS.1 rfl 0 (by decide) rfl hkX2_writeWedding_31 dX2_writeWedding_35 ?_
    refine h_getR hx hb hts hnX2_writeWedding_X3 hown hK hw hS.2.2.1.1 rfl 8 (by decide) rfl hkX2_writeWedding_96 dX2_writeWedding_38 ?_
    refine lv_iload_n hx hb dX2_writeWedding_41 rfl (lv_at hl 3 rfl) ?_
    obtain ⟨hi5, h⟩ := gd_s h
    refine h_iald hx hb hK hw hS.2.2.1.2.2.2.2.2.2.1 hi5 dX2_writeWedding_42 ?_
    obtain ⟨f6, ef6, h⟩ := b1_s h
    refine h_callV hw (va_runV (As := [.int x1, .int r3, .int x2, .int x3, .int (f2 (ro+6) x1.toNatClampNeg)]) (rest := []) ⟨hx, hb, hml, hown, hts⟩ (mX2_writeTwo l D ac ad S k ro f2 x1 r3 x2 x3 (f2 (ro+6) x1.toNatClampNeg) f6 hS ef6) (cwV 5 hts gX2_writeWedding_X2_writeTwo rfl rfl rfl (by decide +kernel) ⟨Nat.le_of_ble_eq_true rfl, Nat.le_of_ble_eq_true rfl⟩) (h_preV hK hw hS.1 rfl _) rfl rfl hl.1 rfl (lv_room (Nat.le_of_ble_eq_true rfl)) dX2_writeWedding_43 ⟨Nat.le_of_ble_eq_true rfl, Nat.le_of_ble_eq_true rfl⟩) (fun H locs hw => ?_)
    refine lv_iload hx hb dX2_writeWedding_46 (lv_at hl 1 rfl) ?_
    exact h_retQ hx hb hr hlocks hw rfl (so2 h) dX2_writeWedding_48

theorem hnX7_wed_X7 : ∀ w ∈ wsX70, w ∈ wsX7_wed := by decide +kernel
theorem hkX7_wed_19 : Cond.fieldLink RX7 19 (TX7 1).1 (TX7 1).2.1 (TX7 1).2.2.1 ∈ wsX7_wed := by decide +kernel
theorem hkX7_wed_31 : Cond.fieldLink RX7 31 (TX7 3).1 (TX7 3).2.1 (TX7 3).2.2.1 ∈ wsX7_wed := by decide +kernel
theorem hkX7_wed_50 : Cond.fieldLink RX7 50 (TX7 6).1 (TX7 6).2.1 (TX7 6).2.2.1 ∈ wsX7_wed := by decide +kernel
theorem hnX7_wed_X2 : ∀ w ∈ wsX20, w ∈ wsX7_wed := by decide +kernel
theorem hkX7_wed_108 : Cond.fieldLink RX7 108 (TX2 1).1 (TX2 1).2.1 (TX2 1).2.2.1 ∈ wsX7_wed := by decide +kernel
set_option maxHeartbeats 8000000 in
set_option maxRecDepth 100000 in
theorem mX7_wed (l : Launch) (D : va_G) (ac : Nat → ClassId) (ad : Nat → Nat) (S : List hSh) (f : hF) (x1 : Int32) (x2 : Int32) (x3 : Int32) (rv : Int32) (gv : hF) (hS : isPW S) (h : fX7_wed f x1 x2 x3 = some (rv, gv)) : Met l yX7_wed wsX7_wed ({ frames := 3, cells := 0, slots := 0, locals := 75 }) (hPc D ac ad S f [.ref (ad 0), .int x1, .int x2, .int x3]) (hQi D ac ad S rv gv) 0 0 (hAd ad S.length) := by
  refine h_enter (C := RX7) (cc := cX7_wed) (maxL := 5) (ret := (some .int)) (lv := [(0, .ref (ad 0)), (1, .int x1), (2, .int x2), (3, .int x3)]) (by decide) rfl rfl (Nat.le_of_ble_eq_true rfl) rfl (fun p e s m below meth c ls hx hb hml hr hlocks hown hts hK hw hl => ?_)
  unfold fX7_wed at h
  refine lv_aload_n hx hb dX7_wed_0 rfl (lv_at hl 0 rfl) ?_
  refine h_getR hx hb hts hnX7_wed_X7 hown hK hw hS.1 rfl 1 (by decide) rfl hkX7_wed_19 dX7_wed_1 ?_
  refine lv_iload_n hx hb dX7_wed_4 rfl (lv_at hl 1 rfl) ?_
  obtain ⟨r1, er1, h⟩ := b1_s h
  refine h_callR (va_runV (As := [.int x1]) (rest := []) ⟨hx, hb, hml, hown, hts⟩ (mX3_isParson l D ac ad S 3 f x1 r1 hS.2.2.1 er1) (cwV 1 hts gX7_wed_X3_isParson rfl rfl rfl (by decide +kernel) ⟨Nat.le_of_ble_eq_true rfl, Nat.le_of_ble_eq_true rfl⟩) (h_preV hK hw hS.2.2.1.1 rfl _) rfl rfl hl.1 rfl (lv_room (Nat.le_of_ble_eq_true rfl)) dX7_wed_5 ⟨Nat.le_of_ble_eq_true rfl, Nat.le_of_ble_eq_true rfl⟩) ?_
  refine lv_if_eq (tgt := 23) hx hb dX7_wed_8 (by decide) (fun hc2 => ?_) (fun hc2 => ?_)
  · have h := it hc2 h
    refine lv_iconst (v := (-1)) hx hb dX7_wed_23 (by decide) ?_
    exact h_retQ hx hb hr hlocks hw rfl (so2 h) dX7_wed_24
  · have h := ie hc2 h
    refine lv_aload_n hx hb dX7_wed_11 rfl (lv_at hl 0 rfl) ?_
    refine h_getR hx hb hts hnX7_wed_X7 hown hK hw hS.1 rfl 1 (by decide) rfl hkX7_wed_19 dX7_wed_12 ?_
    refine lv_iload_n hx hb dX7_wed_15 rfl (lv_at hl 2 rfl) ?_
    refine lv_iload_n hx hb dX7_wed_16 rfl (lv_at hl 3 rfl) ?_
    obtain ⟨r3, er3, h⟩ := b1_s h
    refine h_callR (va_runV (As := [.int x2, .int x3]) (rest := []) ⟨hx, hb, hml, hown, hts⟩ (mX3_areTwo l D ac ad S 3 f x2 x3 r3 hS.2.2.1 er3) (cwV 2 hts gX7_wed_X3_areTwo rfl rfl rfl (by decide +kernel) ⟨Nat.le_of_ble_eq_true rfl, Nat.le_of_ble_eq_true rfl⟩) (h_preV hK hw hS.2.2.1.1 rfl _) rfl rfl hl.1 rfl (lv_room (Nat.le_of_ble_eq_true rfl)) dX7_wed_17 ⟨Nat.le_of_ble_eq_true rfl, Nat.le_of_ble_eq_true rfl⟩) ?_
    refine lv_if_ne (tgt := 25) hx hb dX7_wed_20 (by decide) (fun hc4 => ?_) (fun hc4 => ?_)
    · have h := ie hc4 h
      refine lv_aload_n hx hb dX7_wed_25 rfl (lv_at hl 0 rfl) ?_
      refine h_getR hx hb hts hnX7_wed_X7 hown hK hw hS.1 rfl 3 (by decide) rfl hkX7_wed_31 dX7_wed_26 ?_
      refine lv_iload_n hx hb dX7_wed_29 rfl (lv_at hl 1 rfl) ?_
      refine lv_iload_n hx hb dX7_wed_30 rfl (lv_at hl 2 rfl) ?_
      refine lv_iload_n hx hb dX7_wed_31 rfl (lv_at hl 3 rfl) ?_
      obtain ⟨r5, er5, h⟩ := b1_s h
      refine h_callR (va_runV (As := [.int x1, .int x2, .int x3]) (rest := []) ⟨hx, hb, hml, hown, hts⟩ (mX2_refuseWedding l D ac ad S 19 3 f x1 x2 x3 r5 hS.2.2.2.2.1 er5) (cwV 3 hts gX7_wed_X2_refuseWedding rfl rfl rfl (by decide +kernel) ⟨Nat.le_of_ble_eq_true rfl, Nat.le_of_ble_eq_true rfl⟩) (h_preV hK hw hS.2.2.2.2.1.1 rfl _) rfl rfl hl.1 rfl (lv_room (Nat.le_of_ble_eq_true rfl)) dX7_wed_32 ⟨Nat.le_of_ble_eq_true rfl, Nat.le_of_ble_eq_true rfl⟩) ?_
      refine lv_istore (lv' := [(4, .int r5), (0, .ref (ad 0)), (1, .int x1), (2, .int x2), (3, .int x3)]) hx hb dX7_wed_35 hl (by decide) rfl (fun ls hl => ?_)
      refine lv_iload hx hb dX7_wed_37 (lv_at hl 0 rfl) ?_
      refine lv_if_eq (tgt := 45) hx hb dX7_wed_39 (by decide) (fun hc6 => ?_) (fun hc6 => ?_)
      · have h := it hc6 h
        refine lv_aload_n hx hb dX7_wed_45 rfl (lv_at hl 1 rfl) ?_
        refine h_getR hx hb hts hnX7_wed_X7 hown hK hw hS.1 rfl 6 (by decide) rfl hkX7_wed_50 dX7_wed_46 ?_
        refine lv_aload_n hx hb dX7_wed_49 rfl (lv_at hl 1 rfl) ?_
        refine h_getR hx hb hts hnX7_wed_X7 hown hK hw hS.1 rfl 3 (by decide) rfl hkX7_wed_31 dX7_wed_50 ?_
        refine h_getR hx hb hts hnX7_wed_X2 hown hK hw hS.2.2.2.2.1.1 rfl 1 (by decide) rfl hkX7_wed_108 dX7_wed_53 ?_
        obtain ⟨f7, ef7, h⟩ := b1_s h
        refine h_callV hw (va_runV (As := [.ref (ad 20)]) (rest := []) ⟨hx, hb, hml, hown, hts⟩ (mX5_put l D ac ad S 52 8 20 f f7 hS.2.2.2.2.2.2.2.1 hS.2.2.2.2.1.2.2.2.1 ef7) (cwV 1 hts gX7_wed_X5_put rfl rfl rfl (by decide +kernel) ⟨Nat.le_of_ble_eq_true rfl, Nat.le_of_ble_eq_true rfl⟩) (h_preV hK hw hS.2.2.2.2.2.2.2.1.1 rfl _) rfl rfl hl.1 rfl (lv_room (Nat.le_of_ble_eq_true rfl)) dX7_wed_56 ⟨Nat.le_of_ble_eq_true rfl, Nat.le_of_ble_eq_true rfl⟩) (fun H locs hw => ?_)
        refine lv_aload_n hx hb dX7_wed_59 rfl (lv_at hl 1 rfl) ?_
        refine h_getR hx hb hts hnX7_wed_X7 hown hK hw hS.1 rfl 3 (by decide) rfl hkX7_wed_31 dX7_wed_60 ?_
        refine lv_iload_n hx hb dX7_wed_63 rfl (lv_at hl 2 rfl) ?_
        refine lv_iload_n hx hb dX7_wed_64 rfl (lv_at hl 3 rfl) ?_
        refine lv_iload_n hx hb dX7_wed_65 rfl (lv_at hl 4 rfl) ?_
        obtain ⟨r8, f9, ef9, h⟩ := b2_s h
        refine h_callQ hw (va_runV (As := [.int x1, .int x2, .int x3]) (rest := []) ⟨hx, hb, hml, hown, hts⟩ (mX2_writeWedding l D ac ad S 19 3 f7 x1 x2 x3 r8 f9 hS.2.2.2.2.1 ef9) (cwV 3 hts gX7_wed_X2_writeWedding rfl rfl rfl (by decide +kernel) ⟨Nat.le_of_ble_eq_true rfl, Nat.le_of_ble_eq_true rfl⟩) (h_preV hK hw hS.2.2.2.2.1.1 rfl _) rfl rfl hl.1 rfl (lv_room (Nat.le_of_ble_eq_true rfl)) dX7_wed_66 ⟨Nat.le_of_ble_eq_true rfl, Nat.le_of_ble_eq_true rfl⟩) (fun H locs hw => ?_)
        exact h_retQ hx hb hr hlocks hw rfl (so2 h) dX7_wed_69
      · have h := ie hc6 h
        refine lv_iload hx hb dX7_wed_42 (lv_at hl 0 rfl) ?_
        exact h_retQ hx hb hr hlocks hw rfl (so2 h) dX7_wed_44
    · have h := it hc4 h
      refine lv_iconst (v := (-1)) hx hb dX7_wed_23 (by decide) ?_
      exact h_retQ hx hb hr hlocks hw rfl (so2 h) dX7_wed_24

theorem hnX2_refuseBlank_X2 : ∀ w ∈ wsX20, w ∈ wsX2_refuseBlank := by decide +kernel
theorem hkX2_refuseBlank_12 : Cond.fieldLink RX2 12 (TX2 1).1 (TX2 1).2.1 (TX2 1).2.2.1 ∈ wsX2_refuseBlank := by decide +kernel
theorem hkX2_refuseBlank_31 : Cond.fieldLink RX2 31 (TX2 0).1 (TX2 0).2.1 (TX2 0).2.2.1 ∈ wsX2_refuseBlank := by decide +kernel
theorem hnX2_refuseBlank_X3 : ∀ w ∈ wsX30, w ∈ wsX2_refuseBlank := by decide +kernel
theorem hkX2_refuseBlank_106 : Cond.fieldLink RX2 106 (TX3 7).1 (TX3 7).2.1 (TX3 7).2.2.1 ∈ wsX2_refuseBlank := by decide +kernel
set_option maxHeartbeats 8000000 in
set_option maxRecDepth 100000 in
theorem mX2_refuseBlank (l : Launch) (D : va_G) (ac : Nat → ClassId) (ad : Nat → Nat) (S : List hSh) (k : Nat) (ro : Nat) (f : hF) (x1 : Int32) (rv : Int32) (hS : isHo S k ro) (h : fX2_refuseBlank k ro f x1 = some rv) : Met l yX2_refuseBlank wsX2_refuseBlank ({ frames := 2, cells := 0, slots := 0, locals := 46 }) (hPc D ac ad S f [.ref (ad k), .int x1]) (hRi rv) 0 0 hNo := by
  refine h_enter (C := RX2) (cc := cX2_refuseBlank) (maxL := 2) (ret := (some .int)) (lv := [(0, .ref (ad k)), (1, .int x1)]) (by decide) rfl rfl (Nat.le_of_ble_eq_true rfl) rfl (fun p e s m below meth c ls hx hb hml hr hlocks hown hts hK hw hl => ?_)
  have J61 : ∀ (_ : Unit), (∀ (ls : Array Slot), lv_has ls 2 [(0, .ref (ad k)), (1, .int x1)] → fX2_refuseBlank_61 k ro f x1 = some rv → W p l e ({ frames := 2, cells := 0, slots := 0, locals := 46 } : Room) s m ([.ref (ad k), .int x1] : List Value).toArray below meth c s.heap [] 0 0 (MQ below (hRi rv) ([.ref (ad k), .int x1] : List Value).toArray s 0 0 hNo) (F0 m 61 ls [])) := by
    intro _ ls hl h
    unfold fX2_refuseBlank_61 at h
    refine lv_aload_n hx hb dX2_refuseBlank_61 rfl (lv_at hl 0 rfl) ?_
    refine h_getR hx hb hts hnX2_refuseBlank_X2 hown hK hw hS.1 rfl 1 (by decide) rfl hkX2_refuseBlank_12 dX2_refuseBlank_62 ?_
    refine lv_iload_n hx hb dX2_refuseBlank_65 rfl (lv_at hl 1 rfl) ?_
    obtain ⟨r1, er1, h⟩ := b1_s h
    refine h_callR (va_runV (As := [.int x1]) (rest := []) ⟨hx, hb, hml, hown, hts⟩ (mX0_hasRoom l D ac ad S (k+1) f x1 r1 hS.2.2.2.1 er1) (cwV 1 hts gX2_refuseBlank_X0_hasRoom rfl rfl rfl (by decide +kernel) ⟨Nat.le_of_ble_eq_true rfl, Nat.le_of_ble_eq_true rfl⟩) (h_preV hK hw hS.2.2.2.1.1 rfl _) rfl rfl hl.1 rfl (lv_room (Nat.le_of_ble_eq_true rfl)) dX2_refuseBlank_66 ⟨Nat.le_of_ble_eq_true rfl, Nat.le_of_ble_eq_true rfl⟩) ?_
    refine lv_if_eq (tgt := 76) hx hb dX2_refuseBlank_69 (by decide) (fun hc2 => ?_) (fun hc2 => ?_)
    · have h := it hc2 h
      refine lv_bipush (v := (-3)) hx hb dX2_refuseBlank_76 (by decide) ?_
      exact h_retR hx hb hr hlocks rfl (so1 h) dX2_refuseBlank_78
    · have h := ie hc2 h
      refine lv_iconst (v := 0) hx hb dX2_refuseBlank_72 (by decide) ?_
      refine lv_goto (tgt := 78) hx hb dX2_refuseBlank_73 (by decide) ?_
      exact h_retR hx hb hr hlocks rfl (so1 h) dX2_refuseBlank_78
  unfold fX2_refuseBlank at h
  refine lv_aload_n hx hb dX2_refuseBlank_0 rfl (lv_at hl 0 rfl) ?_
  refine h_getR hx hb hts hnX2_refuseBlank_X2 hown hK hw hS.1 rfl 0 (by decide) rfl hkX2_refuseBlank_31 dX2_refuseBlank_1 ?_
  refine lv_iload_n hx hb dX2_refuseBlank_4 rfl (lv_at hl 1 rfl) ?_
  obtain ⟨r1, er1, h⟩ := b1_s h
  refine h_callR (va_runV (As := [.int x1]) (rest := []) ⟨hx, hb, hml, hown, hts⟩ (mX3_isParson l D ac ad S ro f x1 r1 hS.2.2.1 er1) (cwV 1 hts gX2_refuseBlank_X3_isParson rfl rfl rfl (by decide +kernel) ⟨Nat.le_of_ble_eq_true rfl, Nat.le_of_ble_eq_true rfl⟩) (h_preV hK hw hS.2.2.1.1 rfl _) rfl rfl hl.1 rfl (lv_room (Nat.le_of_ble_eq_true rfl)) dX2_refuseBlank_5 ⟨Nat.le_of_ble_eq_true rfl, Nat.le_of_ble_eq_true rfl⟩) ?_
  refine lv_if_eq (tgt := 30) hx hb dX2_refuseBlank_8 (by decide) (fun hc2 => ?_) (fun hc2 => ?_)
  · have h := it hc2 h
    refine lv_bipush (v := (-2)) hx hb dX2_refuseBlank_30 (by decide) ?_
    exact h_retR hx hb hr hlocks rfl (so1 h) dX2_refuseBlank_32
  · have h := ie hc2 h
    refine lv_aload_n hx hb dX2_refuseBlank_11 rfl (lv_at hl 0 rfl) ?_
    refine h_getR hx hb hts hnX2_refuseBlank_X2 hown hK hw hS.1 rfl 0 (by decide) rfl hkX2_refuseBlank_31 dX2_refuseBlank_12 ?_
    refine h_getR hx hb hts hnX2_refuseBlank_X3 hown hK hw hS.2.2.1.1 rfl 7 (by decide) rfl hkX2_refuseBlank_106 dX2_refuseBlank_15 ?_
    refine lv_iload_n hx hb dX2_refuseBlank_18 rfl (lv_at hl 1 rfl) ?_
    obtain ⟨hi3, h⟩ := gd_s h
    refine h_iald hx hb hK hw hS.2.2.1.2.2.2.2.2.1 hi3 dX2_refuseBlank_19 ?_
    refine lv_if_eq (tgt := 30) hx hb dX2_refuseBlank_20 (by decide) (fun hc4 => ?_) (fun hc4 => ?_)
    · have h := it hc4 h
      refine lv_bipush (v := (-2)) hx hb dX2_refuseBlank_30 (by decide) ?_
      exact h_retR hx hb hr hlocks rfl (so1 h) dX2_refuseBlank_32
    · have h := ie hc4 h
      refine lv_aload_n hx hb dX2_refuseBlank_23 rfl (lv_at hl 0 rfl) ?_
      obtain ⟨r5, er5, h⟩ := b1_s h
      refine h_callR (va_runV (As := []) (rest := []) ⟨hx, hb, hml, hown, hts⟩ (mX2_isLaw l D ac ad S k ro f r5 hS er5) (cwV 0 hts gX2_refuseBlank_X2_isLaw rfl rfl rfl (by decide +kernel) ⟨Nat.le_of_ble_eq_true rfl, Nat.le_of_ble_eq_true rfl⟩) (h_preV hK hw hS.1 rfl _) rfl rfl hl.1 rfl (lv_room (Nat.le_of_ble_eq_true rfl)) dX2_refuseBlank_24 ⟨Nat.le_of_ble_eq_true rfl, Nat.le_of_ble_eq_true rfl⟩) ?_
      refine lv_if_eq (tgt := 33) hx hb dX2_refuseBlank_27 (by decide) (fun hc6 => ?_) (fun hc6 => ?_)
      · have h := it hc6 h
        refine lv_aload_n hx hb dX2_refuseBlank_33 rfl (lv_at hl 0 rfl) ?_
        refine h_getR hx hb hts hnX2_refuseBlank_X2 hown hK hw hS.1 rfl 0 (by decide) rfl hkX2_refuseBlank_31 dX2_refuseBlank_34 ?_
        refine h_getR hx hb hts hnX2_refuseBlank_X3 hown hK hw hS.2.2.1.1 rfl 7 (by decide) rfl hkX2_refuseBlank_106 dX2_refuseBlank_37 ?_
        refine lv_iload_n hx hb dX2_refuseBlank_40 rfl (lv_at hl 1 rfl) ?_
        obtain ⟨hi7, h⟩ := gd_s h
        refine h_iald hx hb hK hw hS.2.2.1.2.2.2.2.2.1 hi7 dX2_refuseBlank_41 ?_
        refine lv_iconst (v := 1) hx hb dX2_refuseBlank_42 (by decide) ?_
        refine lv_icmp_ne (tgt := 61) hx hb dX2_refuseBlank_43 (by decide) (fun hc8 => ?_) (fun hc8 => ?_)
        · have h := ie hc8 h
          exact J61 () _ (lv_sub hl [0, 1] rfl) h
        · have h := it hc8 h
          refine lv_aload_n hx hb dX2_refuseBlank_46 rfl (lv_at hl 0 rfl) ?_
          refine h_getR hx hb hts hnX2_refuseBlank_X2 hown hK hw hS.1 rfl 1 (by decide) rfl hkX2_refuseBlank_12 dX2_refuseBlank_47 ?_
          refine lv_iload_n hx hb dX2_refuseBlank_50 rfl (lv_at hl 1 rfl) ?_
          obtain ⟨r9, er9, h⟩ := b1_s h
          refine h_callR (va_runV (As := [.int x1]) (rest := []) ⟨hx, hb, hml, hown, hts⟩ (mX0_blanksOf l D ac ad S (k+1) f x1 r9 hS.2.2.2.1 er9) (cwV 1 hts gX2_refuseBlank_X0_blanksOf rfl rfl rfl (by decide +kernel) ⟨Nat.le_of_ble_eq_true rfl, Nat.le_of_ble_eq_true rfl⟩) (h_preV hK hw hS.2.2.2.1.1 rfl _) rfl rfl hl.1 rfl (lv_room (Nat.le_of_ble_eq_true rfl)) dX2_refuseBlank_51 ⟨Nat.le_of_ble_eq_true rfl, Nat.le_of_ble_eq_true rfl⟩) ?_
          refine lv_iconst (v := 2) hx hb dX2_refuseBlank_54 (by decide) ?_
          refine lv_icmp_lt (tgt := 61) hx hb dX2_refuseBlank_55 (by decide) (fun hc10 => ?_) (fun hc10 => ?_)
          · have h := it hc10 h
            exact J61 () _ (lv_sub hl [0, 1] rfl) h
          · have h := ie hc10 h
            refine lv_bipush (v := (-2)) hx hb dX2_refuseBlank_58 (by decide) ?_
            exact h_retR hx hb hr hlocks rfl (so1 h) dX2_refuseBlank_60
      · have h := ie hc6 h
        refine lv_bipush (v := (-2)) hx hb dX2_refuseBlank_30 (by decide) ?_
        exact h_retR hx hb hr hlocks rfl (so1 h) dX2_refuseBlank_32

theorem hnX7_leave_X7 : ∀ w ∈ wsX70, w ∈ wsX7_leave := by decide +kernel
theorem hkX7_leave_19 : Cond.fieldLink RX7 19 (TX7 1).1 (TX7 1).2.1 (TX7 1).2.2.1 ∈ wsX7_leave := by decide +kernel
theorem hkX7_leave_31 : Cond.fieldLink RX7 31 (TX7 3).1 (TX7 3).2.1 (TX7 3).2.2.1 ∈ wsX7_leave := by decide +kernel
theorem hkX7_leave_50 : Cond.fieldLink RX7 50 (TX7 6).1 (TX7 6).2.1 (TX7 6).2.2.1 ∈ wsX7_leave := by decide +kernel
theorem hnX7_leave_X2 : ∀ w ∈ wsX20, w ∈ wsX7_leave := by decide +kernel
theorem hkX7_leave_108 : Cond.fieldLink RX7 108 (TX2 1).1 (TX2 1).2.1 (TX2 1).2.2.1 ∈ wsX7_leave := by decide +kernel
set_option maxHeartbeats 8000000 in
set_option maxRecDepth 100000 in
theorem mX7_leave (l : Launch) (D : va_G) (ac : Nat → ClassId) (ad : Nat → Nat) (S : List hSh) (f : hF) (x1 : Int32) (rv : Int32) (gv : hF) (hS : isPW S) (h : fX7_leave f x1 = some (rv, gv)) : Met l yX7_leave wsX7_leave ({ frames := 3, cells := 0, slots := 0, locals := 74 }) (hPc D ac ad S f [.ref (ad 0), .int x1]) (hQi D ac ad S rv gv) 0 0 (hAd ad S.length) := by
  refine h_enter (C := RX7) (cc := cX7_leave) (maxL := 3) (ret := (some .int)) (lv := [(0, .ref (ad 0)), (1, .int x1)]) (by decide) rfl rfl (Nat.le_of_ble_eq_true rfl) rfl (fun p e s m below meth c ls hx hb hml hr hlocks hown hts hK hw hl => ?_)
  unfold fX7_leave at h
  refine lv_aload_n hx hb dX7_leave_0 rfl (lv_at hl 0 rfl) ?_
  refine h_getR hx hb hts hnX7_leave_X7 hown hK hw hS.1 rfl 1 (by decide) rfl hkX7_leave_19 dX7_leave_1 ?_
  refine lv_iload_n hx hb dX7_leave_4 rfl (lv_at hl 1 rfl) ?_
  obtain ⟨r1, er1, h⟩ := b1_s h
  refine h_callR (va_runV (As := [.int x1]) (rest := []) ⟨hx, hb, hml, hown, hts⟩ (mX3_isParson l D ac ad S 3 f x1 r1 hS.2.2.1 er1) (cwV 1 hts gX7_leave_X3_isParson rfl rfl rfl (by decide +kernel) ⟨Nat.le_of_ble_eq_true rfl, Nat.le_of_ble_eq_true rfl⟩) (h_preV hK hw hS.2.2.1.1 rfl _) rfl rfl hl.1 rfl (lv_room (Nat.le_of_ble_eq_true rfl)) dX7_leave_5 ⟨Nat.le_of_ble_eq_true rfl, Nat.le_of_ble_eq_true rfl⟩) ?_
  refine lv_if_ne (tgt := 13) hx hb dX7_leave_8 (by decide) (fun hc2 => ?_) (fun hc2 => ?_)
  · have h := ie hc2 h
    refine lv_aload_n hx hb dX7_leave_13 rfl (lv_at hl 0 rfl) ?_
    refine h_getR hx hb hts hnX7_leave_X7 hown hK hw hS.1 rfl 3 (by decide) rfl hkX7_leave_31 dX7_leave_14 ?_
    refine lv_iload_n hx hb dX7_leave_17 rfl (lv_at hl 1 rfl) ?_
    obtain ⟨r3, er3, h⟩ := b1_s h
    refine h_callR (va_runV (As := [.int x1]) (rest := []) ⟨hx, hb, hml, hown, hts⟩ (mX2_refuseBlank l D ac ad S 19 3 f x1 r3 hS.2.2.2.2.1 er3) (cwV 1 hts gX7_leave_X2_refuseBlank rfl rfl rfl (by decide +kernel) ⟨Nat.le_of_ble_eq_true rfl, Nat.le_of_ble_eq_true rfl⟩) (h_preV hK hw hS.2.2.2.2.1.1 rfl _) rfl rfl hl.1 rfl (lv_room (Nat.le_of_ble_eq_true rfl)) dX7_leave_18 ⟨Nat.le_of_ble_eq_true rfl, Nat.le_of_ble_eq_true rfl⟩) ?_
    refine lv_istore_n (lv' := [(2, .int r3), (0, .ref (ad 0)), (1, .int x1)]) hx hb dX7_leave_21 rfl hl (by decide) rfl (fun ls hl => ?_)
    refine lv_iload_n hx hb dX7_leave_22 rfl (lv_at hl 0 rfl) ?_
    refine lv_if_eq (tgt := 28) hx hb dX7_leave_23 (by decide) (fun hc4 => ?_) (fun hc4 => ?_)
    · have h := it hc4 h
      refine lv_aload_n hx hb dX7_leave_28 rfl (lv_at hl 1 rfl) ?_
      refine h_getR hx hb hts hnX7_leave_X7 hown hK hw hS.1 rfl 6 (by decide) rfl hkX7_leave_50 dX7_leave_29 ?_
      refine lv_aload_n hx hb dX7_leave_32 rfl (lv_at hl 1 rfl) ?_
      refine h_getR hx hb hts hnX7_leave_X7 hown hK hw hS.1 rfl 3 (by decide) rfl hkX7_leave_31 dX7_leave_33 ?_
      refine h_getR hx hb hts hnX7_leave_X2 hown hK hw hS.2.2.2.2.1.1 rfl 1 (by decide) rfl hkX7_leave_108 dX7_leave_36 ?_
      obtain ⟨f5, ef5, h⟩ := b1_s h
      refine h_callV hw (va_runV (As := [.ref (ad 20)]) (rest := []) ⟨hx, hb, hml, hown, hts⟩ (mX5_put l D ac ad S 52 8 20 f f5 hS.2.2.2.2.2.2.2.1 hS.2.2.2.2.1.2.2.2.1 ef5) (cwV 1 hts gX7_leave_X5_put rfl rfl rfl (by decide +kernel) ⟨Nat.le_of_ble_eq_true rfl, Nat.le_of_ble_eq_true rfl⟩) (h_preV hK hw hS.2.2.2.2.2.2.2.1.1 rfl _) rfl rfl hl.1 rfl (lv_room (Nat.le_of_ble_eq_true rfl)) dX7_leave_39 ⟨Nat.le_of_ble_eq_true rfl, Nat.le_of_ble_eq_true rfl⟩) (fun H locs hw => ?_)
      refine lv_aload_n hx hb dX7_leave_42 rfl (lv_at hl 1 rfl) ?_
      refine h_getR hx hb hts hnX7_leave_X7 hown hK hw hS.1 rfl 3 (by decide) rfl hkX7_leave_31 dX7_leave_43 ?_
      refine h_getR hx hb hts hnX7_leave_X2 hown hK hw hS.2.2.2.2.1.1 rfl 1 (by decide) rfl hkX7_leave_108 dX7_leave_46 ?_
      refine lv_iload_n hx hb dX7_leave_49 rfl (lv_at hl 2 rfl) ?_
      obtain ⟨r6, f7, ef7, h⟩ := b2_s h
      refine h_callQ hw (va_runV (As := [.int x1]) (rest := []) ⟨hx, hb, hml, hown, hts⟩ (mX0_begin l D ac ad S 20 f5 x1 r6 f7 hS.2.2.2.2.1.2.2.2.1 ef7) (cwV 1 hts gX7_leave_X0_begin rfl rfl rfl (by decide +kernel) ⟨Nat.le_of_ble_eq_true rfl, Nat.le_of_ble_eq_true rfl⟩) (h_preV hK hw hS.2.2.2.2.1.2.2.2.1.1 rfl _) rfl rfl hl.1 rfl (lv_room (Nat.le_of_ble_eq_true rfl)) dX7_leave_50 ⟨Nat.le_of_ble_eq_true rfl, Nat.le_of_ble_eq_true rfl⟩) (fun H locs hw => ?_)
      exact h_retQ hx hb hr hlocks hw rfl (so2 h) dX7_leave_53
    · have h := ie hc4 h
      refine lv_iload_n hx hb dX7_leave_26 rfl (lv_at hl 0 rfl) ?_
      exact h_retQ hx hb hr hlocks hw rfl (so2 h) dX7_leave_27
  · have h := it hc2 h
    refine lv_iconst (v := (-1)) hx hb dX7_leave_11 (by decide) ?_
    exact h_retQ hx hb hr hlocks hw rfl (so2 h) dX7_leave_12
