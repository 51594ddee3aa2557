/-! contracts: X8_isSo X8_trueBy X8_hand X8_child X8_isMated X8_isBrought X8_mated X8_singles X8_matedBy -/
theorem hnX8_isSo_X8 : ∀ w ∈ wsX80, w ∈ wsX8_isSo := by decide +kernel
theorem hkX8_isSo_25 : Cond.fieldLink RX8 25 (TX8 11).1 (TX8 11).2.1 (TX8 11).2.2.1 ∈ wsX8_isSo := by decide +kernel
theorem hkX8_isSo_143 : Cond.fieldLink RX8 143 (TX8 10).1 (TX8 10).2.1 (TX8 10).2.2.1 ∈ wsX8_isSo := by decide +kernel
set_option maxHeartbeats 8000000 in
set_option maxRecDepth 100000 in
theorem mX8_isSo (l : Launch) (D : va_G) (ac : Nat → ClassId) (ad : Nat → Nat) (S : List hSh) (f : hF) (rv : Int32) (gv : hF) (hS : isMo S) (h : fX8_isSo f = some (rv, gv)) : Met l yX8_isSo wsX8_isSo ({ frames := 4, cells := 0, slots := 0, locals := 87 }) (hPc D ac ad S f [.ref (ad 146)]) (hQi D ac ad S rv gv) 0 0 (hAd ad S.length) := by
  refine h_enter (C := RX8) (cc := cX8_isSo) (maxL := 4) (ret := (some .boolean)) (lv := [(0, .ref (ad 146))]) (by decide) rfl rfl (Nat.le_of_ble_eq_true rfl) rfl (fun p e s m below meth c ls hx hb hml hr hlocks hown hts hK hw hl => ?_)
  have J88 : ∀ (q8 : hF → Int32 → Int32 → Option (Int32 × hF)) (hq8 : (∀ (f : hF) (y1 : Int32) (y2 : Int32) (H : Heap) (locs : List Loc) (ls : Array Slot), hOk D ac ad S (hAd ad S.length) s.heap f H locs → lv_has ls 4 [(0, .ref (ad 146)), (1, .int y1), (2, .int y2)] → q8 f y1 y2 = some (rv, gv) → W p l e ({ frames := 4, cells := 0, slots := 0, locals := 87 } : Room) s m ([.ref (ad 146)] : List Value).toArray below meth c H locs 0 0 (MQ below (hQi D ac ad S rv gv) ([.ref (ad 146)] : List Value).toArray s 0 0 (hAd ad S.length)) (F0 m 8 ls []))), (∀ (f : hF) (y2 : Int32) (H : Heap) (locs : List Loc) (ls : Array Slot), hOk D ac ad S (hAd ad S.length) s.heap f H locs → lv_has ls 4 [(0, .ref (ad 146)), (2, .int y2)] → fX8_isSo_88 q8 f y2 = some (rv, gv) → W p l e ({ frames := 4, cells := 0, slots := 0, locals := 87 } : Room) s m ([.ref (ad 146)] : List Value).toArray below meth c H locs 0 0 (MQ below (hQi D ac ad S rv gv) ([.ref (ad 146)] : List Value).toArray s 0 0 (hAd ad S.length)) (F0 m 88 ls [])) := by
    intro q8 hq8 f y2 H locs ls hw hl h
    unfold fX8_isSo_88 at h
    refine lv_iconst (v := 0) hx hb dX8_isSo_88 (by decide) ?_
    refine lv_istore_n (lv' := [(1, .int 0), (0, .ref (ad 146)), (2, .int y2)]) hx hb dX8_isSo_89 rfl hl (by decide) rfl (fun ls hl => ?_)
    refine lv_iinc (v := (y2 + 1)) (lv' := [(2, .int (y2 + 1)), (1, .int 0), (0, .ref (ad 146))]) hx hb dX8_isSo_90 hl (k := 2) rfl rfl (by decide) rfl (fun ls hl => ?_)
    refine lv_goto (tgt := 8) hx hb dX8_isSo_93 (by decide) ?_
    exact hq8 f 0 (y2 + 1) _ _ _ hw (lv_sub hl [2, 1, 0] rfl) h
  have J81 : ∀ (q8 : hF → Int32 → Int32 → Option (Int32 × hF)) (hq8 : (∀ (f : hF) (y1 : Int32) (y2 : Int32) (H : Heap) (locs : List Loc) (ls : Array Slot), hOk D ac ad S (hAd ad S.length) s.heap f H locs → lv_has ls 4 [(0, .ref (ad 146)), (1, .int y1), (2, .int y2)] → q8 f y1 y2 = some (rv, gv) → W p l e ({ frames := 4, cells := 0, slots := 0, locals := 87 } : Room) s m ([.ref (ad 146)] : List Value).toArray below meth c H locs 0 0 (MQ below (hQi D ac ad S rv gv) ([.ref (ad 146)] : List Value).toArray s 0 0 (hAd ad S.length)) (F0 m 8 ls []))), (∀ (f : hF) (y2 : Int32) (s0 : Int32) (s1 : Int32) (H : Heap) (locs : List Loc) (ls : Array Slot), hOk D ac ad S (hAd ad S.length) s.heap f H locs → lv_has ls 4 [(0, .ref (ad 146)), (2, .int y2)] → fX8_isSo_81 q8 f y2 s0 s1 = some (rv, gv) → W p l e ({ frames := 4, cells := 0, slots := 0, locals := 87 } : Room) s m ([.ref (ad 146)] : List Value).toArray below meth c H locs 0 0 (MQ below (hQi D ac ad S rv gv) ([.ref (ad 146)] : List Value).toArray s 0 0 (hAd ad S.length)) (F0 m 81 ls [.int s1, .int s0])) := by
    intro q8 hq8 f y2 s0 s1 H locs ls hw hl h
    unfold fX8_isSo_81 at h
    refine lv_icmp_ne (tgt := 88) hx hb dX8_isSo_81 (by decide) (fun hc1 => ?_) (fun hc1 => ?_)
    · have h := ie hc1 h
      exact J88 q8 hq8 f y2 _ _ _ hw (lv_sub hl [0, 1] rfl) h
    · have h := it hc1 h
      refine lv_iconst (v := 1) hx hb dX8_isSo_84 (by decide) ?_
      refine lv_goto (tgt := 89) hx hb dX8_isSo_85 (by decide) ?_
      refine lv_istore_n (lv' := [(1, .int 1), (0, .ref (ad 146)), (2, .int y2)]) hx hb dX8_isSo_89 rfl hl (by decide) rfl (fun ls hl => ?_)
      refine lv_iinc (v := (y2 + 1)) (lv' := [(2, .int (y2 + 1)), (1, .int 1), (0, .ref (ad 146))]) hx hb dX8_isSo_90 hl (k := 2) rfl rfl (by decide) rfl (fun ls hl => ?_)
      refine lv_goto (tgt := 8) hx hb dX8_isSo_93 (by decide) ?_
      exact hq8 f 1 (y2 + 1) _ _ _ hw (lv_sub hl [2, 1, 0] rfl) h
  have J56 : ∀ (q8 : hF → Int32 → Int32 → Option (Int32 × hF)) (hq8 : (∀ (f : hF) (y1 : Int32) (y2 : Int32) (H : Heap) (locs : List Loc) (ls : Array Slot), hOk D ac ad S (hAd ad S.length) s.heap f H locs → lv_has ls 4 [(0, .ref (ad 146)), (1, .int y1), (2, .int y2)] → q8 f y1 y2 = some (rv, gv) → W p l e ({ frames := 4, cells := 0, slots := 0, locals := 87 } : Room) s m ([.ref (ad 146)] : List Value).toArray below meth c H locs 0 0 (MQ below (hQi D ac ad S rv gv) ([.ref (ad 146)] : List Value).toArray s 0 0 (hAd ad S.length)) (F0 m 8 ls []))), (∀ (f : hF) (y1 : Int32) (y2 : Int32) (s0 : Int32) (H : Heap) (locs : List Loc) (ls : Array Slot), hOk D ac ad S (hAd ad S.length) s.heap f H locs → lv_has ls 4 [(0, .ref (ad 146)), (1, .int y1), (2, .int y2)] → fX8_isSo_56 q8 f y1 y2 s0 = some (rv, gv) → W p l e ({ frames := 4, cells := 0, slots := 0, locals := 87 } : Room) s m ([.ref (ad 146)] : List Value).toArray below meth c H locs 0 0 (MQ below (hQi D ac ad S rv gv) ([.ref (ad 146)] : List Value).toArray s 0 0 (hAd ad S.length)) (F0 m 56 ls [.int s0])) := by
    intro q8 hq8 f y1 y2 s0 H locs ls hw hl h
    unfold fX8_isSo_56 at h
    refine lv_istore_n (lv' := [(3, .int s0), (0, .ref (ad 146)), (1, .int y1), (2, .int y2)]) hx hb dX8_isSo_56 rfl hl (by decide) rfl (fun ls hl => ?_)
    refine lv_iload_n hx hb dX8_isSo_57 rfl (lv_at hl 2 rfl) ?_
    refine lv_if_eq (tgt := 88) hx hb dX8_isSo_58 (by decide) (fun hc1 => ?_) (fun hc1 => ?_)
    · have h := it hc1 h
      exact J88 q8 hq8 f y2 _ _ _ hw (lv_sub hl [1, 3] rfl) h
    · have h := ie hc1 h
      refine lv_iload_n hx hb dX8_isSo_61 rfl (lv_at hl 0 rfl) ?_
      refine lv_aload_n hx hb dX8_isSo_62 rfl (lv_at hl 1 rfl) ?_
      refine h_getR hx hb hts hnX8_isSo_X8 hown hK hw hS.1 rfl 11 (by decide) rfl hkX8_isSo_25 dX8_isSo_63 ?_
      refine lv_iconst (v := 4) hx hb dX8_isSo_66 (by decide) ?_
      refine lv_iload_n hx hb dX8_isSo_67 rfl (lv_at hl 3 rfl) ?_
      refine lv_imul hx hb dX8_isSo_68 ?_
      refine lv_iconst (v := 3) hx hb dX8_isSo_69 (by decide) ?_
      refine lv_iadd hx hb dX8_isSo_70 ?_
      obtain ⟨hi2, h⟩ := gd_s h
      refine h_iald hx hb hK hw hS.2.2.2.2.2.2.1 hi2 dX8_isSo_71 ?_
      refine lv_iconst (v := 1) hx hb dX8_isSo_72 (by decide) ?_
      refine lv_icmp_ne (tgt := 80) hx hb dX8_isSo_73 (by decide) (fun hc3 => ?_) (fun hc3 => ?_)
      · have h := ie hc3 h
        refine lv_iconst (v := 0) hx hb dX8_isSo_80 (by decide) ?_
        exact J81 q8 hq8 f y2 s0 0 _ _ _ hw (lv_sub hl [1, 3] rfl) h
      · have h := it hc3 h
        refine lv_iconst (v := 1) hx hb dX8_isSo_76 (by decide) ?_
        refine lv_goto (tgt := 81) hx hb dX8_isSo_77 (by decide) ?_
        exact J81 q8 hq8 f y2 s0 1 _ _ _ hw (lv_sub hl [1, 3] rfl) h
  have J8 : ∀ (n : Nat), (∀ (f : hF) (y1 : Int32) (y2 : Int32) (H : Heap) (locs : List Loc) (ls : Array Slot), hOk D ac ad S (hAd ad S.length) s.heap f H locs → lv_has ls 4 [(0, .ref (ad 146)), (1, .int y1), (2, .int y2)] → fX8_isSo_8 n f y1 y2 = some (rv, gv) → W p l e ({ frames := 4, cells := 0, slots := 0, locals := 87 } : Room) s m ([.ref (ad 146)] : List Value).toArray below meth c H locs 0 0 (MQ below (hQi D ac ad S rv gv) ([.ref (ad 146)] : List Value).toArray s 0 0 (hAd ad S.length)) (F0 m 8 ls [])) := by
    intro n
    induction n with
    | zero =>
      intro f y1 y2 H locs ls hw hl h
      rw [fX8_isSo_8] at h
      cases h
    | succ n ih =>
      intro f y1 y2 H locs ls hw hl h
      rw [fX8_isSo_8] at h
      refine lv_iload_n hx hb dX8_isSo_8 rfl (lv_at hl 2 rfl) ?_
      refine lv_aload_n hx hb dX8_isSo_9 rfl (lv_at hl 0 rfl) ?_
      refine h_getI hx hb hts hnX8_isSo_X8 hown hK hw hS.1 rfl 10 (by decide) rfl hkX8_isSo_143 dX8_isSo_10 ?_
      refine lv_icmp_ge (tgt := 96) hx hb dX8_isSo_13 (by decide) (fun hc1 => ?_) (fun hc1 => ?_)
      · have h := it hc1 h
        refine lv_iload_n hx hb dX8_isSo_96 rfl (lv_at hl 1 rfl) ?_
        obtain ⟨hr2, h⟩ := nr_s h
        exact h_retQ hx hb hr hlocks hw hr2 (so2 h) dX8_isSo_97
      · have h := ie hc1 h
        refine lv_aload_n hx hb dX8_isSo_16 rfl (lv_at hl 0 rfl) ?_
        refine lv_aload_n hx hb dX8_isSo_17 rfl (lv_at hl 0 rfl) ?_
        refine h_getR hx hb hts hnX8_isSo_X8 hown hK hw hS.1 rfl 11 (by decide) rfl hkX8_isSo_25 dX8_isSo_18 ?_
        refine lv_iconst (v := 4) hx hb dX8_isSo_21 (by decide) ?_
        refine lv_iload_n hx hb dX8_isSo_22 rfl (lv_at hl 2 rfl) ?_
        refine lv_imul hx hb dX8_isSo_23 ?_
        obtain ⟨hi3, h⟩ := gd_s h
        refine h_iald hx hb hK hw hS.2.2.2.2.2.2.1 hi3 dX8_isSo_24 ?_
        refine lv_aload_n hx hb dX8_isSo_25 rfl (lv_at hl 0 rfl) ?_
        refine h_getR hx hb hts hnX8_isSo_X8 hown hK hw hS.1 rfl 11 (by decide) rfl hkX8_isSo_25 dX8_isSo_26 ?_
        refine lv_iconst (v := 4) hx hb dX8_isSo_29 (by decide) ?_
        refine lv_iload_n hx hb dX8_isSo_30 rfl (lv_at hl 2 rfl) ?_
        refine lv_imul hx hb dX8_isSo_31 ?_
        refine lv_iconst (v := 2) hx hb dX8_isSo_32 (by decide) ?_
        refine lv_iadd hx hb dX8_isSo_33 ?_
        obtain ⟨hi4, h⟩ := gd_s h
        refine h_iald hx hb hK hw hS.2.2.2.2.2.2.1 hi4 dX8_isSo_34 ?_
        obtain ⟨r5, er5, h⟩ := b1_s h
        refine h_callR (va_runV (As := [.int (f 152 (4 * y2).toNatClampNeg), .int (f 152 ((4 * y2) + 2).toNatClampNeg)]) (rest := []) ⟨hx, hb, hml, hown, hts⟩ (mX8_mateBy l D ac ad S f (f 152 (4 * y2).toNatClampNeg) (f 152 ((4 * y2) + 2).toNatClampNeg) r5 hS er5) (cwV 2 hts gX8_isSo_X8_mateBy rfl rfl rfl (by decide +kernel) ⟨Nat.le_of_ble_eq_true rfl, Nat.le_of_ble_eq_true rfl⟩) (h_preV hK hw hS.1 rfl _) rfl rfl hl.1 rfl (lv_room (Nat.le_of_ble_eq_true rfl)) dX8_isSo_35 ⟨Nat.le_of_ble_eq_true rfl, Nat.le_of_ble_eq_true rfl⟩) ?_
        refine lv_aload_n hx hb dX8_isSo_38 rfl (lv_at hl 0 rfl) ?_
        refine h_getR hx hb hts hnX8_isSo_X8 hown hK hw hS.1 rfl 11 (by decide) rfl hkX8_isSo_25 dX8_isSo_39 ?_
        refine lv_iconst (v := 4) hx hb dX8_isSo_42 (by decide) ?_
        refine lv_iload_n hx hb dX8_isSo_43 rfl (lv_at hl 2 rfl) ?_
        refine lv_imul hx hb dX8_isSo_44 ?_
        refine lv_iconst (v := 1) hx hb dX8_isSo_45 (by decide) ?_
        refine lv_iadd hx hb dX8_isSo_46 ?_
        obtain ⟨hi6, h⟩ := gd_s h
        refine h_iald hx hb hK hw hS.2.2.2.2.2.2.1 hi6 dX8_isSo_47 ?_
        refine lv_icmp_ne (tgt := 55) hx hb dX8_isSo_48 (by decide) (fun hc7 => ?_) (fun hc7 => ?_)
        · have h := ie hc7 h
          refine lv_iconst (v := 0) hx hb dX8_isSo_55 (by decide) ?_
          exact J56 (fX8_isSo_8 n) ih f y1 y2 0 _ _ _ hw (lv_sub hl [0, 1, 2] rfl) h
        · have h := it hc7 h
          refine lv_iconst (v := 1) hx hb dX8_isSo_51 (by decide) ?_
          refine lv_goto (tgt := 56) hx hb dX8_isSo_52 (by decide) ?_
          exact J56 (fX8_isSo_8 n) ih f y1 y2 1 _ _ _ hw (lv_sub hl [0, 1, 2] rfl) h
  unfold fX8_isSo at h
  refine lv_aload_n hx hb dX8_isSo_0 rfl (lv_at hl 0 rfl) ?_
  obtain ⟨f1, ef1, h⟩ := b1_s h
  refine h_callV hw (va_runV (As := []) (rest := []) ⟨hx, hb, hml, hown, hts⟩ (mX8_findHolds l D ac ad S f f1 hS ef1) (cwV 0 hts gX8_isSo_X8_findHolds rfl rfl rfl (by decide +kernel) ⟨Nat.le_of_ble_eq_true rfl, Nat.le_of_ble_eq_true rfl⟩) (h_preV hK hw hS.1 rfl _) rfl rfl hl.1 rfl (lv_room (Nat.le_of_ble_eq_true rfl)) dX8_isSo_1 ⟨Nat.le_of_ble_eq_true rfl, Nat.le_of_ble_eq_true rfl⟩) (fun H locs hw => ?_)
  refine lv_iconst (v := 1) hx hb dX8_isSo_4 (by decide) ?_
  refine lv_istore_n (lv' := [(1, .int 1), (0, .ref (ad 146))]) hx hb dX8_isSo_5 rfl hl (by decide) rfl (fun ls hl => ?_)
  refine lv_iconst (v := 0) hx hb dX8_isSo_6 (by decide) ?_
  refine lv_istore_n (lv' := [(2, .int 0), (1, .int 1), (0, .ref (ad 146))]) hx hb dX8_isSo_7 rfl hl (by decide) rfl (fun ls hl => ?_)
  exact J8 _ f1 1 0 _ _ _ hw (lv_sub hl [2, 1, 0] rfl) h

theorem hnX8_trueBy_X8 : ∀ w ∈ wsX80, w ∈ wsX8_trueBy := by decide +kernel
theorem hkX8_trueBy_43 : Cond.fieldLink RX8 43 (TX8 22).1 (TX8 22).2.1 (TX8 22).2.2.1 ∈ wsX8_trueBy := by decide +kernel
set_option maxHeartbeats 8000000 in
set_option maxRecDepth 100000 in
theorem mX8_trueBy (l : Launch) (D : va_G) (ac : Nat → ClassId) (ad : Nat → Nat) (S : List hSh) (f : hF) (x1 : Int32) (rv : Int32) (gv : hF) (hS : isMo S) (h : fX8_trueBy f x1 = some (rv, gv)) : Met l yX8_trueBy wsX8_trueBy ({ frames := 5, cells := 0, slots := 0, locals := 110 }) (hPc D ac ad S f [.ref (ad 146), .int x1]) (hQi D ac ad S rv gv) 0 0 (hAd ad S.length) := by
  refine h_enter (C := RX8) (cc := cX8_trueBy) (maxL := 7) (ret := (some .int)) (lv := [(0, .ref (ad 146)), (1, .int x1)]) (by decide) rfl rfl (Nat.le_of_ble_eq_true rfl) rfl (fun p e s m below meth c ls hx hb hml hr hlocks hown hts hK hw hl => ?_)
  have J137 : ∀ (q36 : hF → Int32 → Int32 → Int32 → Option (Int32 × hF)) (hq36 : (∀ (f : hF) (y2 : Int32) (y3 : Int32) (y4 : Int32) (H : Heap) (locs : List Loc) (ls : Array Slot), hOk D ac ad S (hAd ad S.length) s.heap f H locs → lv_has ls 7 [(0, .ref (ad 146)), (1, .int x1), (2, .int y2), (3, .int y3), (4, .int y4)] → q36 f y2 y3 y4 = some (rv, gv) → W p l e ({ frames := 5, cells := 0, slots := 0, locals := 110 } : Room) s m ([.ref (ad 146), .int x1] : List Value).toArray below meth c H locs 0 0 (MQ below (hQi D ac ad S rv gv) ([.ref (ad 146), .int x1] : List Value).toArray s 0 0 (hAd ad S.length)) (F0 m 36 ls []))), (∀ (f : hF) (y2 : Int32) (y3 : Int32) (y4 : Int32) (H : Heap) (locs : List Loc) (ls : Array Slot), hOk D ac ad S (hAd ad S.length) s.heap f H locs → lv_has ls 7 [(0, .ref (ad 146)), (1, .int x1), (2, .int y2), (3, .int y3), (4, .int y4)] → fX8_trueBy_137 x1 q36 f y2 y3 y4 = some (rv, gv) → W p l e ({ frames := 5, cells := 0, slots := 0, locals := 110 } : Room) s m ([.ref (ad 146), .int x1] : List Value).toArray below meth c H locs 0 0 (MQ below (hQi D ac ad S rv gv) ([.ref (ad 146), .int x1] : List Value).toArray s 0 0 (hAd ad S.length)) (F0 m 137 ls [])) := by
    intro q36 hq36 f y2 y3 y4 H locs ls hw hl h
    unfold fX8_trueBy_137 at h
    refine lv_iload_n hx hb dX8_trueBy_137 rfl (lv_at hl 3 rfl) ?_
    refine lv_istore_n (lv' := [(3, .int y3), (0, .ref (ad 146)), (1, .int x1), (2, .int y2), (4, .int y4)]) hx hb dX8_trueBy_138 rfl hl (by decide) rfl (fun ls hl => ?_)
    refine lv_iinc (v := (y4 + 1)) (lv' := [(4, .int (y4 + 1)), (3, .int y3), (0, .ref (ad 146)), (1, .int x1), (2, .int y2)]) hx hb dX8_trueBy_139 hl (k := 4) rfl rfl (by decide) rfl (fun ls hl => ?_)
    refine lv_goto (tgt := 36) hx hb dX8_trueBy_142 (by decide) ?_
    exact hq36 f y2 y3 (y4 + 1) _ _ _ hw (lv_sub hl [2, 3, 4, 1, 0] rfl) h
  have J109 : ∀ (q36 : hF → Int32 → Int32 → Int32 → Option (Int32 × hF)) (hq36 : (∀ (f : hF) (y2 : Int32) (y3 : Int32) (y4 : Int32) (H : Heap) (locs : List Loc) (ls : Array Slot), hOk D ac ad S (hAd ad S.length) s.heap f H locs → lv_has ls 7 [(0, .ref (ad 146)), (1, .int x1), (2, .int y2), (3, .int y3), (4, .int y4)] → q36 f y2 y3 y4 = some (rv, gv) → W p l e ({ frames := 5, cells := 0, slots := 0, locals := 110 } : Room) s m ([.ref (ad 146), .int x1] : List Value).toArray below meth c H locs 0 0 (MQ below (hQi D ac ad S rv gv) ([.ref (ad 146), .int x1] : List Value).toArray s 0 0 (hAd ad S.length)) (F0 m 36 ls []))), (∀ (f : hF) (y3 : Int32) (y4 : Int32) (y6 : Int32) (s0 : Int32) (s1 : Int32) (H : Heap) (locs : List Loc) (ls : Array Slot), hOk D ac ad S (hAd ad S.length) s.heap f H locs → lv_has ls 7 [(0, .ref (ad 146)), (1, .int x1), (3, .int y3), (4, .int y4), (6, .int y6)] → fX8_trueBy_109 x1 q36 f y3 y4 y6 s0 s1 = some (rv, gv) → W p l e ({ frames := 5, cells := 0, slots := 0, locals := 110 } : Room) s m ([.ref (ad 146), .int x1] : List Value).toArray below meth c H locs 0 0 (MQ below (hQi D ac ad S rv gv) ([.ref (ad 146), .int x1] : List Value).toArray s 0 0 (hAd ad S.length)) (F0 m 109 ls [.int s1, .int s0])) := by
    intro q36 hq36 f y3 y4 y6 s0 s1 H locs ls hw hl h
    unfold fX8_trueBy_109 at h
    refine lv_iadd hx hb dX8_trueBy_109 ?_
    refine lv_istore_n (lv' := [(2, .int (s0 + s1)), (0, .ref (ad 146)), (1, .int x1), (3, .int y3), (4, .int y4), (6, .int y6)]) hx hb dX8_trueBy_110 rfl hl (by decide) rfl (fun ls hl => ?_)
    refine lv_iload hx hb dX8_trueBy_111 (lv_at hl 5 rfl) ?_
    refine lv_if_eq (tgt := 137) hx hb dX8_trueBy_113 (by decide) (fun hc1 => ?_) (fun hc1 => ?_)
    · have h := it hc1 h
      exact J137 q36 hq36 f (s0 + s1) y3 y4 _ _ _ hw (lv_sub hl [1, 2, 0, 3, 4] rfl) h
    · have h := ie hc1 h
      refine lv_iload_n hx hb dX8_trueBy_116 rfl (lv_at hl 3 rfl) ?_
      refine lv_if_ge (tgt := 137) hx hb dX8_trueBy_117 (by decide) (fun hc2 => ?_) (fun hc2 => ?_)
      · have h := it hc2 h
        exact J137 q36 hq36 f (s0 + s1) y3 y4 _ _ _ hw (lv_sub hl [1, 2, 0, 3, 4] rfl) h
      · have h := ie hc2 h
        refine lv_bipush (v := 10) hx hb dX8_trueBy_120 (by decide) ?_
        refine lv_iload hx hb dX8_trueBy_122 (lv_at hl 4 rfl) ?_
        refine lv_bipush (v := 8) hx hb dX8_trueBy_124 (by decide) ?_
        refine lv_idiv hx hb dX8_trueBy_126 (by decide) ?_
        refine lv_imul hx hb dX8_trueBy_127 ?_
        refine lv_iload hx hb dX8_trueBy_128 (lv_at hl 4 rfl) ?_
        refine lv_bipush (v := 8) hx hb dX8_trueBy_130 (by decide) ?_
        refine lv_irem hx hb dX8_trueBy_132 (by decide) ?_
        refine lv_iadd hx hb dX8_trueBy_133 ?_
        refine lv_goto (tgt := 138) hx hb dX8_trueBy_134 (by decide) ?_
        refine lv_istore_n (lv' := [(3, .int ((10 * (y4 / 8)) + (y4 - y4 / 8 * 8))), (2, .int (s0 + s1)), (0, .ref (ad 146)), (1, .int x1), (4, .int y4), (6, .int y6)]) hx hb dX8_trueBy_138 rfl hl (by decide) rfl (fun ls hl => ?_)
        refine lv_iinc (v := (y4 + 1)) (lv' := [(4, .int (y4 + 1)), (3, .int ((10 * (y4 / 8)) + (y4 - y4 / 8 * 8))), (2, .int (s0 + s1)), (0, .ref (ad 146)), (1, .int x1), (6, .int y6)]) hx hb dX8_trueBy_139 hl (k := 4) rfl rfl (by decide) rfl (fun ls hl => ?_)
        refine lv_goto (tgt := 36) hx hb dX8_trueBy_142 (by decide) ?_
        exact hq36 f (s0 + s1) ((10 * (y4 / 8)) + (y4 - y4 / 8 * 8)) (y4 + 1) _ _ _ hw (lv_sub hl [3, 4, 2, 1, 0] rfl) h
  have J36 : ∀ (n : Nat), (∀ (f : hF) (y2 : Int32) (y3 : Int32) (y4 : Int32) (H : Heap) (locs : List Loc) (ls : Array Slot), hOk D ac ad S (hAd ad S.length) s.heap f H locs → lv_has ls 7 [(0, .ref (ad 146)), (1, .int x1), (2, .int y2), (3, .int y3), (4, .int y4)] → fX8_trueBy_36 x1 n f y2 y3 y4 = some (rv, gv) → W p l e ({ frames := 5, cells := 0, slots := 0, locals := 110 } : Room) s m ([.ref (ad 146), .int x1] : List Value).toArray below meth c H locs 0 0 (MQ below (hQi D ac ad S rv gv) ([.ref (ad 146), .int x1] : List Value).toArray s 0 0 (hAd ad S.length)) (F0 m 36 ls [])) := by
    intro n
    induction n with
    | zero =>
      intro f y2 y3 y4 H locs ls hw hl h
      rw [fX8_trueBy_36] at h
      cases h
    | succ n ih =>
      intro f y2 y3 y4 H locs ls hw hl h
      rw [fX8_trueBy_36] at h
      refine lv_iload hx hb dX8_trueBy_36 (lv_at hl 4 rfl) ?_
      refine lv_bipush (v := 24) hx hb dX8_trueBy_38 (by decide) ?_
      refine lv_icmp_ge (tgt := 145) hx hb dX8_trueBy_40 (by decide) (fun hc1 => ?_) (fun hc1 => ?_)
      · have h := it hc1 h
        refine lv_iload_n hx hb dX8_trueBy_145 rfl (lv_at hl 1 rfl) ?_
        refine lv_if_ne (tgt := 153) hx hb dX8_trueBy_146 (by decide) (fun hc2 => ?_) (fun hc2 => ?_)
        · have h := ie hc2 h
          refine lv_iload_n hx hb dX8_trueBy_153 rfl (lv_at hl 3 rfl) ?_
          exact h_retQ hx hb hr hlocks hw rfl (so2 h) dX8_trueBy_154
        · have h := it hc2 h
          refine lv_iload_n hx hb dX8_trueBy_149 rfl (lv_at hl 2 rfl) ?_
          refine lv_goto (tgt := 154) hx hb dX8_trueBy_150 (by decide) ?_
          exact h_retQ hx hb hr hlocks hw rfl (so2 h) dX8_trueBy_154
      · have h := ie hc1 h
        refine lv_aload_n hx hb dX8_trueBy_43 rfl (lv_at hl 0 rfl) ?_
        refine lv_iload hx hb dX8_trueBy_44 (lv_at hl 4 rfl) ?_
        obtain ⟨r3, er3, h⟩ := b1_s h
        refine h_callR (va_runV (As := [.int y4]) (rest := []) ⟨hx, hb, hml, hown, hts⟩ (mX8_isOfTwo l D ac ad S f y4 r3 hS er3) (cwV 1 hts gX8_trueBy_X8_isOfTwo rfl rfl rfl (by decide +kernel) ⟨Nat.le_of_ble_eq_true rfl, Nat.le_of_ble_eq_true rfl⟩) (h_preV hK hw hS.1 rfl _) rfl rfl hl.1 rfl (lv_room (Nat.le_of_ble_eq_true rfl)) dX8_trueBy_46 ⟨Nat.le_of_ble_eq_true rfl, Nat.le_of_ble_eq_true rfl⟩) ?_
        refine lv_if_eq (tgt := 139) hx hb dX8_trueBy_49 (by decide) (fun hc4 => ?_) (fun hc4 => ?_)
        · have h := it hc4 h
          refine lv_iinc (v := (y4 + 1)) (lv' := [(4, .int (y4 + 1)), (0, .ref (ad 146)), (1, .int x1), (2, .int y2), (3, .int y3)]) hx hb dX8_trueBy_139 hl (k := 4) rfl rfl (by decide) rfl (fun ls hl => ?_)
          refine lv_goto (tgt := 36) hx hb dX8_trueBy_142 (by decide) ?_
          exact ih f y2 y3 (y4 + 1) _ _ _ hw (lv_sub hl [1, 2, 3, 4, 0] rfl) h
        · have h := ie hc4 h
          refine lv_aload_n hx hb dX8_trueBy_52 rfl (lv_at hl 0 rfl) ?_
          refine lv_iload hx hb dX8_trueBy_53 (lv_at hl 4 rfl) ?_
          obtain ⟨r5, er5, h⟩ := b1_s h
          refine h_callR (va_runV (As := [.int y4]) (rest := []) ⟨hx, hb, hml, hown, hts⟩ (mX8_manOf l D ac ad S f y4 r5 hS er5) (cwV 1 hts gX8_trueBy_X8_manOf rfl rfl rfl (by decide +kernel) ⟨Nat.le_of_ble_eq_true rfl, Nat.le_of_ble_eq_true rfl⟩) (h_preV hK hw hS.1 rfl _) rfl rfl hl.1 rfl (lv_room (Nat.le_of_ble_eq_true rfl)) dX8_trueBy_55 ⟨Nat.le_of_ble_eq_true rfl, Nat.le_of_ble_eq_true rfl⟩) ?_
          refine lv_istore (lv' := [(5, .int r5), (0, .ref (ad 146)), (1, .int x1), (2, .int y2), (3, .int y3), (4, .int y4)]) hx hb dX8_trueBy_58 hl (by decide) rfl (fun ls hl => ?_)
          refine lv_aload_n hx hb dX8_trueBy_60 rfl (lv_at hl 1 rfl) ?_
          refine h_getR hx hb hts hnX8_trueBy_X8 hown hK hw hS.1 rfl 22 (by decide) rfl hkX8_trueBy_43 dX8_trueBy_61 ?_
          refine lv_bipush (v := 15) hx hb dX8_trueBy_64 (by decide) ?_
          refine lv_iconst (v := 4) hx hb dX8_trueBy_66 (by decide) ?_
          refine lv_iload hx hb dX8_trueBy_67 (lv_at hl 5 rfl) ?_
          refine lv_imul hx hb dX8_trueBy_69 ?_
          refine lv_iadd hx hb dX8_trueBy_70 ?_
          refine lv_iconst (v := 1) hx hb dX8_trueBy_71 (by decide) ?_
          refine lv_iadd hx hb dX8_trueBy_72 ?_
          refine lv_bipush (v := (-2)) hx hb dX8_trueBy_73 (by decide) ?_
          obtain ⟨hi6, h⟩ := gd_s h
          obtain ⟨f7, ef7, h⟩ := lt_s2 h
          refine h_iast (g := f7) ef7 hx hb hK hw hS.2.2.2.2.2.2.2.2.2.2.2.2.1 hi6 dX8_trueBy_75 (fun H locs hw => ?_)
          refine lv_aload_n hx hb dX8_trueBy_76 rfl (lv_at hl 1 rfl) ?_
          obtain ⟨r8, f9, ef9, h⟩ := b2_s h
          refine h_callQ hw (va_runV (As := []) (rest := []) ⟨hx, hb, hml, hown, hts⟩ (mX8_isSo l D ac ad S f7 r8 f9 hS ef9) (cwV 0 hts gX8_trueBy_X8_isSo rfl rfl rfl (by decide +kernel) ⟨Nat.le_of_ble_eq_true rfl, Nat.le_of_ble_eq_true rfl⟩) (h_preV hK hw hS.1 rfl _) rfl rfl hl.1 rfl (lv_room (Nat.le_of_ble_eq_true rfl)) dX8_trueBy_77 ⟨Nat.le_of_ble_eq_true rfl, Nat.le_of_ble_eq_true rfl⟩) (fun H locs hw => ?_)
          refine lv_istore (lv' := [(6, .int r8), (5, .int r5), (0, .ref (ad 146)), (1, .int x1), (2, .int y2), (3, .int y3), (4, .int y4)]) hx hb dX8_trueBy_80 hl (by decide) rfl (fun ls hl => ?_)
          refine lv_aload_n hx hb dX8_trueBy_82 rfl (lv_at hl 2 rfl) ?_
          refine h_getR hx hb hts hnX8_trueBy_X8 hown hK hw hS.1 rfl 22 (by decide) rfl hkX8_trueBy_43 dX8_trueBy_83 ?_
          refine lv_bipush (v := 15) hx hb dX8_trueBy_86 (by decide) ?_
          refine lv_iconst (v := 4) hx hb dX8_trueBy_88 (by decide) ?_
          refine lv_iload hx hb dX8_trueBy_89 (lv_at hl 6 rfl) ?_
          refine lv_imul hx hb dX8_trueBy_91 ?_
          refine lv_iadd hx hb dX8_trueBy_92 ?_
          refine lv_iconst (v := 1) hx hb dX8_trueBy_93 (by decide) ?_
          refine lv_iadd hx hb dX8_trueBy_94 ?_
          refine lv_iload hx hb dX8_trueBy_95 (lv_at hl 1 rfl) ?_
          obtain ⟨hi10, h⟩ := gd_s h
          obtain ⟨f11, ef11, h⟩ := lt_s2 h
          refine h_iast (g := f11) ef11 hx hb hK hw hS.2.2.2.2.2.2.2.2.2.2.2.2.1 hi10 dX8_trueBy_97 (fun H locs hw => ?_)
          refine lv_iload_n hx hb dX8_trueBy_98 rfl (lv_at hl 4 rfl) ?_
          refine lv_iload hx hb dX8_trueBy_99 (lv_at hl 0 rfl) ?_
          refine lv_if_eq (tgt := 108) hx hb dX8_trueBy_101 (by decide) (fun hc12 => ?_) (fun hc12 => ?_)
          · have h := it hc12 h
            refine lv_iconst (v := 0) hx hb dX8_trueBy_108 (by decide) ?_
            exact J109 (fX8_trueBy_36 x1 n) ih f11 y3 y4 r8 y2 0 _ _ _ hw (lv_sub hl [2, 3, 5, 6, 0] rfl) h
          · have h := ie hc12 h
            refine lv_iconst (v := 1) hx hb dX8_trueBy_104 (by decide) ?_
            refine lv_goto (tgt := 109) hx hb dX8_trueBy_105 (by decide) ?_
            exact J109 (fX8_trueBy_36 x1 n) ih f11 y3 y4 r8 y2 1 _ _ _ hw (lv_sub hl [2, 3, 5, 6, 0] rfl) h
  have J29 : ∀ (_ : Unit), (∀ (f : hF) (s0 : Int32) (H : Heap) (locs : List Loc) (ls : Array Slot), hOk D ac ad S (hAd ad S.length) s.heap f H locs → lv_has ls 7 [(0, .ref (ad 146)), (1, .int x1)] → fX8_trueBy_29 x1 f s0 = some (rv, gv) → W p l e ({ frames := 5, cells := 0, slots := 0, locals := 110 } : Room) s m ([.ref (ad 146), .int x1] : List Value).toArray below meth c H locs 0 0 (MQ below (hQi D ac ad S rv gv) ([.ref (ad 146), .int x1] : List Value).toArray s 0 0 (hAd ad S.length)) (F0 m 29 ls [.int s0])) := by
    intro _ f s0 H locs ls hw hl h
    unfold fX8_trueBy_29 at h
    refine lv_istore_n (lv' := [(2, .int s0), (0, .ref (ad 146)), (1, .int x1)]) hx hb dX8_trueBy_29 rfl hl (by decide) rfl (fun ls hl => ?_)
    refine lv_bipush (v := (-4)) hx hb dX8_trueBy_30 (by decide) ?_
    refine lv_istore_n (lv' := [(3, .int (-4)), (2, .int s0), (0, .ref (ad 146)), (1, .int x1)]) hx hb dX8_trueBy_32 rfl hl (by decide) rfl (fun ls hl => ?_)
    refine lv_iconst (v := 0) hx hb dX8_trueBy_33 (by decide) ?_
    refine lv_istore (lv' := [(4, .int 0), (3, .int (-4)), (2, .int s0), (0, .ref (ad 146)), (1, .int x1)]) hx hb dX8_trueBy_34 hl (by decide) rfl (fun ls hl => ?_)
    exact J36 _ f s0 (-4) 0 _ _ _ hw (lv_sub hl [3, 4, 2, 1, 0] rfl) h
  unfold fX8_trueBy at h
  refine lv_iload_n hx hb dX8_trueBy_0 rfl (lv_at hl 1 rfl) ?_
  refine lv_iconst (v := 0) hx hb dX8_trueBy_1 (by decide) ?_
  refine lv_iconst (v := 1) hx hb dX8_trueBy_2 (by decide) ?_
  obtain ⟨r1, er1, h⟩ := b1_s h
  refine h_callR (va_runS (As := [.int x1, .int 0, .int 1]) (rest := []) ⟨hx, hb, hml, hown, hts⟩ (mX8_in l D ac ad S f x1 (0 : Int32) (1 : Int32) r1  er1) (va_cwS 3 hts gX8_trueBy_X8_in rfl rfl rfl (by decide +kernel) ⟨Nat.le_of_ble_eq_true rfl, Nat.le_of_ble_eq_true rfl⟩) (h_preS hK hw _) rfl rfl hl.1 rfl (lv_room (Nat.le_of_ble_eq_true rfl)) dX8_trueBy_3 ⟨Nat.le_of_ble_eq_true rfl, Nat.le_of_ble_eq_true rfl⟩) ?_
  refine lv_if_ne (tgt := 11) hx hb dX8_trueBy_6 (by decide) (fun hc2 => ?_) (fun hc2 => ?_)
  · have h := ie hc2 h
    refine lv_aload_n hx hb dX8_trueBy_11 rfl (lv_at hl 0 rfl) ?_
    obtain ⟨f3, ef3, h⟩ := b1_s h
    refine h_callV hw (va_runV (As := []) (rest := []) ⟨hx, hb, hml, hown, hts⟩ (mX8_asItIs l D ac ad S f f3 hS ef3) (cwV 0 hts gX8_trueBy_X8_asItIs rfl rfl rfl (by decide +kernel) ⟨Nat.le_of_ble_eq_true rfl, Nat.le_of_ble_eq_true rfl⟩) (h_preV hK hw hS.1 rfl _) rfl rfl hl.1 rfl (lv_room (Nat.le_of_ble_eq_true rfl)) dX8_trueBy_12 ⟨Nat.le_of_ble_eq_true rfl, Nat.le_of_ble_eq_true rfl⟩) (fun H locs hw => ?_)
    refine lv_aload_n hx hb dX8_trueBy_15 rfl (lv_at hl 0 rfl) ?_
    obtain ⟨r4, f5, ef5, h⟩ := b2_s h
    refine h_callQ hw (va_runV (As := []) (rest := []) ⟨hx, hb, hml, hown, hts⟩ (mX8_isSo l D ac ad S f3 r4 f5 hS ef5) (cwV 0 hts gX8_trueBy_X8_isSo rfl rfl rfl (by decide +kernel) ⟨Nat.le_of_ble_eq_true rfl, Nat.le_of_ble_eq_true rfl⟩) (h_preV hK hw hS.1 rfl _) rfl rfl hl.1 rfl (lv_room (Nat.le_of_ble_eq_true rfl)) dX8_trueBy_16 ⟨Nat.le_of_ble_eq_true rfl, Nat.le_of_ble_eq_true rfl⟩) (fun H locs hw => ?_)
    refine lv_if_eq (tgt := 28) hx hb dX8_trueBy_19 (by decide) (fun hc6 => ?_) (fun hc6 => ?_)
    · have h := it hc6 h
      refine lv_iconst (v := 0) hx hb dX8_trueBy_28 (by decide) ?_
      exact J29 () f5 0 _ _ _ hw (lv_sub hl [0, 1] rfl) h
    · have h := ie hc6 h
      refine lv_sipush (v := 256) hx hb dX8_trueBy_22 (by decide) ?_
      refine lv_goto (tgt := 29) hx hb dX8_trueBy_25 (by decide) ?_
      exact J29 () f5 256 _ _ _ hw (lv_sub hl [0, 1] rfl) h
  · have h := it hc2 h
    refine lv_iconst (v := (-1)) hx hb dX8_trueBy_9 (by decide) ?_
    exact h_retQ hx hb hr hlocks hw rfl (so2 h) dX8_trueBy_10

theorem hnX8_hand_X8 : ∀ w ∈ wsX80, w ∈ wsX8_hand := by decide +kernel
theorem hkX8_hand_43 : Cond.fieldLink RX8 43 (TX8 22).1 (TX8 22).2.1 (TX8 22).2.2.1 ∈ wsX8_hand := by decide +kernel
set_option maxHeartbeats 8000000 in
set_option maxRecDepth 100000 in
theorem mX8_hand (l : Launch) (D : va_G) (ac : Nat → ClassId) (ad : Nat → Nat) (S : List hSh) (f : hF) (x1 : Int32) (x2 : Int32) (rv : Int32) (gv : hF) (hS : isMo S) (h : fX8_hand f x1 x2 = some (rv, gv)) : Met l yX8_hand wsX8_hand ({ frames := 3, cells := 0, slots := 0, locals := 65 }) (hPc D ac ad S f [.ref (ad 146), .int x1, .int x2]) (hQi D ac ad S rv gv) 0 0 (hAd ad S.length) := by
  refine h_enter (C := RX8) (cc := cX8_hand) (maxL := 4) (ret := (some .int)) (lv := [(0, .ref (ad 146)), (1, .int x1), (2, .int x2)]) (by decide) rfl rfl (Nat.le_of_ble_eq_true rfl) rfl (fun p e s m below meth c ls hx hb hml hr hlocks hown hts hK hw hl => ?_)
  unfold fX8_hand at h
  refine lv_aload_n hx hb dX8_hand_0 rfl (lv_at hl 0 rfl) ?_
  refine lv_iload_n hx hb dX8_hand_1 rfl (lv_at hl 1 rfl) ?_
  refine lv_iload_n hx hb dX8_hand_2 rfl (lv_at hl 2 rfl) ?_
  obtain ⟨r1, er1, h⟩ := b1_s h
  refine h_callR (va_runV (As := [.int x1, .int x2]) (rest := []) ⟨hx, hb, hml, hown, hts⟩ (mX8_isLine l D ac ad S f x1 x2 r1 hS er1) (cwV 2 hts gX8_hand_X8_isLine rfl rfl rfl (by decide +kernel) ⟨Nat.le_of_ble_eq_true rfl, Nat.le_of_ble_eq_true rfl⟩) (h_preV hK hw hS.1 rfl _) rfl rfl hl.1 rfl (lv_room (Nat.le_of_ble_eq_true rfl)) dX8_hand_3 ⟨Nat.le_of_ble_eq_true rfl, Nat.le_of_ble_eq_true rfl⟩) ?_
  refine lv_if_ne (tgt := 11) hx hb dX8_hand_6 (by decide) (fun hc2 => ?_) (fun hc2 => ?_)
  · have h := ie hc2 h
    refine lv_aload_n hx hb dX8_hand_11 rfl (lv_at hl 0 rfl) ?_
    obtain ⟨f3, ef3, h⟩ := b1_s h
    refine h_callV hw (va_runV (As := []) (rest := []) ⟨hx, hb, hml, hown, hts⟩ (mX8_asItIs l D ac ad S f f3 hS ef3) (cwV 0 hts gX8_hand_X8_asItIs rfl rfl rfl (by decide +kernel) ⟨Nat.le_of_ble_eq_true rfl, Nat.le_of_ble_eq_true rfl⟩) (h_preV hK hw hS.1 rfl _) rfl rfl hl.1 rfl (lv_room (Nat.le_of_ble_eq_true rfl)) dX8_hand_12 ⟨Nat.le_of_ble_eq_true rfl, Nat.le_of_ble_eq_true rfl⟩) (fun H locs hw => ?_)
    refine lv_bipush (v := 8) hx hb dX8_hand_15 (by decide) ?_
    refine lv_iload_n hx hb dX8_hand_17 rfl (lv_at hl 1 rfl) ?_
    refine lv_imul hx hb dX8_hand_18 ?_
    refine lv_iload_n hx hb dX8_hand_19 rfl (lv_at hl 2 rfl) ?_
    refine lv_iadd hx hb dX8_hand_20 ?_
    refine lv_istore_n (lv' := [(3, .int ((8 * x1) + x2)), (0, .ref (ad 146)), (1, .int x1), (2, .int x2)]) hx hb dX8_hand_21 rfl hl (by decide) rfl (fun ls hl => ?_)
    refine lv_aload_n hx hb dX8_hand_22 rfl (lv_at hl 1 rfl) ?_
    refine lv_iload_n hx hb dX8_hand_23 rfl (lv_at hl 0 rfl) ?_
    obtain ⟨r4, er4, h⟩ := b1_s h
    refine h_callR (va_runV (As := [.int ((8 * x1) + x2)]) (rest := []) ⟨hx, hb, hml, hown, hts⟩ (mX8_isOfTwo l D ac ad S f3 ((8 * x1) + x2) r4 hS er4) (cwV 1 hts gX8_hand_X8_isOfTwo rfl rfl rfl (by decide +kernel) ⟨Nat.le_of_ble_eq_true rfl, Nat.le_of_ble_eq_true rfl⟩) (h_preV hK hw hS.1 rfl _) rfl rfl hl.1 rfl (lv_room (Nat.le_of_ble_eq_true rfl)) dX8_hand_24 ⟨Nat.le_of_ble_eq_true rfl, Nat.le_of_ble_eq_true rfl⟩) ?_
    refine lv_if_ne (tgt := 33) hx hb dX8_hand_27 (by decide) (fun hc5 => ?_) (fun hc5 => ?_)
    · have h := ie hc5 h
      refine lv_aload_n hx hb dX8_hand_33 rfl (lv_at hl 1 rfl) ?_
      refine h_getR hx hb hts hnX8_hand_X8 hown hK hw hS.1 rfl 22 (by decide) rfl hkX8_hand_43 dX8_hand_34 ?_
      refine lv_bipush (v := 15) hx hb dX8_hand_37 (by decide) ?_
      refine lv_iconst (v := 4) hx hb dX8_hand_39 (by decide) ?_
      refine lv_iload_n hx hb dX8_hand_40 rfl (lv_at hl 0 rfl) ?_
      refine lv_imul hx hb dX8_hand_41 ?_
      refine lv_iadd hx hb dX8_hand_42 ?_
      refine lv_iconst (v := 3) hx hb dX8_hand_43 (by decide) ?_
      refine lv_iadd hx hb dX8_hand_44 ?_
      obtain ⟨hi6, h⟩ := gd_s h
      refine h_iald hx hb hK hw hS.2.2.2.2.2.2.2.2.2.2.2.2.1 hi6 dX8_hand_45 ?_
      refine lv_aload_n hx hb dX8_hand_46 rfl (lv_at hl 1 rfl) ?_
      refine lv_iload_n hx hb dX8_hand_47 rfl (lv_at hl 0 rfl) ?_
      obtain ⟨r7, er7, h⟩ := b1_s h
      refine h_callR (va_runV (As := [.int ((8 * x1) + x2)]) (rest := [.int (f3 158 ((15 + (4 * ((8 * x1) + x2))) + 3).toNatClampNeg)]) ⟨hx, hb, hml, hown, hts⟩ (mX8_begun l D ac ad S f3 ((8 * x1) + x2) r7 hS er7) (cwV 1 hts gX8_hand_X8_begun rfl rfl rfl (by decide +kernel) ⟨Nat.le_of_ble_eq_true rfl, Nat.le_of_ble_eq_true rfl⟩) (h_preV hK hw hS.1 rfl _) rfl rfl hl.1 rfl (lv_room (Nat.le_of_ble_eq_true rfl)) dX8_hand_48 ⟨Nat.le_of_ble_eq_true rfl, Nat.le_of_ble_eq_true rfl⟩) ?_
      refine lv_icmp_ne (tgt := 59) hx hb dX8_hand_51 (by decide) (fun hc8 => ?_) (fun hc8 => ?_)
      · have h := ie hc8 h
        refine lv_bipush (v := 6) hx hb dX8_hand_59 (by decide) ?_
        exact h_retQ hx hb hr hlocks hw rfl (so2 h) dX8_hand_61
      · have h := it hc8 h
        refine lv_bipush (v := 7) hx hb dX8_hand_54 (by decide) ?_
        refine lv_goto (tgt := 61) hx hb dX8_hand_56 (by decide) ?_
        exact h_retQ hx hb hr hlocks hw rfl (so2 h) dX8_hand_61
    · have h := it hc5 h
      refine lv_bipush (v := (-2)) hx hb dX8_hand_30 (by decide) ?_
      exact h_retQ hx hb hr hlocks hw rfl (so2 h) dX8_hand_32
  · have h := it hc2 h
    refine lv_iconst (v := (-1)) hx hb dX8_hand_9 (by decide) ?_
    exact h_retQ hx hb hr hlocks hw rfl (so2 h) dX8_hand_10

set_option maxHeartbeats 8000000 in
set_option maxRecDepth 100000 in
theorem mX8_child (l : Launch) (D : va_G) (ac : Nat → ClassId) (ad : Nat → Nat) (S : List hSh) (f : hF) (x1 : Int32) (x2 : Int32) (rv : Int32) (gv : hF) (hS : isMo S) (h : fX8_child f x1 x2 = some (rv, gv)) : Met l yX8_child wsX8_child ({ frames := 4, cells := 0, slots := 0, locals := 87 }) (hPc D ac ad S f [.ref (ad 146), .int x1, .int x2]) (hQi D ac ad S rv gv) 0 0 (hAd ad S.length) := by
  refine h_enter (C := RX8) (cc := cX8_child) (maxL := 3) (ret := (some .int)) (lv := [(0, .ref (ad 146)), (1, .int x1), (2, .int x2)]) (by decide) rfl rfl (Nat.le_of_ble_eq_true rfl) rfl (fun p e s m below meth c ls hx hb hml hr hlocks hown hts hK hw hl => ?_)
  unfold fX8_child at h
  refine lv_aload_n hx hb dX8_child_0 rfl (lv_at hl 0 rfl) ?_
  refine lv_iload_n hx hb dX8_child_1 rfl (lv_at hl 1 rfl) ?_
  obtain ⟨r1, er1, h⟩ := b1_s h
  refine h_callR (va_runV (As := [.int x1]) (rest := []) ⟨hx, hb, hml, hown, hts⟩ (mX8_isPerson l D ac ad S f x1 r1 hS er1) (cwV 1 hts gX8_child_X8_isPerson rfl rfl rfl (by decide +kernel) ⟨Nat.le_of_ble_eq_true rfl, Nat.le_of_ble_eq_true rfl⟩) (h_preV hK hw hS.1 rfl _) rfl rfl hl.1 rfl (lv_room (Nat.le_of_ble_eq_true rfl)) dX8_child_2 ⟨Nat.le_of_ble_eq_true rfl, Nat.le_of_ble_eq_true rfl⟩) ?_
  refine lv_if_eq (tgt := 27) hx hb dX8_child_5 (by decide) (fun hc2 => ?_) (fun hc2 => ?_)
  · have h := it hc2 h
    refine lv_iconst (v := (-1)) hx hb dX8_child_27 (by decide) ?_
    exact h_retQ hx hb hr hlocks hw rfl (so2 h) dX8_child_28
  · have h := ie hc2 h
    refine lv_aload_n hx hb dX8_child_8 rfl (lv_at hl 0 rfl) ?_
    refine lv_iload_n hx hb dX8_child_9 rfl (lv_at hl 1 rfl) ?_
    obtain ⟨r3, er3, h⟩ := b1_s h
    refine h_callR (va_runV (As := [.int x1]) (rest := []) ⟨hx, hb, hml, hown, hts⟩ (mX8_isWoman l D ac ad S f x1 r3 hS er3) (cwV 1 hts gX8_child_X8_isWoman rfl rfl rfl (by decide +kernel) ⟨Nat.le_of_ble_eq_true rfl, Nat.le_of_ble_eq_true rfl⟩) (h_preV hK hw hS.1 rfl _) rfl rfl hl.1 rfl (lv_room (Nat.le_of_ble_eq_true rfl)) dX8_child_10 ⟨Nat.le_of_ble_eq_true rfl, Nat.le_of_ble_eq_true rfl⟩) ?_
    refine lv_if_eq (tgt := 27) hx hb dX8_child_13 (by decide) (fun hc4 => ?_) (fun hc4 => ?_)
    · have h := it hc4 h
      refine lv_iconst (v := (-1)) hx hb dX8_child_27 (by decide) ?_
      exact h_retQ hx hb hr hlocks hw rfl (so2 h) dX8_child_28
    · have h := ie hc4 h
      refine lv_iload_n hx hb dX8_child_16 rfl (lv_at hl 2 rfl) ?_
      refine lv_iconst (v := 0) hx hb dX8_child_17 (by decide) ?_
      refine lv_sipush (v := 999) hx hb dX8_child_18 (by decide) ?_
      obtain ⟨r5, er5, h⟩ := b1_s h
      refine h_callR (va_runS (As := [.int x2, .int 0, .int 999]) (rest := []) ⟨hx, hb, hml, hown, hts⟩ (mX8_in l D ac ad S f x2 (0 : Int32) (999 : Int32) r5  er5) (va_cwS 3 hts gX8_child_X8_in rfl rfl rfl (by decide +kernel) ⟨Nat.le_of_ble_eq_true rfl, Nat.le_of_ble_eq_true rfl⟩) (h_preS hK hw _) rfl rfl hl.1 rfl (lv_room (Nat.le_of_ble_eq_true rfl)) dX8_child_21 ⟨Nat.le_of_ble_eq_true rfl, Nat.le_of_ble_eq_true rfl⟩) ?_
      refine lv_if_ne (tgt := 29) hx hb dX8_child_24 (by decide) (fun hc6 => ?_) (fun hc6 => ?_)
      · have h := ie hc6 h
        refine lv_aload_n hx hb dX8_child_29 rfl (lv_at hl 0 rfl) ?_
        obtain ⟨f7, ef7, h⟩ := b1_s h
        refine h_callV hw (va_runV (As := []) (rest := []) ⟨hx, hb, hml, hown, hts⟩ (mX8_asItIs l D ac ad S f f7 hS ef7) (cwV 0 hts gX8_child_X8_asItIs rfl rfl rfl (by decide +kernel) ⟨Nat.le_of_ble_eq_true rfl, Nat.le_of_ble_eq_true rfl⟩) (h_preV hK hw hS.1 rfl _) rfl rfl hl.1 rfl (lv_room (Nat.le_of_ble_eq_true rfl)) dX8_child_30 ⟨Nat.le_of_ble_eq_true rfl, Nat.le_of_ble_eq_true rfl⟩) (fun H locs hw => ?_)
        refine lv_aload_n hx hb dX8_child_33 rfl (lv_at hl 0 rfl) ?_
        obtain ⟨f8, ef8, h⟩ := b1_s h
        refine h_callV hw (va_runV (As := []) (rest := []) ⟨hx, hb, hml, hown, hts⟩ (mX8_findHolds l D ac ad S f7 f8 hS ef8) (cwV 0 hts gX8_child_X8_findHolds rfl rfl rfl (by decide +kernel) ⟨Nat.le_of_ble_eq_true rfl, Nat.le_of_ble_eq_true rfl⟩) (h_preV hK hw hS.1 rfl _) rfl rfl hl.1 rfl (lv_room (Nat.le_of_ble_eq_true rfl)) dX8_child_34 ⟨Nat.le_of_ble_eq_true rfl, Nat.le_of_ble_eq_true rfl⟩) (fun H locs hw => ?_)
        refine lv_aload_n hx hb dX8_child_37 rfl (lv_at hl 0 rfl) ?_
        refine lv_iload_n hx hb dX8_child_38 rfl (lv_at hl 1 rfl) ?_
        refine lv_iload_n hx hb dX8_child_39 rfl (lv_at hl 2 rfl) ?_
        refine lv_bipush (v := 9) hx hb dX8_child_40 (by decide) ?_
        refine lv_isub hx hb dX8_child_42 ?_
        obtain ⟨r9, er9, h⟩ := b1_s h
        refine h_callR (va_runV (As := [.int x1, .int (x2 - 9)]) (rest := []) ⟨hx, hb, hml, hown, hts⟩ (mX8_mateBy l D ac ad S f8 x1 (x2 - 9) r9 hS er9) (cwV 2 hts gX8_child_X8_mateBy rfl rfl rfl (by decide +kernel) ⟨Nat.le_of_ble_eq_true rfl, Nat.le_of_ble_eq_true rfl⟩) (h_preV hK hw hS.1 rfl _) rfl rfl hl.1 rfl (lv_room (Nat.le_of_ble_eq_true rfl)) dX8_child_43 ⟨Nat.le_of_ble_eq_true rfl, Nat.le_of_ble_eq_true rfl⟩) ?_
        refine lv_if_ge (tgt := 53) hx hb dX8_child_46 (by decide) (fun hc10 => ?_) (fun hc10 => ?_)
        · have h := it hc10 h
          refine lv_iconst (v := 1) hx hb dX8_child_53 (by decide) ?_
          exact h_retQ hx hb hr hlocks hw rfl (so2 h) dX8_child_54
        · have h := ie hc10 h
          refine lv_iconst (v := 0) hx hb dX8_child_49 (by decide) ?_
          refine lv_goto (tgt := 54) hx hb dX8_child_50 (by decide) ?_
          exact h_retQ hx hb hr hlocks hw rfl (so2 h) dX8_child_54
      · have h := it hc6 h
        refine lv_iconst (v := (-1)) hx hb dX8_child_27 (by decide) ?_
        exact h_retQ hx hb hr hlocks hw rfl (so2 h) dX8_child_28

theorem hnX8_isMated_X8 : ∀ w ∈ wsX80, w ∈ wsX8_isMated := by decide +kernel
theorem hkX8_isMated_43 : Cond.fieldLink RX8 43 (TX8 22).1 (TX8 22).2.1 (TX8 22).2.2.1 ∈ wsX8_isMated := by decide +kernel
set_option maxHeartbeats 8000000 in
set_option maxRecDepth 100000 in
theorem mX8_isMated (l : Launch) (D : va_G) (ac : Nat → ClassId) (ad : Nat → Nat) (S : List hSh) (f : hF) (x1 : Int32) (rv : Int32) (hS : isMo S) (h : fX8_isMated f x1 = some rv) : Met l yX8_isMated wsX8_isMated ({ frames := 2, cells := 0, slots := 0, locals := 46 }) (hPc D ac ad S f [.ref (ad 146), .int x1]) (hRi rv) 0 0 hNo := by
  refine h_enter (C := RX8) (cc := cX8_isMated) (maxL := 2) (ret := (some .boolean)) (lv := [(0, .ref (ad 146)), (1, .int x1)]) (by decide) rfl rfl (Nat.le_of_ble_eq_true rfl) rfl (fun p e s m below meth c ls hx hb hml hr hlocks hown hts hK hw hl => ?_)
  unfold fX8_isMated at h
  refine lv_aload_n hx hb dX8_isMated_0 rfl (lv_at hl 0 rfl) ?_
  refine lv_iload_n hx hb dX8_isMated_1 rfl (lv_at hl 1 rfl) ?_
  refine lv_aload_n hx hb dX8_isMated_2 rfl (lv_at hl 0 rfl) ?_
  refine h_getR hx hb hts hnX8_isMated_X8 hown hK hw hS.1 rfl 22 (by decide) rfl hkX8_isMated_43 dX8_isMated_3 ?_
  refine lv_iconst (v := 0) hx hb dX8_isMated_6 (by decide) ?_
  obtain ⟨hi1, h⟩ := gd_s h
  refine h_iald hx hb hK hw hS.2.2.2.2.2.2.2.2.2.2.2.2.1 hi1 dX8_isMated_7 ?_
  obtain ⟨r2, er2, h⟩ := b1_s h
  refine h_callR (va_runV (As := [.int x1, .int (f 158 (0 : Int32).toNatClampNeg)]) (rest := []) ⟨hx, hb, hml, hown, hts⟩ (mX8_mateBy l D ac ad S f x1 (f 158 (0 : Int32).toNatClampNeg) r2 hS er2) (cwV 2 hts gX8_isMated_X8_mateBy rfl rfl rfl (by decide +kernel) ⟨Nat.le_of_ble_eq_true rfl, Nat.le_of_ble_eq_true rfl⟩) (h_preV hK hw hS.1 rfl _) rfl rfl hl.1 rfl (lv_room (Nat.le_of_ble_eq_true rfl)) dX8_isMated_8 ⟨Nat.le_of_ble_eq_true rfl, Nat.le_of_ble_eq_true rfl⟩) ?_
  refine lv_if_lt (tgt := 18) hx hb dX8_isMated_11 (by decide) (fun hc3 => ?_) (fun hc3 => ?_)
  · have h := it hc3 h
    refine lv_iconst (v := 0) hx hb dX8_isMated_18 (by decide) ?_
    exact h_retR hx hb hr hlocks rfl (so1 h) dX8_isMated_19
  · have h := ie hc3 h
    refine lv_iconst (v := 1) hx hb dX8_isMated_14 (by decide) ?_
    refine lv_goto (tgt := 19) hx hb dX8_isMated_15 (by decide) ?_
    exact h_retR hx hb hr hlocks rfl (so1 h) dX8_isMated_19

theorem hnX8_isBrought_X8 : ∀ w ∈ wsX80, w ∈ wsX8_isBrought := by decide +kernel
theorem hkX8_isBrought_80 : Cond.fieldLink RX8 80 (TX8 0).1 (TX8 0).2.1 (TX8 0).2.2.1 ∈ wsX8_isBrought := by decide +kernel
theorem hkX8_isBrought_43 : Cond.fieldLink RX8 43 (TX8 22).1 (TX8 22).2.1 (TX8 22).2.2.1 ∈ wsX8_isBrought := by decide +kernel
set_option maxHeartbeats 8000000 in
set_option maxRecDepth 100000 in
theorem mX8_isBrought (l : Launch) (D : va_G) (ac : Nat → ClassId) (ad : Nat → Nat) (S : List hSh) (f : hF) (x1 : Int32) (gv : hF) (hS : isMo S) (h : fX8_isBrought f x1 = some gv) : Met l yX8_isBrought wsX8_isBrought ({ frames := 4, cells := 0, slots := 0, locals := 92 }) (hPc D ac ad S f [.ref (ad 146), .int x1]) (hQv D ac ad S gv) 0 0 (hAd ad S.length) := by
  refine h_enter (C := RX8) (cc := cX8_isBrought) (maxL := 4) (ret := none) (lv := [(0, .ref (ad 146)), (1, .int x1)]) (by decide) rfl rfl (Nat.le_of_ble_eq_true rfl) rfl (fun p e s m below meth c ls hx hb hml hr hlocks hown hts hK hw hl => ?_)
  have J53 : ∀ (q2 : hF → Int32 → Option hF) (hq2 : (∀ (f : hF) (y2 : Int32) (H : Heap) (locs : List Loc) (ls : Array Slot), hOk D ac ad S (hAd ad S.length) s.heap f H locs → lv_has ls 4 [(0, .ref (ad 146)), (1, .int x1), (2, .int y2)] → q2 f y2 = some gv → W p l e ({ frames := 4, cells := 0, slots := 0, locals := 92 } : Room) s m ([.ref (ad 146), .int x1] : List Value).toArray below meth c H locs 0 0 (MQ below (hQv D ac ad S gv) ([.ref (ad 146), .int x1] : List Value).toArray s 0 0 (hAd ad S.length)) (F0 m 2 ls []))), (∀ (f : hF) (y2 : Int32) (s0 : Int32) (H : Heap) (locs : List Loc) (ls : Array Slot), hOk D ac ad S (hAd ad S.length) s.heap f H locs → lv_has ls 4 [(0, .ref (ad 146)), (1, .int x1), (2, .int y2)] → fX8_isBrought_53 x1 q2 f y2 s0 = some gv → W p l e ({ frames := 4, cells := 0, slots := 0, locals := 92 } : Room) s m ([.ref (ad 146), .int x1] : List Value).toArray below meth c H locs 0 0 (MQ below (hQv D ac ad S gv) ([.ref (ad 146), .int x1] : List Value).toArray s 0 0 (hAd ad S.length)) (F0 m 53 ls [.int s0])) := by
    intro q2 hq2 f y2 s0 H locs ls hw hl h
    unfold fX8_isBrought_53 at h
    refine lv_istore_n (lv' := [(3, .int s0), (0, .ref (ad 146)), (1, .int x1), (2, .int y2)]) hx hb dX8_isBrought_53 rfl hl (by decide) rfl (fun ls hl => ?_)
    refine lv_iload_n hx hb dX8_isBrought_54 rfl (lv_at hl 0 rfl) ?_
    refine lv_if_eq (tgt := 70) hx hb dX8_isBrought_55 (by decide) (fun hc1 => ?_) (fun hc1 => ?_)
    · have h := it hc1 h
      refine lv_iinc (v := (y2 + 1)) (lv' := [(2, .int (y2 + 1)), (3, .int s0), (0, .ref (ad 146)), (1, .int x1)]) hx hb dX8_isBrought_70 hl (k := 3) rfl rfl (by decide) rfl (fun ls hl => ?_)
      refine lv_goto (tgt := 2) hx hb dX8_isBrought_73 (by decide) ?_
      exact hq2 f (y2 + 1) _ _ _ hw (lv_sub hl [2, 3, 0] rfl) h
    · have h := ie hc1 h
      refine lv_aload_n hx hb dX8_isBrought_58 rfl (lv_at hl 1 rfl) ?_
      refine lv_iconst (v := 0) hx hb dX8_isBrought_59 (by decide) ?_
      refine lv_iload_n hx hb dX8_isBrought_60 rfl (lv_at hl 3 rfl) ?_
      refine lv_iload_n hx hb dX8_isBrought_61 rfl (lv_at hl 2 rfl) ?_
      obtain ⟨f2, ef2, h⟩ := b1_s h
      refine h_callV hw (va_runV (As := [.int 0, .int y2, .int x1]) (rest := []) ⟨hx, hb, hml, hown, hts⟩ (mX8_weds l D ac ad S f (0 : Int32) y2 x1 f2 hS ef2) (cwV 3 hts gX8_isBrought_X8_weds rfl rfl rfl (by decide +kernel) ⟨Nat.le_of_ble_eq_true rfl, Nat.le_of_ble_eq_true rfl⟩) (h_preV hK hw hS.1 rfl _) rfl rfl hl.1 rfl (lv_room (Nat.le_of_ble_eq_true rfl)) dX8_isBrought_62 ⟨Nat.le_of_ble_eq_true rfl, Nat.le_of_ble_eq_true rfl⟩) (fun H locs hw => ?_)
      refine lv_aload_n hx hb dX8_isBrought_65 rfl (lv_at hl 1 rfl) ?_
      obtain ⟨f3, ef3, h⟩ := b1_s h
      refine h_callV hw (va_runV (As := []) (rest := []) ⟨hx, hb, hml, hown, hts⟩ (mX8_findHolds l D ac ad S f2 f3 hS ef3) (cwV 0 hts gX8_isBrought_X8_findHolds rfl rfl rfl (by decide +kernel) ⟨Nat.le_of_ble_eq_true rfl, Nat.le_of_ble_eq_true rfl⟩) (h_preV hK hw hS.1 rfl _) rfl rfl hl.1 rfl (lv_room (Nat.le_of_ble_eq_true rfl)) dX8_isBrought_66 ⟨Nat.le_of_ble_eq_true rfl, Nat.le_of_ble_eq_true rfl⟩) (fun H locs hw => ?_)
      exact h_retV hx hb hr hlocks hw (so1 h) dX8_isBrought_69
  have J52 : ∀ (q2 : hF → Int32 → Option hF) (hq2 : (∀ (f : hF) (y2 : Int32) (H : Heap) (locs : List Loc) (ls : Array Slot), hOk D ac ad S (hAd ad S.length) s.heap f H locs → lv_has ls 4 [(0, .ref (ad 146)), (1, .int x1), (2, .int y2)] → q2 f y2 = some gv → W p l e ({ frames := 4, cells := 0, slots := 0, locals := 92 } : Room) s m ([.ref (ad 146), .int x1] : List Value).toArray below meth c H locs 0 0 (MQ below (hQv D ac ad S gv) ([.ref (ad 146), .int x1] : List Value).toArray s 0 0 (hAd ad S.length)) (F0 m 2 ls []))), (∀ (f : hF) (y2 : Int32) (H : Heap) (locs : List Loc) (ls : Array Slot), hOk D ac ad S (hAd ad S.length) s.heap f H locs → lv_has ls 4 [(0, .ref (ad 146)), (1, .int x1), (2, .int y2)] → fX8_isBrought_52 x1 q2 f y2 = some gv → W p l e ({ frames := 4, cells := 0, slots := 0, locals := 92 } : Room) s m ([.ref (ad 146), .int x1] : List Value).toArray below meth c H locs 0 0 (MQ below (hQv D ac ad S gv) ([.ref (ad 146), .int x1] : List Value).toArray s 0 0 (hAd ad S.length)) (F0 m 52 ls [])) := by
    intro q2 hq2 f y2 H locs ls hw hl h
    unfold fX8_isBrought_52 at h
    refine lv_iconst (v := 0) hx hb dX8_isBrought_52 (by decide) ?_
    exact J53 q2 hq2 f y2 0 _ _ _ hw (lv_sub hl [0, 1, 2] rfl) h
  have J2 : ∀ (n : Nat), (∀ (f : hF) (y2 : Int32) (H : Heap) (locs : List Loc) (ls : Array Slot), hOk D ac ad S (hAd ad S.length) s.heap f H locs → lv_has ls 4 [(0, .ref (ad 146)), (1, .int x1), (2, .int y2)] → fX8_isBrought_2 x1 n f y2 = some gv → W p l e ({ frames := 4, cells := 0, slots := 0, locals := 92 } : Room) s m ([.ref (ad 146), .int x1] : List Value).toArray below meth c H locs 0 0 (MQ below (hQv D ac ad S gv) ([.ref (ad 146), .int x1] : List Value).toArray s 0 0 (hAd ad S.length)) (F0 m 2 ls [])) := by
    intro n
    induction n with
    | zero =>
      intro f y2 H locs ls hw hl h
      rw [fX8_isBrought_2] at h
      cases h
    | succ n ih =>
      intro f y2 H locs ls hw hl h
      rw [fX8_isBrought_2] at h
      refine lv_iload_n hx hb dX8_isBrought_2 rfl (lv_at hl 2 rfl) ?_
      refine lv_aload_n hx hb dX8_isBrought_3 rfl (lv_at hl 0 rfl) ?_
      refine h_getI hx hb hts hnX8_isBrought_X8 hown hK hw hS.1 rfl 0 (by decide) rfl hkX8_isBrought_80 dX8_isBrought_4 ?_
      refine lv_icmp_ge (tgt := 76) hx hb dX8_isBrought_7 (by decide) (fun hc1 => ?_) (fun hc1 => ?_)
      · have h := it hc1 h
        exact h_retV hx hb hr hlocks hw (so1 h) dX8_isBrought_76
      · have h := ie hc1 h
        refine lv_aload_n hx hb dX8_isBrought_10 rfl (lv_at hl 0 rfl) ?_
        refine lv_iload_n hx hb dX8_isBrought_11 rfl (lv_at hl 2 rfl) ?_
        obtain ⟨r2, er2, h⟩ := b1_s h
        refine h_callR (va_runV (As := [.int y2]) (rest := []) ⟨hx, hb, hml, hown, hts⟩ (mX8_isWoman l D ac ad S f y2 r2 hS er2) (cwV 1 hts gX8_isBrought_X8_isWoman rfl rfl rfl (by decide +kernel) ⟨Nat.le_of_ble_eq_true rfl, Nat.le_of_ble_eq_true rfl⟩) (h_preV hK hw hS.1 rfl _) rfl rfl hl.1 rfl (lv_room (Nat.le_of_ble_eq_true rfl)) dX8_isBrought_12 ⟨Nat.le_of_ble_eq_true rfl, Nat.le_of_ble_eq_true rfl⟩) ?_
        refine lv_if_ne (tgt := 52) hx hb dX8_isBrought_15 (by decide) (fun hc3 => ?_) (fun hc3 => ?_)
        · have h := ie hc3 h
          exact J52 (fX8_isBrought_2 x1 n) ih f y2 _ _ _ hw (lv_sub hl [0, 1, 2] rfl) h
        · have h := it hc3 h
          refine lv_aload_n hx hb dX8_isBrought_18 rfl (lv_at hl 0 rfl) ?_
          refine lv_iload_n hx hb dX8_isBrought_19 rfl (lv_at hl 2 rfl) ?_
          obtain ⟨r4, er4, h⟩ := b1_s h
          refine h_callR (va_runV (As := [.int y2]) (rest := []) ⟨hx, hb, hml, hown, hts⟩ (mX8_isMated l D ac ad S f y2 r4 hS er4) (cwV 1 hts gX8_isBrought_X8_isMated rfl rfl rfl (by decide +kernel) ⟨Nat.le_of_ble_eq_true rfl, Nat.le_of_ble_eq_true rfl⟩) (h_preV hK hw hS.1 rfl _) rfl rfl hl.1 rfl (lv_room (Nat.le_of_ble_eq_true rfl)) dX8_isBrought_20 ⟨Nat.le_of_ble_eq_true rfl, Nat.le_of_ble_eq_true rfl⟩) ?_
          refine lv_if_ne (tgt := 52) hx hb dX8_isBrought_23 (by decide) (fun hc5 => ?_) (fun hc5 => ?_)
          · have h := ie hc5 h
            exact J52 (fX8_isBrought_2 x1 n) ih f y2 _ _ _ hw (lv_sub hl [0, 1, 2] rfl) h
          · have h := it hc5 h
            refine lv_aload_n hx hb dX8_isBrought_26 rfl (lv_at hl 0 rfl) ?_
            refine lv_iconst (v := 0) hx hb dX8_isBrought_27 (by decide) ?_
            refine lv_iload_n hx hb dX8_isBrought_28 rfl (lv_at hl 2 rfl) ?_
            refine lv_iload_n hx hb dX8_isBrought_29 rfl (lv_at hl 1 rfl) ?_
            obtain ⟨r6, er6, h⟩ := b1_s h
            refine h_callR (va_runV (As := [.int 0, .int y2, .int x1]) (rest := []) ⟨hx, hb, hml, hown, hts⟩ (mX8_canWed l D ac ad S f (0 : Int32) y2 x1 r6 hS er6) (cwV 3 hts gX8_isBrought_X8_canWed rfl rfl rfl (by decide +kernel) ⟨Nat.le_of_ble_eq_true rfl, Nat.le_of_ble_eq_true rfl⟩) (h_preV hK hw hS.1 rfl _) rfl rfl hl.1 rfl (lv_room (Nat.le_of_ble_eq_true rfl)) dX8_isBrought_30 ⟨Nat.le_of_ble_eq_true rfl, Nat.le_of_ble_eq_true rfl⟩) ?_
            refine lv_if_eq (tgt := 52) hx hb dX8_isBrought_33 (by decide) (fun hc7 => ?_) (fun hc7 => ?_)
            · have h := it hc7 h
              exact J52 (fX8_isBrought_2 x1 n) ih f y2 _ _ _ hw (lv_sub hl [0, 1, 2] rfl) h
            · have h := ie hc7 h
              refine lv_aload_n hx hb dX8_isBrought_36 rfl (lv_at hl 0 rfl) ?_
              refine h_getR hx hb hts hnX8_isBrought_X8 hown hK hw hS.1 rfl 22 (by decide) rfl hkX8_isBrought_43 dX8_isBrought_37 ?_
              refine lv_bipush (v := 12) hx hb dX8_isBrought_40 (by decide) ?_
              obtain ⟨hi8, h⟩ := gd_s h
              refine h_iald hx hb hK hw hS.2.2.2.2.2.2.2.2.2.2.2.2.1 hi8 dX8_isBrought_42 ?_
              refine lv_bipush (v := 8) hx hb dX8_isBrought_43 (by decide) ?_
              refine lv_icmp_ge (tgt := 52) hx hb dX8_isBrought_45 (by decide) (fun hc9 => ?_) (fun hc9 => ?_)
              · have h := it hc9 h
                exact J52 (fX8_isBrought_2 x1 n) ih f y2 _ _ _ hw (lv_sub hl [0, 1, 2] rfl) h
              · have h := ie hc9 h
                refine lv_iconst (v := 1) hx hb dX8_isBrought_48 (by decide) ?_
                refine lv_goto (tgt := 53) hx hb dX8_isBrought_49 (by decide) ?_
                exact J53 (fX8_isBrought_2 x1 n) ih f y2 1 _ _ _ hw (lv_sub hl [0, 1, 2] rfl) h
  unfold fX8_isBrought at h
  refine lv_iconst (v := 0) hx hb dX8_isBrought_0 (by decide) ?_
  refine lv_istore_n (lv' := [(2, .int 0), (0, .ref (ad 146)), (1, .int x1)]) hx hb dX8_isBrought_1 rfl hl (by decide) rfl (fun ls hl => ?_)
  exact J2 _ f 0 _ _ _ hw (lv_sub hl [1, 2, 0] rfl) h

theorem hnX8_mated_X8 : ∀ w ∈ wsX80, w ∈ wsX8_mated := by decide +kernel
theorem hkX8_mated_80 : Cond.fieldLink RX8 80 (TX8 0).1 (TX8 0).2.1 (TX8 0).2.2.1 ∈ wsX8_mated := by decide +kernel
set_option maxHeartbeats 8000000 in
set_option maxRecDepth 100000 in
theorem mX8_mated (l : Launch) (D : va_G) (ac : Nat → ClassId) (ad : Nat → Nat) (S : List hSh) (f : hF) (rv : Int32) (hS : isMo S) (h : fX8_mated f = some rv) : Met l yX8_mated wsX8_mated ({ frames := 3, cells := 0, slots := 0, locals := 67 }) (hPc D ac ad S f [.ref (ad 146)]) (hRi rv) 0 0 hNo := by
  refine h_enter (C := RX8) (cc := cX8_mated) (maxL := 3) (ret := (some .int)) (lv := [(0, .ref (ad 146))]) (by decide) rfl rfl (Nat.le_of_ble_eq_true rfl) rfl (fun p e s m below meth c ls hx hb hml hr hlocks hown hts hK hw hl => ?_)
  have J34 : ∀ (q4 : Int32 → Int32 → Option Int32) (hq4 : (∀ (y1 : Int32) (y2 : Int32) (ls : Array Slot), lv_has ls 3 [(0, .ref (ad 146)), (1, .int y1), (2, .int y2)] → q4 y1 y2 = some rv → W p l e ({ frames := 3, cells := 0, slots := 0, locals := 67 } : Room) s m ([.ref (ad 146)] : List Value).toArray below meth c s.heap [] 0 0 (MQ below (hRi rv) ([.ref (ad 146)] : List Value).toArray s 0 0 hNo) (F0 m 4 ls []))), (∀ (y2 : Int32) (s0 : Int32) (s1 : Int32) (ls : Array Slot), lv_has ls 3 [(0, .ref (ad 146)), (2, .int y2)] → fX8_mated_34 f q4 y2 s0 s1 = some rv → W p l e ({ frames := 3, cells := 0, slots := 0, locals := 67 } : Room) s m ([.ref (ad 146)] : List Value).toArray below meth c s.heap [] 0 0 (MQ below (hRi rv) ([.ref (ad 146)] : List Value).toArray s 0 0 hNo) (F0 m 34 ls [.int s1, .int s0])) := by
    intro q4 hq4 y2 s0 s1 ls hl h
    unfold fX8_mated_34 at h
    refine lv_iadd hx hb dX8_mated_34 ?_
    refine lv_istore_n (lv' := [(1, .int (s0 + s1)), (0, .ref (ad 146)), (2, .int y2)]) hx hb dX8_mated_35 rfl hl (by decide) rfl (fun ls hl => ?_)
    refine lv_iinc (v := (y2 + 1)) (lv' := [(2, .int (y2 + 1)), (1, .int (s0 + s1)), (0, .ref (ad 146))]) hx hb dX8_mated_36 hl (k := 2) rfl rfl (by decide) rfl (fun ls hl => ?_)
    refine lv_goto (tgt := 4) hx hb dX8_mated_39 (by decide) ?_
    exact hq4 (s0 + s1) (y2 + 1) _ (lv_sub hl [2, 1, 0] rfl) h
  have J33 : ∀ (q4 : Int32 → Int32 → Option Int32) (hq4 : (∀ (y1 : Int32) (y2 : Int32) (ls : Array Slot), lv_has ls 3 [(0, .ref (ad 146)), (1, .int y1), (2, .int y2)] → q4 y1 y2 = some rv → W p l e ({ frames := 3, cells := 0, slots := 0, locals := 67 } : Room) s m ([.ref (ad 146)] : List Value).toArray below meth c s.heap [] 0 0 (MQ below (hRi rv) ([.ref (ad 146)] : List Value).toArray s 0 0 hNo) (F0 m 4 ls []))), (∀ (y2 : Int32) (s0 : Int32) (ls : Array Slot), lv_has ls 3 [(0, .ref (ad 146)), (2, .int y2)] → fX8_mated_33 f q4 y2 s0 = some rv → W p l e ({ frames := 3, cells := 0, slots := 0, locals := 67 } : Room) s m ([.ref (ad 146)] : List Value).toArray below meth c s.heap [] 0 0 (MQ below (hRi rv) ([.ref (ad 146)] : List Value).toArray s 0 0 hNo) (F0 m 33 ls [.int s0])) := by
    intro q4 hq4 y2 s0 ls hl h
    unfold fX8_mated_33 at h
    refine lv_iconst (v := 0) hx hb dX8_mated_33 (by decide) ?_
    exact J34 q4 hq4 y2 s0 0 _ (lv_sub hl [0, 1] rfl) h
  have J4 : ∀ (n : Nat), (∀ (y1 : Int32) (y2 : Int32) (ls : Array Slot), lv_has ls 3 [(0, .ref (ad 146)), (1, .int y1), (2, .int y2)] → fX8_mated_4 f n y1 y2 = some rv → W p l e ({ frames := 3, cells := 0, slots := 0, locals := 67 } : Room) s m ([.ref (ad 146)] : List Value).toArray below meth c s.heap [] 0 0 (MQ below (hRi rv) ([.ref (ad 146)] : List Value).toArray s 0 0 hNo) (F0 m 4 ls [])) := by
    intro n
    induction n with
    | zero =>
      intro y1 y2 ls hl h
      rw [fX8_mated_4] at h
      cases h
    | succ n ih =>
      intro y1 y2 ls hl h
      rw [fX8_mated_4] at h
      refine lv_iload_n hx hb dX8_mated_4 rfl (lv_at hl 2 rfl) ?_
      refine lv_aload_n hx hb dX8_mated_5 rfl (lv_at hl 0 rfl) ?_
      refine h_getI hx hb hts hnX8_mated_X8 hown hK hw hS.1 rfl 0 (by decide) rfl hkX8_mated_80 dX8_mated_6 ?_
      refine lv_icmp_ge (tgt := 42) hx hb dX8_mated_9 (by decide) (fun hc1 => ?_) (fun hc1 => ?_)
      · have h := it hc1 h
        refine lv_iload_n hx hb dX8_mated_42 rfl (lv_at hl 1 rfl) ?_
        exact h_retR hx hb hr hlocks rfl (so1 h) dX8_mated_43
      · have h := ie hc1 h
        refine lv_iload_n hx hb dX8_mated_12 rfl (lv_at hl 1 rfl) ?_
        refine lv_aload_n hx hb dX8_mated_13 rfl (lv_at hl 0 rfl) ?_
        refine lv_iload_n hx hb dX8_mated_14 rfl (lv_at hl 2 rfl) ?_
        obtain ⟨r2, er2, h⟩ := b1_s h
        refine h_callR (va_runV (As := [.int y2]) (rest := [.int y1]) ⟨hx, hb, hml, hown, hts⟩ (mX8_isWoman l D ac ad S f y2 r2 hS er2) (cwV 1 hts gX8_mated_X8_isWoman rfl rfl rfl (by decide +kernel) ⟨Nat.le_of_ble_eq_true rfl, Nat.le_of_ble_eq_true rfl⟩) (h_preV hK hw hS.1 rfl _) rfl rfl hl.1 rfl (lv_room (Nat.le_of_ble_eq_true rfl)) dX8_mated_15 ⟨Nat.le_of_ble_eq_true rfl, Nat.le_of_ble_eq_true rfl⟩) ?_
        refine lv_if_eq (tgt := 33) hx hb dX8_mated_18 (by decide) (fun hc3 => ?_) (fun hc3 => ?_)
        · have h := it hc3 h
          exact J33 (fX8_mated_4 f n) ih y2 y1 _ (lv_sub hl [0, 2] rfl) h
        · have h := ie hc3 h
          refine lv_aload_n hx hb dX8_mated_21 rfl (lv_at hl 0 rfl) ?_
          refine lv_iload_n hx hb dX8_mated_22 rfl (lv_at hl 2 rfl) ?_
          obtain ⟨r4, er4, h⟩ := b1_s h
          refine h_callR (va_runV (As := [.int y2]) (rest := [.int y1]) ⟨hx, hb, hml, hown, hts⟩ (mX8_isMated l D ac ad S f y2 r4 hS er4) (cwV 1 hts gX8_mated_X8_isMated rfl rfl rfl (by decide +kernel) ⟨Nat.le_of_ble_eq_true rfl, Nat.le_of_ble_eq_true rfl⟩) (h_preV hK hw hS.1 rfl _) rfl rfl hl.1 rfl (lv_room (Nat.le_of_ble_eq_true rfl)) dX8_mated_23 ⟨Nat.le_of_ble_eq_true rfl, Nat.le_of_ble_eq_true rfl⟩) ?_
          refine lv_if_eq (tgt := 33) hx hb dX8_mated_26 (by decide) (fun hc5 => ?_) (fun hc5 => ?_)
          · have h := it hc5 h
            exact J33 (fX8_mated_4 f n) ih y2 y1 _ (lv_sub hl [0, 2] rfl) h
          · have h := ie hc5 h
            refine lv_iconst (v := 1) hx hb dX8_mated_29 (by decide) ?_
            refine lv_goto (tgt := 34) hx hb dX8_mated_30 (by decide) ?_
            exact J34 (fX8_mated_4 f n) ih y2 y1 1 _ (lv_sub hl [0, 2] rfl) h
  unfold fX8_mated at h
  refine lv_iconst (v := 0) hx hb dX8_mated_0 (by decide) ?_
  refine lv_istore_n (lv' := [(1, .int 0), (0, .ref (ad 146))]) hx hb dX8_mated_1 rfl hl (by decide) rfl (fun ls hl => ?_)
  refine lv_iconst (v := 0) hx hb dX8_mated_2 (by decide) ?_
  refine lv_istore_n (lv' := [(2, .int 0), (1, .int 0), (0, .ref (ad 146))]) hx hb dX8_mated_3 rfl hl (by decide) rfl (fun ls hl => ?_)
  exact J4 _ 0 0 _ (lv_sub hl [2, 1, 0] rfl) h

theorem hnX8_singles_X8 : ∀ w ∈ wsX80, w ∈ wsX8_singles := by decide +kernel
theorem hkX8_singles_80 : Cond.fieldLink RX8 80 (TX8 0).1 (TX8 0).2.1 (TX8 0).2.2.1 ∈ wsX8_singles := by decide +kernel
set_option maxHeartbeats 8000000 in
set_option maxRecDepth 100000 in
theorem mX8_singles (l : Launch) (D : va_G) (ac : Nat → ClassId) (ad : Nat → Nat) (S : List hSh) (f : hF) (rv : Int32) (gv : hF) (hS : isMo S) (h : fX8_singles f = some (rv, gv)) : Met l yX8_singles wsX8_singles ({ frames := 4, cells := 0, slots := 0, locals := 87 }) (hPc D ac ad S f [.ref (ad 146)]) (hQi D ac ad S rv gv) 0 0 (hAd ad S.length) := by
  refine h_enter (C := RX8) (cc := cX8_singles) (maxL := 3) (ret := (some .int)) (lv := [(0, .ref (ad 146))]) (by decide) rfl rfl (Nat.le_of_ble_eq_true rfl) rfl (fun p e s m below meth c ls hx hb hml hr hlocks hown hts hK hw hl => ?_)
  have J44 : ∀ (q12 : hF → Int32 → Int32 → Option (Int32 × hF)) (hq12 : (∀ (f : hF) (y1 : Int32) (y2 : Int32) (H : Heap) (locs : List Loc) (ls : Array Slot), hOk D ac ad S (hAd ad S.length) s.heap f H locs → lv_has ls 3 [(0, .ref (ad 146)), (1, .int y1), (2, .int y2)] → q12 f y1 y2 = some (rv, gv) → W p l e ({ frames := 4, cells := 0, slots := 0, locals := 87 } : Room) s m ([.ref (ad 146)] : List Value).toArray below meth c H locs 0 0 (MQ below (hQi D ac ad S rv gv) ([.ref (ad 146)] : List Value).toArray s 0 0 (hAd ad S.length)) (F0 m 12 ls []))), (∀ (f : hF) (y2 : Int32) (s0 : Int32) (s1 : Int32) (H : Heap) (locs : List Loc) (ls : Array Slot), hOk D ac ad S (hAd ad S.length) s.heap f H locs → lv_has ls 3 [(0, .ref (ad 146)), (2, .int y2)] → fX8_singles_44 q12 f y2 s0 s1 = some (rv, gv) → W p l e ({ frames := 4, cells := 0, slots := 0, locals := 87 } : Room) s m ([.ref (ad 146)] : List Value).toArray below meth c H locs 0 0 (MQ below (hQi D ac ad S rv gv) ([.ref (ad 146)] : List Value).toArray s 0 0 (hAd ad S.length)) (F0 m 44 ls [.int s1, .int s0])) := by
    intro q12 hq12 f y2 s0 s1 H locs ls hw hl h
    unfold fX8_singles_44 at h
    refine lv_ior hx hb dX8_singles_44 ?_
    refine lv_istore_n (lv' := [(1, .int (s0 ||| s1)), (0, .ref (ad 146)), (2, .int y2)]) hx hb dX8_singles_45 rfl hl (by decide) rfl (fun ls hl => ?_)
    refine lv_iinc (v := (y2 + 1)) (lv' := [(2, .int (y2 + 1)), (1, .int (s0 ||| s1)), (0, .ref (ad 146))]) hx hb dX8_singles_46 hl (k := 2) rfl rfl (by decide) rfl (fun ls hl => ?_)
    refine lv_goto (tgt := 12) hx hb dX8_singles_49 (by decide) ?_
    exact hq12 f (s0 ||| s1) (y2 + 1) _ _ _ hw (lv_sub hl [2, 1, 0] rfl) h
  have J43 : ∀ (q12 : hF → Int32 → Int32 → Option (Int32 × hF)) (hq12 : (∀ (f : hF) (y1 : Int32) (y2 : Int32) (H : Heap) (locs : List Loc) (ls : Array Slot), hOk D ac ad S (hAd ad S.length) s.heap f H locs → lv_has ls 3 [(0, .ref (ad 146)), (1, .int y1), (2, .int y2)] → q12 f y1 y2 = some (rv, gv) → W p l e ({ frames := 4, cells := 0, slots := 0, locals := 87 } : Room) s m ([.ref (ad 146)] : List Value).toArray below meth c H locs 0 0 (MQ below (hQi D ac ad S rv gv) ([.ref (ad 146)] : List Value).toArray s 0 0 (hAd ad S.length)) (F0 m 12 ls []))), (∀ (f : hF) (y2 : Int32) (s0 : Int32) (H : Heap) (locs : List Loc) (ls : Array Slot), hOk D ac ad S (hAd ad S.length) s.heap f H locs → lv_has ls 3 [(0, .ref (ad 146)), (2, .int y2)] → fX8_singles_43 q12 f y2 s0 = some (rv, gv) → W p l e ({ frames := 4, cells := 0, slots := 0, locals := 87 } : Room) s m ([.ref (ad 146)] : List Value).toArray below meth c H locs 0 0 (MQ below (hQi D ac ad S rv gv) ([.ref (ad 146)] : List Value).toArray s 0 0 (hAd ad S.length)) (F0 m 43 ls [.int s0])) := by
    intro q12 hq12 f y2 s0 H locs ls hw hl h
    unfold fX8_singles_43 at h
    refine lv_iconst (v := 0) hx hb dX8_singles_43 (by decide) ?_
    exact J44 q12 hq12 f y2 s0 0 _ _ _ hw (lv_sub hl [0, 1] rfl) h
  have J12 : ∀ (n : Nat), (∀ (f : hF) (y1 : Int32) (y2 : Int32) (H : Heap) (locs : List Loc) (ls : Array Slot), hOk D ac ad S (hAd ad S.length) s.heap f H locs → lv_has ls 3 [(0, .ref (ad 146)), (1, .int y1), (2, .int y2)] → fX8_singles_12 n f y1 y2 = some (rv, gv) → W p l e ({ frames := 4, cells := 0, slots := 0, locals := 87 } : Room) s m ([.ref (ad 146)] : List Value).toArray below meth c H locs 0 0 (MQ below (hQi D ac ad S rv gv) ([.ref (ad 146)] : List Value).toArray s 0 0 (hAd ad S.length)) (F0 m 12 ls [])) := by
    intro n
    induction n with
    | zero =>
      intro f y1 y2 H locs ls hw hl h
      rw [fX8_singles_12] at h
      cases h
    | succ n ih =>
      intro f y1 y2 H locs ls hw hl h
      rw [fX8_singles_12] at h
      refine lv_iload_n hx hb dX8_singles_12 rfl (lv_at hl 2 rfl) ?_
      refine lv_aload_n hx hb dX8_singles_13 rfl (lv_at hl 0 rfl) ?_
      refine h_getI hx hb hts hnX8_singles_X8 hown hK hw hS.1 rfl 0 (by decide) rfl hkX8_singles_80 dX8_singles_14 ?_
      refine lv_icmp_ge (tgt := 52) hx hb dX8_singles_17 (by decide) (fun hc1 => ?_) (fun hc1 => ?_)
      · have h := it hc1 h
        refine lv_iload_n hx hb dX8_singles_52 rfl (lv_at hl 1 rfl) ?_
        exact h_retQ hx hb hr hlocks hw rfl (so2 h) dX8_singles_53
      · have h := ie hc1 h
        refine lv_iload_n hx hb dX8_singles_20 rfl (lv_at hl 1 rfl) ?_
        refine lv_aload_n hx hb dX8_singles_21 rfl (lv_at hl 0 rfl) ?_
        refine lv_iload_n hx hb dX8_singles_22 rfl (lv_at hl 2 rfl) ?_
        obtain ⟨r2, er2, h⟩ := b1_s h
        refine h_callR (va_runV (As := [.int y2]) (rest := [.int y1]) ⟨hx, hb, hml, hown, hts⟩ (mX8_isWoman l D ac ad S f y2 r2 hS er2) (cwV 1 hts gX8_singles_X8_isWoman rfl rfl rfl (by decide +kernel) ⟨Nat.le_of_ble_eq_true rfl, Nat.le_of_ble_eq_true rfl⟩) (h_preV hK hw hS.1 rfl _) rfl rfl hl.1 rfl (lv_room (Nat.le_of_ble_eq_true rfl)) dX8_singles_23 ⟨Nat.le_of_ble_eq_true rfl, Nat.le_of_ble_eq_true rfl⟩) ?_
        refine lv_if_eq (tgt := 43) hx hb dX8_singles_26 (by decide) (fun hc3 => ?_) (fun hc3 => ?_)
        · have h := it hc3 h
          exact J43 (fX8_singles_12 n) ih f y2 y1 _ _ _ hw (lv_sub hl [0, 2] rfl) h
        · have h := ie hc3 h
          refine lv_aload_n hx hb dX8_singles_29 rfl (lv_at hl 0 rfl) ?_
          refine lv_iload_n hx hb dX8_singles_30 rfl (lv_at hl 2 rfl) ?_
          obtain ⟨r4, er4, h⟩ := b1_s h
          refine h_callR (va_runV (As := [.int y2]) (rest := [.int y1]) ⟨hx, hb, hml, hown, hts⟩ (mX8_isMated l D ac ad S f y2 r4 hS er4) (cwV 1 hts gX8_singles_X8_isMated rfl rfl rfl (by decide +kernel) ⟨Nat.le_of_ble_eq_true rfl, Nat.le_of_ble_eq_true rfl⟩) (h_preV hK hw hS.1 rfl _) rfl rfl hl.1 rfl (lv_room (Nat.le_of_ble_eq_true rfl)) dX8_singles_31 ⟨Nat.le_of_ble_eq_true rfl, Nat.le_of_ble_eq_true rfl⟩) ?_
          refine lv_if_ne (tgt := 43) hx hb dX8_singles_34 (by decide) (fun hc5 => ?_) (fun hc5 => ?_)
          · have h := ie hc5 h
            exact J43 (fX8_singles_12 n) ih f y2 y1 _ _ _ hw (lv_sub hl [0, 2] rfl) h
          · have h := it hc5 h
            refine lv_iconst (v := 1) hx hb dX8_singles_37 (by decide) ?_
            refine lv_iload_n hx hb dX8_singles_38 rfl (lv_at hl 2 rfl) ?_
            refine lv_ishl hx hb dX8_singles_39 ?_
            refine lv_goto (tgt := 44) hx hb dX8_singles_40 (by decide) ?_
            exact J44 (fX8_singles_12 n) ih f y2 y1 (1 <<< (y2 &&& 31)) _ _ _ hw (lv_sub hl [0, 2] rfl) h
  unfold fX8_singles at h
  refine lv_aload_n hx hb dX8_singles_0 rfl (lv_at hl 0 rfl) ?_
  obtain ⟨f1, ef1, h⟩ := b1_s h
  refine h_callV hw (va_runV (As := []) (rest := []) ⟨hx, hb, hml, hown, hts⟩ (mX8_asItIs l D ac ad S f f1 hS ef1) (cwV 0 hts gX8_singles_X8_asItIs rfl rfl rfl (by decide +kernel) ⟨Nat.le_of_ble_eq_true rfl, Nat.le_of_ble_eq_true rfl⟩) (h_preV hK hw hS.1 rfl _) rfl rfl hl.1 rfl (lv_room (Nat.le_of_ble_eq_true rfl)) dX8_singles_1 ⟨Nat.le_of_ble_eq_true rfl, Nat.le_of_ble_eq_true rfl⟩) (fun H locs hw => ?_)
  refine lv_aload_n hx hb dX8_singles_4 rfl (lv_at hl 0 rfl) ?_
  obtain ⟨f2, ef2, h⟩ := b1_s h
  refine h_callV hw (va_runV (As := []) (rest := []) ⟨hx, hb, hml, hown, hts⟩ (mX8_findHolds l D ac ad S f1 f2 hS ef2) (cwV 0 hts gX8_singles_X8_findHolds rfl rfl rfl (by decide +kernel) ⟨Nat.le_of_ble_eq_true rfl, Nat.le_of_ble_eq_true rfl⟩) (h_preV hK hw hS.1 rfl _) rfl rfl hl.1 rfl (lv_room (Nat.le_of_ble_eq_true rfl)) dX8_singles_5 ⟨Nat.le_of_ble_eq_true rfl, Nat.le_of_ble_eq_true rfl⟩) (fun H locs hw => ?_)
  refine lv_iconst (v := 0) hx hb dX8_singles_8 (by decide) ?_
  refine lv_istore_n (lv' := [(1, .int 0), (0, .ref (ad 146))]) hx hb dX8_singles_9 rfl hl (by decide) rfl (fun ls hl => ?_)
  refine lv_iconst (v := 0) hx hb dX8_singles_10 (by decide) ?_
  refine lv_istore_n (lv' := [(2, .int 0), (1, .int 0), (0, .ref (ad 146))]) hx hb dX8_singles_11 rfl hl (by decide) rfl (fun ls hl => ?_)
  exact J12 _ f2 0 0 _ _ _ hw (lv_sub hl [2, 1, 0] rfl) h

theorem hnX8_matedBy_X8 : ∀ w ∈ wsX80, w ∈ wsX8_matedBy := by decide +kernel
theorem hkX8_matedBy_248 : Cond.fieldLink RX8 248 (TX8 26).1 (TX8 26).2.1 (TX8 26).2.2.1 ∈ wsX8_matedBy := by decide +kernel
theorem hkX8_matedBy_80 : Cond.fieldLink RX8 80 (TX8 0).1 (TX8 0).2.1 (TX8 0).2.2.1 ∈ wsX8_matedBy := by decide +kernel
set_option maxHeartbeats 8000000 in
set_option maxRecDepth 100000 in
theorem mX8_matedBy (l : Launch) (D : va_G) (ac : Nat → ClassId) (ad : Nat → Nat) (S : List hSh) (f : hF) (x1 : Int32) (x2 : Int32) (x3 : Int32) (rv : Int32) (gv : hF) (hS : isMo S) (h : fX8_matedBy f x1 x2 x3 = some (rv, gv)) : Met l yX8_matedBy wsX8_matedBy ({ frames := 5, cells := 0, slots := 0, locals := 115 }) (hPc D ac ad S f [.ref (ad 146), .int x1, .int x2, .int x3]) (hQi D ac ad S rv gv) 0 0 (hAd ad S.length) := by
  refine h_enter (C := RX8) (cc := cX8_matedBy) (maxL := 5) (ret := (some .int)) (lv := [(0, .ref (ad 146)), (1, .int x1), (2, .int x2), (3, .int x3)]) (by decide) rfl rfl (Nat.le_of_ble_eq_true rfl) rfl (fun p e s m below meth c ls hx hb hml hr hlocks hown hts hK hw hl => ?_)
  have J56 : ∀ (q16 : hF → Int32 → Option (Int32 × hF)) (hq16 : (∀ (f : hF) (y4 : Int32) (H : Heap) (locs : List Loc) (ls : Array Slot), hOk D ac ad S (hAd ad S.length) s.heap f H locs → lv_has ls 5 [(0, .ref (ad 146)), (1, .int x1), (2, .int x2), (3, .int x3), (4, .int y4)] → q16 f y4 = some (rv, gv) → W p l e ({ frames := 5, cells := 0, slots := 0, locals := 115 } : Room) s m ([.ref (ad 146), .int x1, .int x2, .int x3] : List Value).toArray below meth c H locs 0 0 (MQ below (hQi D ac ad S rv gv) ([.ref (ad 146), .int x1, .int x2, .int x3] : List Value).toArray s 0 0 (hAd ad S.length)) (F0 m 16 ls []))), (∀ (f : hF) (y4 : Int32) (s1 : Int32) (s2 : Int32) (H : Heap) (locs : List Loc) (ls : Array Slot), hOk D ac ad S (hAd ad S.length) s.heap f H locs → lv_has ls 5 [(0, .ref (ad 146)), (1, .int x1), (2, .int x2), (3, .int x3), (4, .int y4)] → fX8_matedBy_56 x1 x2 x3 q16 f y4 s1 s2 = some (rv, gv) → W p l e ({ frames := 5, cells := 0, slots := 0, locals := 115 } : Room) s m ([.ref (ad 146), .int x1, .int x2, .int x3] : List Value).toArray below meth c H locs 0 0 (MQ below (hQi D ac ad S rv gv) ([.ref (ad 146), .int x1, .int x2, .int x3] : List Value).toArray s 0 0 (hAd ad S.length)) (F0 m 56 ls [.int s2, .int s1, .ref (ad 146)])) := by
    intro q16 hq16 f y4 s1 s2 H locs ls hw hl h
    unfold fX8_matedBy_56 at h
    refine lv_imul hx hb dX8_matedBy_56 ?_
    obtain ⟨f1, ef1, h⟩ := lt_s2 h
    refine h_putI (g := f1) ef1 hx hb hts hnX8_matedBy_X8 tyX8 tyX8_ok nmX8 hown hK hw hS.1 rfl 26 rfl (by decide) rfl hkX8_matedBy_248 rfl (by decide +kernel) dX8_matedBy_57 (fun H locs hw => ?_)
    refine lv_iload_n hx hb dX8_matedBy_60 rfl (lv_at hl 2 rfl) ?_
    refine lv_iload hx hb dX8_matedBy_61 (lv_at hl 4 rfl) ?_
    obtain ⟨r2, er2, h⟩ := b1_s h
    refine h_callR (va_runS (As := [.int x2, .int y4]) (rest := []) ⟨hx, hb, hml, hown, hts⟩ (mX8_has l D ac ad S f1 x2 y4 r2  er2) (va_cwS 2 hts gX8_matedBy_X8_has rfl rfl rfl (by decide +kernel) ⟨Nat.le_of_ble_eq_true rfl, Nat.le_of_ble_eq_true rfl⟩) (h_preS hK hw _) rfl rfl hl.1 rfl (lv_room (Nat.le_of_ble_eq_true rfl)) dX8_matedBy_63 ⟨Nat.le_of_ble_eq_true rfl, Nat.le_of_ble_eq_true rfl⟩) ?_
    refine lv_if_eq (tgt := 75) hx hb dX8_matedBy_66 (by decide) (fun hc3 => ?_) (fun hc3 => ?_)
    · have h := it hc3 h
      refine lv_iinc (v := (y4 + 1)) (lv' := [(4, .int (y4 + 1)), (0, .ref (ad 146)), (1, .int x1), (2, .int x2), (3, .int x3)]) hx hb dX8_matedBy_75 hl (k := 4) rfl rfl (by decide) rfl (fun ls hl => ?_)
      refine lv_goto (tgt := 16) hx hb dX8_matedBy_78 (by decide) ?_
      exact hq16 f1 (y4 + 1) _ _ _ hw (lv_sub hl [1, 2, 3, 4, 0] rfl) h
    · have h := ie hc3 h
      refine lv_aload_n hx hb dX8_matedBy_69 rfl (lv_at hl 0 rfl) ?_
      refine lv_iload hx hb dX8_matedBy_70 (lv_at hl 4 rfl) ?_
      obtain ⟨f4, ef4, h⟩ := b1_s h
      refine h_callV hw (va_runV (As := [.int y4]) (rest := []) ⟨hx, hb, hml, hown, hts⟩ (mX8_isBrought l D ac ad S f1 y4 f4 hS ef4) (cwV 1 hts gX8_matedBy_X8_isBrought rfl rfl rfl (by decide +kernel) ⟨Nat.le_of_ble_eq_true rfl, Nat.le_of_ble_eq_true rfl⟩) (h_preV hK hw hS.1 rfl _) rfl rfl hl.1 rfl (lv_room (Nat.le_of_ble_eq_true rfl)) dX8_matedBy_72 ⟨Nat.le_of_ble_eq_true rfl, Nat.le_of_ble_eq_true rfl⟩) (fun H locs hw => ?_)
      refine lv_iinc (v := (y4 + 1)) (lv' := [(4, .int (y4 + 1)), (0, .ref (ad 146)), (1, .int x1), (2, .int x2), (3, .int x3)]) hx hb dX8_matedBy_75 hl (k := 4) rfl rfl (by decide) rfl (fun ls hl => ?_)
      refine lv_goto (tgt := 16) hx hb dX8_matedBy_78 (by decide) ?_
      exact hq16 f4 (y4 + 1) _ _ _ hw (lv_sub hl [1, 2, 3, 4, 0] rfl) h
  have J16 : ∀ (n : Nat), (∀ (f : hF) (y4 : Int32) (H : Heap) (locs : List Loc) (ls : Array Slot), hOk D ac ad S (hAd ad S.length) s.heap f H locs → lv_has ls 5 [(0, .ref (ad 146)), (1, .int x1), (2, .int x2), (3, .int x3), (4, .int y4)] → fX8_matedBy_16 x1 x2 x3 n f y4 = some (rv, gv) → W p l e ({ frames := 5, cells := 0, slots := 0, locals := 115 } : Room) s m ([.ref (ad 146), .int x1, .int x2, .int x3] : List Value).toArray below meth c H locs 0 0 (MQ below (hQi D ac ad S rv gv) ([.ref (ad 146), .int x1, .int x2, .int x3] : List Value).toArray s 0 0 (hAd ad S.length)) (F0 m 16 ls [])) := by
    intro n
    induction n with
    | zero =>
      intro f y4 H locs ls hw hl h
      rw [fX8_matedBy_16] at h
      cases h
    | succ n ih =>
      intro f y4 H locs ls hw hl h
      rw [fX8_matedBy_16] at h
      refine lv_iload hx hb dX8_matedBy_16 (lv_at hl 4 rfl) ?_
      refine lv_aload_n hx hb dX8_matedBy_18 rfl (lv_at hl 0 rfl) ?_
      refine h_getI hx hb hts hnX8_matedBy_X8 hown hK hw hS.1 rfl 0 (by decide) rfl hkX8_matedBy_80 dX8_matedBy_19 ?_
      refine lv_icmp_ge (tgt := 81) hx hb dX8_matedBy_22 (by decide) (fun hc1 => ?_) (fun hc1 => ?_)
      · have h := it hc1 h
        refine lv_aload_n hx hb dX8_matedBy_81 rfl (lv_at hl 0 rfl) ?_
        obtain ⟨r2, er2, h⟩ := b1_s h
        refine h_callR (va_runV (As := []) (rest := []) ⟨hx, hb, hml, hown, hts⟩ (mX8_mated l D ac ad S f r2 hS er2) (cwV 0 hts gX8_matedBy_X8_mated rfl rfl rfl (by decide +kernel) ⟨Nat.le_of_ble_eq_true rfl, Nat.le_of_ble_eq_true rfl⟩) (h_preV hK hw hS.1 rfl _) rfl rfl hl.1 rfl (lv_room (Nat.le_of_ble_eq_true rfl)) dX8_matedBy_82 ⟨Nat.le_of_ble_eq_true rfl, Nat.le_of_ble_eq_true rfl⟩) ?_
        exact h_retQ hx hb hr hlocks hw rfl (so2 h) dX8_matedBy_85
      · have h := ie hc1 h
        refine lv_iload_n hx hb dX8_matedBy_25 rfl (lv_at hl 1 rfl) ?_
        refine lv_iload hx hb dX8_matedBy_26 (lv_at hl 4 rfl) ?_
        obtain ⟨r3, er3, h⟩ := b1_s h
        refine h_callR (va_runS (As := [.int x1, .int y4]) (rest := []) ⟨hx, hb, hml, hown, hts⟩ (mX8_has l D ac ad S f x1 y4 r3  er3) (va_cwS 2 hts gX8_matedBy_X8_has rfl rfl rfl (by decide +kernel) ⟨Nat.le_of_ble_eq_true rfl, Nat.le_of_ble_eq_true rfl⟩) (h_preS hK hw _) rfl rfl hl.1 rfl (lv_room (Nat.le_of_ble_eq_true rfl)) dX8_matedBy_28 ⟨Nat.le_of_ble_eq_true rfl, Nat.le_of_ble_eq_true rfl⟩) ?_
        refine lv_if_eq (tgt := 75) hx hb dX8_matedBy_31 (by decide) (fun hc4 => ?_) (fun hc4 => ?_)
        · have h := it hc4 h
          refine lv_iinc (v := (y4 + 1)) (lv' := [(4, .int (y4 + 1)), (0, .ref (ad 146)), (1, .int x1), (2, .int x2), (3, .int x3)]) hx hb dX8_matedBy_75 hl (k := 4) rfl rfl (by decide) rfl (fun ls hl => ?_)
          refine lv_goto (tgt := 16) hx hb dX8_matedBy_78 (by decide) ?_
          exact ih f (y4 + 1) _ _ _ hw (lv_sub hl [1, 2, 3, 4, 0] rfl) h
        · have h := ie hc4 h
          refine lv_aload_n hx hb dX8_matedBy_34 rfl (lv_at hl 0 rfl) ?_
          refine lv_dup hx hb dX8_matedBy_35 rfl ?_
          refine h_getI hx hb hts hnX8_matedBy_X8 hown hK hw hS.1 rfl 26 (by decide) rfl hkX8_matedBy_248 dX8_matedBy_36 ?_
          refine lv_iload_n hx hb dX8_matedBy_39 rfl (lv_at hl 2 rfl) ?_
          refine lv_iload hx hb dX8_matedBy_40 (lv_at hl 4 rfl) ?_
          obtain ⟨r5, er5, h⟩ := b1_s h
          refine h_callR (va_runS (As := [.int x2, .int y4]) (rest := [.int (f 146 26), .ref (ad 146)]) ⟨hx, hb, hml, hown, hts⟩ (mX8_has l D ac ad S f x2 y4 r5  er5) (va_cwS 2 hts gX8_matedBy_X8_has rfl rfl rfl (by decide +kernel) ⟨Nat.le_of_ble_eq_true rfl, Nat.le_of_ble_eq_true rfl⟩) (h_preS hK hw _) rfl rfl hl.1 rfl (lv_room (Nat.le_of_ble_eq_true rfl)) dX8_matedBy_42 ⟨Nat.le_of_ble_eq_true rfl, Nat.le_of_ble_eq_true rfl⟩) ?_
          refine lv_if_eq (tgt := 52) hx hb dX8_matedBy_45 (by decide) (fun hc6 => ?_) (fun hc6 => ?_)
          · have h := it hc6 h
            refine lv_bipush (v := 10) hx hb dX8_matedBy_52 (by decide) ?_
            refine lv_iload_n hx hb dX8_matedBy_54 rfl (lv_at hl 3 rfl) ?_
            refine lv_isub hx hb dX8_matedBy_55 ?_
            exact J56 (fX8_matedBy_16 x1 x2 x3 n) ih f y4 (f 146 26) (10 - x3) _ _ _ hw (lv_sub hl [0, 1, 2, 3, 4] rfl) h
          · have h := ie hc6 h
            refine lv_iload_n hx hb dX8_matedBy_48 rfl (lv_at hl 3 rfl) ?_
            refine lv_goto (tgt := 56) hx hb dX8_matedBy_49 (by decide) ?_
            exact J56 (fX8_matedBy_16 x1 x2 x3 n) ih f y4 (f 146 26) x3 _ _ _ hw (lv_sub hl [0, 1, 2, 3, 4] rfl) h
  unfold fX8_matedBy at h
  refine lv_aload_n hx hb dX8_matedBy_0 rfl (lv_at hl 0 rfl) ?_
  obtain ⟨f1, ef1, h⟩ := b1_s h
  refine h_callV hw (va_runV (As := []) (rest := []) ⟨hx, hb, hml, hown, hts⟩ (mX8_asItIs l D ac ad S f f1 hS ef1) (cwV 0 hts gX8_matedBy_X8_asItIs rfl rfl rfl (by decide +kernel) ⟨Nat.le_of_ble_eq_true rfl, Nat.le_of_ble_eq_true rfl⟩) (h_preV hK hw hS.1 rfl _) rfl rfl hl.1 rfl (lv_room (Nat.le_of_ble_eq_true rfl)) dX8_matedBy_1 ⟨Nat.le_of_ble_eq_true rfl, Nat.le_of_ble_eq_true rfl⟩) (fun H locs hw => ?_)
  refine lv_aload_n hx hb dX8_matedBy_4 rfl (lv_at hl 0 rfl) ?_
  obtain ⟨f2, ef2, h⟩ := b1_s h
  refine h_callV hw (va_runV (As := []) (rest := []) ⟨hx, hb, hml, hown, hts⟩ (mX8_findHolds l D ac ad S f1 f2 hS ef2) (cwV 0 hts gX8_matedBy_X8_findHolds rfl rfl rfl (by decide +kernel) ⟨Nat.le_of_ble_eq_true rfl, Nat.le_of_ble_eq_true rfl⟩) (h_preV hK hw hS.1 rfl _) rfl rfl hl.1 rfl (lv_room (Nat.le_of_ble_eq_true rfl)) dX8_matedBy_5 ⟨Nat.le_of_ble_eq_true rfl, Nat.le_of_ble_eq_true rfl⟩) (fun H locs hw => ?_)
  refine lv_aload_n hx hb dX8_matedBy_8 rfl (lv_at hl 0 rfl) ?_
  refine lv_iconst (v := 1) hx hb dX8_matedBy_9 (by decide) ?_
  obtain ⟨f3, ef3, h⟩ := lt_s2 h
  refine h_putI (g := f3) ef3 hx hb hts hnX8_matedBy_X8 tyX8 tyX8_ok nmX8 hown hK hw hS.1 rfl 26 rfl (by decide) rfl hkX8_matedBy_248 rfl (by decide +kernel) dX8_matedBy_10 (fun H locs hw => ?_)
  refine lv_iconst (v := 0) hx hb dX8_matedBy_13 (by decide) ?_
  refine lv_istore (lv' := [(4, .int 0), (0, .ref (ad 146)), (1, .int x1), (2, .int x2), (3, .int x3)]) hx hb dX8_matedBy_14 hl (by decide) rfl (fun ls hl => ?_)
  exact J16 _ f3 0 _ _ _ hw (lv_sub hl [1, 2, 3, 4, 0] rfl) h
