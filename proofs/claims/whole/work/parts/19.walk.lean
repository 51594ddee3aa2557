/-! contracts: X8_nextLine X8_findHolds X8_mateBy X8_manyHold X8_linesOf X8_owes X8_person X8_blanksOf X8_parson -/
theorem hnX8_nextLine_X8 : ∀ w ∈ wsX80, w ∈ wsX8_nextLine := by decide +kernel
theorem hkX8_nextLine_50 : Cond.fieldLink RX8 50 (TX8 24).1 (TX8 24).2.1 (TX8 24).2.2.1 ∈ wsX8_nextLine := by decide +kernel
set_option maxHeartbeats 8000000 in
set_option maxRecDepth 100000 in
theorem mX8_nextLine (l : Launch) (D : va_G) (ac : Nat → ClassId) (ad : Nat → Nat) (S : List hSh) (f : hF) (rv : Int32) (hS : isMo S) (h : fX8_nextLine f = some rv) : Met l yX8_nextLine wsX8_nextLine ({ frames := 2, cells := 0, slots := 0, locals := 42 }) (hPc D ac ad S f [.ref (ad 146)]) (hRi rv) 0 0 hNo := by
  refine h_enter (C := RX8) (cc := cX8_nextLine) (maxL := 3) (ret := (some .int)) (lv := [(0, .ref (ad 146))]) (by decide) rfl rfl (Nat.le_of_ble_eq_true rfl) rfl (fun p e s m below meth c ls hx hb hml hr hlocks hown hts hK hw hl => ?_)
  have J44 : ∀ (q4 : Int32 → Int32 → Option Int32) (hq4 : (∀ (y1 : Int32) (y2 : Int32) (ls : Array Slot), lv_has ls 3 [(0, .ref (ad 146)), (1, .int y1), (2, .int y2)] → q4 y1 y2 = some rv → W p l e ({ frames := 2, cells := 0, slots := 0, locals := 42 } : Room) s m ([.ref (ad 146)] : List Value).toArray below meth c s.heap [] 0 0 (MQ below (hRi rv) ([.ref (ad 146)] : List Value).toArray s 0 0 hNo) (F0 m 4 ls []))), (∀ (y2 : Int32) (ls : Array Slot), lv_has ls 3 [(0, .ref (ad 146)), (2, .int y2)] → fX8_nextLine_44 f q4 y2 = some rv → W p l e ({ frames := 2, cells := 0, slots := 0, locals := 42 } : Room) s m ([.ref (ad 146)] : List Value).toArray below meth c s.heap [] 0 0 (MQ below (hRi rv) ([.ref (ad 146)] : List Value).toArray s 0 0 hNo) (F0 m 44 ls [])) := by
    intro q4 hq4 y2 ls hl h
    unfold fX8_nextLine_44 at h
    refine lv_iload_n hx hb dX8_nextLine_44 rfl (lv_at hl 1 rfl) ?_
    refine lv_goto (tgt := 49) hx hb dX8_nextLine_45 (by decide) ?_
    refine lv_istore_n (lv' := [(1, .int y2), (0, .ref (ad 146)), (2, .int y2)]) hx hb dX8_nextLine_49 rfl hl (by decide) rfl (fun ls hl => ?_)
    refine lv_iinc (v := (y2 + 1)) (lv' := [(2, .int (y2 + 1)), (1, .int y2), (0, .ref (ad 146))]) hx hb dX8_nextLine_50 hl (k := 2) rfl rfl (by decide) rfl (fun ls hl => ?_)
    refine lv_goto (tgt := 4) hx hb dX8_nextLine_53 (by decide) ?_
    exact hq4 y2 (y2 + 1) _ (lv_sub hl [2, 1, 0] rfl) h
  have J48 : ∀ (q4 : Int32 → Int32 → Option Int32) (hq4 : (∀ (y1 : Int32) (y2 : Int32) (ls : Array Slot), lv_has ls 3 [(0, .ref (ad 146)), (1, .int y1), (2, .int y2)] → q4 y1 y2 = some rv → W p l e ({ frames := 2, cells := 0, slots := 0, locals := 42 } : Room) s m ([.ref (ad 146)] : List Value).toArray below meth c s.heap [] 0 0 (MQ below (hRi rv) ([.ref (ad 146)] : List Value).toArray s 0 0 hNo) (F0 m 4 ls []))), (∀ (y1 : Int32) (y2 : Int32) (ls : Array Slot), lv_has ls 3 [(0, .ref (ad 146)), (1, .int y1), (2, .int y2)] → fX8_nextLine_48 f q4 y1 y2 = some rv → W p l e ({ frames := 2, cells := 0, slots := 0, locals := 42 } : Room) s m ([.ref (ad 146)] : List Value).toArray below meth c s.heap [] 0 0 (MQ below (hRi rv) ([.ref (ad 146)] : List Value).toArray s 0 0 hNo) (F0 m 48 ls [])) := by
    intro q4 hq4 y1 y2 ls hl h
    unfold fX8_nextLine_48 at h
    refine lv_iload_n hx hb dX8_nextLine_48 rfl (lv_at hl 1 rfl) ?_
    refine lv_istore_n (lv' := [(1, .int y1), (0, .ref (ad 146)), (2, .int y2)]) hx hb dX8_nextLine_49 rfl hl (by decide) rfl (fun ls hl => ?_)
    refine lv_iinc (v := (y2 + 1)) (lv' := [(2, .int (y2 + 1)), (1, .int y1), (0, .ref (ad 146))]) hx hb dX8_nextLine_50 hl (k := 2) rfl rfl (by decide) rfl (fun ls hl => ?_)
    refine lv_goto (tgt := 4) hx hb dX8_nextLine_53 (by decide) ?_
    exact hq4 y1 (y2 + 1) _ (lv_sub hl [2, 1, 0] rfl) h
  have J4 : ∀ (n : Nat), (∀ (y1 : Int32) (y2 : Int32) (ls : Array Slot), lv_has ls 3 [(0, .ref (ad 146)), (1, .int y1), (2, .int y2)] → fX8_nextLine_4 f n y1 y2 = some rv → W p l e ({ frames := 2, cells := 0, slots := 0, locals := 42 } : Room) s m ([.ref (ad 146)] : List Value).toArray below meth c s.heap [] 0 0 (MQ below (hRi rv) ([.ref (ad 146)] : List Value).toArray s 0 0 hNo) (F0 m 4 ls [])) := by
    intro n
    induction n with
    | zero =>
      intro y1 y2 ls hl h
      rw [fX8_nextLine_4] at h
      cases h
    | succ n ih =>
      intro y1 y2 ls hl h
      rw [fX8_nextLine_4] at h
      refine lv_iload_n hx hb dX8_nextLine_4 rfl (lv_at hl 2 rfl) ?_
      refine lv_bipush (v := 24) hx hb dX8_nextLine_5 (by decide) ?_
      refine lv_icmp_ge (tgt := 56) hx hb dX8_nextLine_7 (by decide) (fun hc1 => ?_) (fun hc1 => ?_)
      · have h := it hc1 h
        refine lv_iload_n hx hb dX8_nextLine_56 rfl (lv_at hl 1 rfl) ?_
        exact h_retR hx hb hr hlocks rfl (so1 h) dX8_nextLine_57
      · have h := ie hc1 h
        refine lv_aload_n hx hb dX8_nextLine_10 rfl (lv_at hl 0 rfl) ?_
        refine lv_iload_n hx hb dX8_nextLine_11 rfl (lv_at hl 2 rfl) ?_
        obtain ⟨r2, er2, h⟩ := b1_s h
        refine h_callR (va_runV (As := [.int y2]) (rest := []) ⟨hx, hb, hml, hown, hts⟩ (mX8_isOfTwo l D ac ad S f y2 r2 hS er2) (cwV 1 hts gX8_nextLine_X8_isOfTwo rfl rfl rfl (by decide +kernel) ⟨Nat.le_of_ble_eq_true rfl, Nat.le_of_ble_eq_true rfl⟩) (h_preV hK hw hS.1 rfl _) rfl rfl hl.1 rfl (lv_room (Nat.le_of_ble_eq_true rfl)) dX8_nextLine_12 ⟨Nat.le_of_ble_eq_true rfl, Nat.le_of_ble_eq_true rfl⟩) ?_
        refine lv_if_eq (tgt := 48) hx hb dX8_nextLine_15 (by decide) (fun hc3 => ?_) (fun hc3 => ?_)
        · have h := it hc3 h
          exact J48 (fX8_nextLine_4 f n) ih y1 y2 _ (lv_sub hl [0, 1, 2] rfl) h
        · have h := ie hc3 h
          refine lv_aload_n hx hb dX8_nextLine_18 rfl (lv_at hl 0 rfl) ?_
          refine h_getR hx hb hts hnX8_nextLine_X8 hown hK hw hS.1 rfl 24 (by decide) rfl hkX8_nextLine_50 dX8_nextLine_19 ?_
          refine lv_iload_n hx hb dX8_nextLine_22 rfl (lv_at hl 2 rfl) ?_
          obtain ⟨hi4, h⟩ := gd_s h
          refine h_zald hx hb hK hw hS.2.2.2.2.2.2.2.2.2.2.2.2.2.2.1 hi4 dX8_nextLine_23 ?_
          refine lv_if_ne (tgt := 48) hx hb dX8_nextLine_24 (by decide) (fun hc5 => ?_) (fun hc5 => ?_)
          · have h := ie hc5 h
            exact J48 (fX8_nextLine_4 f n) ih y1 y2 _ (lv_sub hl [0, 1, 2] rfl) h
          · have h := it hc5 h
            refine lv_iload_n hx hb dX8_nextLine_27 rfl (lv_at hl 1 rfl) ?_
            refine lv_if_lt (tgt := 44) hx hb dX8_nextLine_28 (by decide) (fun hc6 => ?_) (fun hc6 => ?_)
            · have h := it hc6 h
              exact J44 (fX8_nextLine_4 f n) ih y2 _ (lv_sub hl [0, 2] rfl) h
            · have h := ie hc6 h
              refine lv_aload_n hx hb dX8_nextLine_31 rfl (lv_at hl 0 rfl) ?_
              refine lv_iload_n hx hb dX8_nextLine_32 rfl (lv_at hl 2 rfl) ?_
              obtain ⟨r7, er7, h⟩ := b1_s h
              refine h_callR (va_runV (As := [.int y2]) (rest := []) ⟨hx, hb, hml, hown, hts⟩ (mX8_begun l D ac ad S f y2 r7 hS er7) (cwV 1 hts gX8_nextLine_X8_begun rfl rfl rfl (by decide +kernel) ⟨Nat.le_of_ble_eq_true rfl, Nat.le_of_ble_eq_true rfl⟩) (h_preV hK hw hS.1 rfl _) rfl rfl hl.1 rfl (lv_room (Nat.le_of_ble_eq_true rfl)) dX8_nextLine_33 ⟨Nat.le_of_ble_eq_true rfl, Nat.le_of_ble_eq_true rfl⟩) ?_
              refine lv_aload_n hx hb dX8_nextLine_36 rfl (lv_at hl 0 rfl) ?_
              refine lv_iload_n hx hb dX8_nextLine_37 rfl (lv_at hl 1 rfl) ?_
              obtain ⟨r8, er8, h⟩ := b1_s h
              refine h_callR (va_runV (As := [.int y1]) (rest := [.int r7]) ⟨hx, hb, hml, hown, hts⟩ (mX8_begun l D ac ad S f y1 r8 hS er8) (cwV 1 hts gX8_nextLine_X8_begun rfl rfl rfl (by decide +kernel) ⟨Nat.le_of_ble_eq_true rfl, Nat.le_of_ble_eq_true rfl⟩) (h_preV hK hw hS.1 rfl _) rfl rfl hl.1 rfl (lv_room (Nat.le_of_ble_eq_true rfl)) dX8_nextLine_38 ⟨Nat.le_of_ble_eq_true rfl, Nat.le_of_ble_eq_true rfl⟩) ?_
              refine lv_icmp_ge (tgt := 48) hx hb dX8_nextLine_41 (by decide) (fun hc9 => ?_) (fun hc9 => ?_)
              · have h := it hc9 h
                exact J48 (fX8_nextLine_4 f n) ih y1 y2 _ (lv_sub hl [0, 1, 2] rfl) h
              · have h := ie hc9 h
                exact J44 (fX8_nextLine_4 f n) ih y2 _ (lv_sub hl [0, 2] rfl) h
  unfold fX8_nextLine at h
  refine lv_iconst (v := (-1)) hx hb dX8_nextLine_0 (by decide) ?_
  refine lv_istore_n (lv' := [(1, .int (-1)), (0, .ref (ad 146))]) hx hb dX8_nextLine_1 rfl hl (by decide) rfl (fun ls hl => ?_)
  refine lv_iconst (v := 0) hx hb dX8_nextLine_2 (by decide) ?_
  refine lv_istore_n (lv' := [(2, .int 0), (1, .int (-1)), (0, .ref (ad 146))]) hx hb dX8_nextLine_3 rfl hl (by decide) rfl (fun ls hl => ?_)
  exact J4 _ (-1) 0 _ (lv_sub hl [2, 1, 0] rfl) h

theorem hnX8_findHolds_X8 : ∀ w ∈ wsX80, w ∈ wsX8_findHolds := by decide +kernel
theorem hkX8_findHolds_46 : Cond.fieldLink RX8 46 (TX8 23).1 (TX8 23).2.1 (TX8 23).2.2.1 ∈ wsX8_findHolds := by decide +kernel
theorem hkX8_findHolds_50 : Cond.fieldLink RX8 50 (TX8 24).1 (TX8 24).2.1 (TX8 24).2.2.1 ∈ wsX8_findHolds := by decide +kernel
set_option maxHeartbeats 8000000 in
set_option maxRecDepth 100000 in
theorem mX8_findHolds (l : Launch) (D : va_G) (ac : Nat → ClassId) (ad : Nat → Nat) (S : List hSh) (f : hF) (gv : hF) (hS : isMo S) (h : fX8_findHolds f = some gv) : Met l yX8_findHolds wsX8_findHolds ({ frames := 3, cells := 0, slots := 0, locals := 64 }) (hPc D ac ad S f [.ref (ad 146)]) (hQv D ac ad S gv) 0 0 (hAd ad S.length) := by
  refine h_enter (C := RX8) (cc := cX8_findHolds) (maxL := 4) (ret := none) (lv := [(0, .ref (ad 146))]) (by decide) rfl rfl (Nat.le_of_ble_eq_true rfl) rfl (fun p e s m below meth c ls hx hb hml hr hlocks hown hts hK hw hl => ?_)
  have J94 : ∀ (q35 : hF → Int32 → Int32 → Option hF) (hq35 : (∀ (f : hF) (y1 : Int32) (y2 : Int32) (H : Heap) (locs : List Loc) (ls : Array Slot), hOk D ac ad S (hAd ad S.length) s.heap f H locs → lv_has ls 4 [(0, .ref (ad 146)), (1, .int y1), (2, .int y2)] → q35 f y1 y2 = some gv → W p l e ({ frames := 3, cells := 0, slots := 0, locals := 64 } : Room) s m ([.ref (ad 146)] : List Value).toArray below meth c H locs 0 0 (MQ below (hQv D ac ad S gv) ([.ref (ad 146)] : List Value).toArray s 0 0 (hAd ad S.length)) (F0 m 35 ls []))), (∀ (f : hF) (s0 : Int32) (s1 : Int32) (H : Heap) (locs : List Loc) (ls : Array Slot), hOk D ac ad S (hAd ad S.length) s.heap f H locs → lv_has ls 4 [(0, .ref (ad 146))] → fX8_findHolds_94 q35 f s0 s1 = some gv → W p l e ({ frames := 3, cells := 0, slots := 0, locals := 64 } : Room) s m ([.ref (ad 146)] : List Value).toArray below meth c H locs 0 0 (MQ below (hQv D ac ad S gv) ([.ref (ad 146)] : List Value).toArray s 0 0 (hAd ad S.length)) (F0 m 94 ls [.int s1, .int s0])) := by
    intro q35 hq35 f s0 s1 H locs ls hw hl h
    unfold fX8_findHolds_94 at h
    refine lv_ior hx hb dX8_findHolds_94 ?_
    refine lv_istore_n (lv' := [(1, .int (s0 ||| s1)), (0, .ref (ad 146))]) hx hb dX8_findHolds_95 rfl hl (by decide) rfl (fun ls hl => ?_)
    refine lv_aload_n hx hb dX8_findHolds_96 rfl (lv_at hl 1 rfl) ?_
    obtain ⟨r1, er1, h⟩ := b1_s h
    refine h_callR (va_runV (As := []) (rest := []) ⟨hx, hb, hml, hown, hts⟩ (mX8_nextLine l D ac ad S f r1 hS er1) (cwV 0 hts gX8_findHolds_X8_nextLine rfl rfl rfl (by decide +kernel) ⟨Nat.le_of_ble_eq_true rfl, Nat.le_of_ble_eq_true rfl⟩) (h_preV hK hw hS.1 rfl _) rfl rfl hl.1 rfl (lv_room (Nat.le_of_ble_eq_true rfl)) dX8_findHolds_97 ⟨Nat.le_of_ble_eq_true rfl, Nat.le_of_ble_eq_true rfl⟩) ?_
    refine lv_istore_n (lv' := [(2, .int r1), (1, .int (s0 ||| s1)), (0, .ref (ad 146))]) hx hb dX8_findHolds_100 rfl hl (by decide) rfl (fun ls hl => ?_)
    refine lv_goto (tgt := 35) hx hb dX8_findHolds_101 (by decide) ?_
    exact hq35 f (s0 ||| s1) r1 _ _ _ hw (lv_sub hl [2, 1, 0] rfl) h
  have J78 : ∀ (q35 : hF → Int32 → Int32 → Option hF) (hq35 : (∀ (f : hF) (y1 : Int32) (y2 : Int32) (H : Heap) (locs : List Loc) (ls : Array Slot), hOk D ac ad S (hAd ad S.length) s.heap f H locs → lv_has ls 4 [(0, .ref (ad 146)), (1, .int y1), (2, .int y2)] → q35 f y1 y2 = some gv → W p l e ({ frames := 3, cells := 0, slots := 0, locals := 64 } : Room) s m ([.ref (ad 146)] : List Value).toArray below meth c H locs 0 0 (MQ below (hQv D ac ad S gv) ([.ref (ad 146)] : List Value).toArray s 0 0 (hAd ad S.length)) (F0 m 35 ls []))), (∀ (f : hF) (y1 : Int32) (y2 : Int32) (y3 : Int32) (s1 : Int32) (s2 : Int32) (H : Heap) (locs : List Loc) (ls : Array Slot), hOk D ac ad S (hAd ad S.length) s.heap f H locs → lv_has ls 4 [(0, .ref (ad 146)), (1, .int y1), (2, .int y2), (3, .int y3)] → fX8_findHolds_78 q35 f y1 y2 y3 s1 s2 = some gv → W p l e ({ frames := 3, cells := 0, slots := 0, locals := 64 } : Room) s m ([.ref (ad 146)] : List Value).toArray below meth c H locs 0 0 (MQ below (hQv D ac ad S gv) ([.ref (ad 146)] : List Value).toArray s 0 0 (hAd ad S.length)) (F0 m 78 ls [.int s2, .int s1, .ref (ad 159)])) := by
    intro q35 hq35 f y1 y2 y3 s1 s2 H locs ls hw hl h
    unfold fX8_findHolds_78 at h
    obtain ⟨hi1, h⟩ := gd_s h
    obtain ⟨f2, ef2, h⟩ := lt_s2 h
    refine h_zast (g := f2) ef2 hx hb hK hw hS.2.2.2.2.2.2.2.2.2.2.2.2.2.1 hi1 dX8_findHolds_78 (fun H locs hw => ?_)
    refine lv_iload_n hx hb dX8_findHolds_79 rfl (lv_at hl 1 rfl) ?_
    refine lv_aload_n hx hb dX8_findHolds_80 rfl (lv_at hl 0 rfl) ?_
    refine h_getR hx hb hts hnX8_findHolds_X8 hown hK hw hS.1 rfl 23 (by decide) rfl hkX8_findHolds_46 dX8_findHolds_81 ?_
    refine lv_iload_n hx hb dX8_findHolds_84 rfl (lv_at hl 2 rfl) ?_
    obtain ⟨hi3, h⟩ := gd_s h
    refine h_zald hx hb hK hw hS.2.2.2.2.2.2.2.2.2.2.2.2.2.1 hi3 dX8_findHolds_85 ?_
    refine lv_if_eq (tgt := 93) hx hb dX8_findHolds_86 (by decide) (fun hc4 => ?_) (fun hc4 => ?_)
    · have h := it hc4 h
      refine lv_iconst (v := 0) hx hb dX8_findHolds_93 (by decide) ?_
      exact J94 q35 hq35 f2 y1 0 _ _ _ hw (lv_sub hl [0] rfl) h
    · have h := ie hc4 h
      refine lv_iload_n hx hb dX8_findHolds_89 rfl (lv_at hl 3 rfl) ?_
      refine lv_goto (tgt := 94) hx hb dX8_findHolds_90 (by decide) ?_
      exact J94 q35 hq35 f2 y1 y3 _ _ _ hw (lv_sub hl [0] rfl) h
  have J35 : ∀ (n : Nat), (∀ (f : hF) (y1 : Int32) (y2 : Int32) (H : Heap) (locs : List Loc) (ls : Array Slot), hOk D ac ad S (hAd ad S.length) s.heap f H locs → lv_has ls 4 [(0, .ref (ad 146)), (1, .int y1), (2, .int y2)] → fX8_findHolds_35 n f y1 y2 = some gv → W p l e ({ frames := 3, cells := 0, slots := 0, locals := 64 } : Room) s m ([.ref (ad 146)] : List Value).toArray below meth c H locs 0 0 (MQ below (hQv D ac ad S gv) ([.ref (ad 146)] : List Value).toArray s 0 0 (hAd ad S.length)) (F0 m 35 ls [])) := by
    intro n
    induction n with
    | zero =>
      intro f y1 y2 H locs ls hw hl h
      rw [fX8_findHolds_35] at h
      cases h
    | succ n ih =>
      intro f y1 y2 H locs ls hw hl h
      rw [fX8_findHolds_35] at h
      refine lv_iload_n hx hb dX8_findHolds_35 rfl (lv_at hl 2 rfl) ?_
      refine lv_if_lt (tgt := 104) hx hb dX8_findHolds_36 (by decide) (fun hc1 => ?_) (fun hc1 => ?_)
      · have h := it hc1 h
        exact h_retV hx hb hr hlocks hw (so1 h) dX8_findHolds_104
      · have h := ie hc1 h
        refine lv_aload_n hx hb dX8_findHolds_39 rfl (lv_at hl 0 rfl) ?_
        refine h_getR hx hb hts hnX8_findHolds_X8 hown hK hw hS.1 rfl 24 (by decide) rfl hkX8_findHolds_50 dX8_findHolds_40 ?_
        refine lv_iload_n hx hb dX8_findHolds_43 rfl (lv_at hl 2 rfl) ?_
        refine lv_iconst (v := 1) hx hb dX8_findHolds_44 (by decide) ?_
        obtain ⟨hi2, h⟩ := gd_s h
        obtain ⟨f3, ef3, h⟩ := lt_s2 h
        refine h_zast (g := f3) ef3 hx hb hK hw hS.2.2.2.2.2.2.2.2.2.2.2.2.2.2.1 hi2 dX8_findHolds_45 (fun H locs hw => ?_)
        refine lv_iconst (v := 1) hx hb dX8_findHolds_46 (by decide) ?_
        refine lv_aload_n hx hb dX8_findHolds_47 rfl (lv_at hl 0 rfl) ?_
        refine lv_iload_n hx hb dX8_findHolds_48 rfl (lv_at hl 2 rfl) ?_
        obtain ⟨r4, er4, h⟩ := b1_s h
        refine h_callR (va_runV (As := [.int y2]) (rest := [.int 1]) ⟨hx, hb, hml, hown, hts⟩ (mX8_manOf l D ac ad S f3 y2 r4 hS er4) (cwV 1 hts gX8_findHolds_X8_manOf rfl rfl rfl (by decide +kernel) ⟨Nat.le_of_ble_eq_true rfl, Nat.le_of_ble_eq_true rfl⟩) (h_preV hK hw hS.1 rfl _) rfl rfl hl.1 rfl (lv_room (Nat.le_of_ble_eq_true rfl)) dX8_findHolds_49 ⟨Nat.le_of_ble_eq_true rfl, Nat.le_of_ble_eq_true rfl⟩) ?_
        refine lv_ishl hx hb dX8_findHolds_52 ?_
        refine lv_iconst (v := 1) hx hb dX8_findHolds_53 (by decide) ?_
        refine lv_aload_n hx hb dX8_findHolds_54 rfl (lv_at hl 0 rfl) ?_
        refine lv_iload_n hx hb dX8_findHolds_55 rfl (lv_at hl 2 rfl) ?_
        obtain ⟨r5, er5, h⟩ := b1_s h
        refine h_callR (va_runV (As := [.int y2]) (rest := [.int 1, .int (1 <<< (r4 &&& 31))]) ⟨hx, hb, hml, hown, hts⟩ (mX8_womanOf l D ac ad S f3 y2 r5 hS er5) (cwV 1 hts gX8_findHolds_X8_womanOf rfl rfl rfl (by decide +kernel) ⟨Nat.le_of_ble_eq_true rfl, Nat.le_of_ble_eq_true rfl⟩) (h_preV hK hw hS.1 rfl _) rfl rfl hl.1 rfl (lv_room (Nat.le_of_ble_eq_true rfl)) dX8_findHolds_56 ⟨Nat.le_of_ble_eq_true rfl, Nat.le_of_ble_eq_true rfl⟩) ?_
        refine lv_ishl hx hb dX8_findHolds_59 ?_
        refine lv_ior hx hb dX8_findHolds_60 ?_
        refine lv_istore_n (lv' := [(3, .int ((1 <<< (r4 &&& 31)) ||| (1 <<< (r5 &&& 31)))), (0, .ref (ad 146)), (1, .int y1), (2, .int y2)]) hx hb dX8_findHolds_61 rfl hl (by decide) rfl (fun ls hl => ?_)
        refine lv_aload_n hx hb dX8_findHolds_62 rfl (lv_at hl 1 rfl) ?_
        refine h_getR hx hb hts hnX8_findHolds_X8 hown hK hw hS.1 rfl 23 (by decide) rfl hkX8_findHolds_46 dX8_findHolds_63 ?_
        refine lv_iload_n hx hb dX8_findHolds_66 rfl (lv_at hl 3 rfl) ?_
        refine lv_iload_n hx hb dX8_findHolds_67 rfl (lv_at hl 2 rfl) ?_
        refine lv_iload_n hx hb dX8_findHolds_68 rfl (lv_at hl 0 rfl) ?_
        refine lv_iand hx hb dX8_findHolds_69 ?_
        refine lv_if_ne (tgt := 77) hx hb dX8_findHolds_70 (by decide) (fun hc6 => ?_) (fun hc6 => ?_)
        · have h := ie hc6 h
          refine lv_iconst (v := 0) hx hb dX8_findHolds_77 (by decide) ?_
          exact J78 (fX8_findHolds_35 n) ih f3 y1 y2 ((1 <<< (r4 &&& 31)) ||| (1 <<< (r5 &&& 31))) y2 0 _ _ _ hw (lv_sub hl [1, 2, 3, 0] rfl) h
        · have h := it hc6 h
          refine lv_iconst (v := 1) hx hb dX8_findHolds_73 (by decide) ?_
          refine lv_goto (tgt := 78) hx hb dX8_findHolds_74 (by decide) ?_
          exact J78 (fX8_findHolds_35 n) ih f3 y1 y2 ((1 <<< (r4 &&& 31)) ||| (1 <<< (r5 &&& 31))) y2 1 _ _ _ hw (lv_sub hl [1, 2, 3, 0] rfl) h
  have J2 : ∀ (n : Nat), (∀ (f : hF) (y1 : Int32) (H : Heap) (locs : List Loc) (ls : Array Slot), hOk D ac ad S (hAd ad S.length) s.heap f H locs → lv_has ls 4 [(0, .ref (ad 146)), (1, .int y1)] → fX8_findHolds_2 n f y1 = some gv → W p l e ({ frames := 3, cells := 0, slots := 0, locals := 64 } : Room) s m ([.ref (ad 146)] : List Value).toArray below meth c H locs 0 0 (MQ below (hQv D ac ad S gv) ([.ref (ad 146)] : List Value).toArray s 0 0 (hAd ad S.length)) (F0 m 2 ls [])) := by
    intro n
    induction n with
    | zero =>
      intro f y1 H locs ls hw hl h
      rw [fX8_findHolds_2] at h
      cases h
    | succ n ih =>
      intro f y1 H locs ls hw hl h
      rw [fX8_findHolds_2] at h
      refine lv_iload_n hx hb dX8_findHolds_2 rfl (lv_at hl 1 rfl) ?_
      refine lv_bipush (v := 24) hx hb dX8_findHolds_3 (by decide) ?_
      refine lv_icmp_ge (tgt := 28) hx hb dX8_findHolds_5 (by decide) (fun hc1 => ?_) (fun hc1 => ?_)
      · have h := it hc1 h
        refine lv_iconst (v := 0) hx hb dX8_findHolds_28 (by decide) ?_
        refine lv_istore_n (lv' := [(1, .int 0), (0, .ref (ad 146))]) hx hb dX8_findHolds_29 rfl hl (by decide) rfl (fun ls hl => ?_)
        refine lv_aload_n hx hb dX8_findHolds_30 rfl (lv_at hl 1 rfl) ?_
        obtain ⟨r2, er2, h⟩ := b1_s h
        refine h_callR (va_runV (As := []) (rest := []) ⟨hx, hb, hml, hown, hts⟩ (mX8_nextLine l D ac ad S f r2 hS er2) (cwV 0 hts gX8_findHolds_X8_nextLine rfl rfl rfl (by decide +kernel) ⟨Nat.le_of_ble_eq_true rfl, Nat.le_of_ble_eq_true rfl⟩) (h_preV hK hw hS.1 rfl _) rfl rfl hl.1 rfl (lv_room (Nat.le_of_ble_eq_true rfl)) dX8_findHolds_31 ⟨Nat.le_of_ble_eq_true rfl, Nat.le_of_ble_eq_true rfl⟩) ?_
        refine lv_istore_n (lv' := [(2, .int r2), (1, .int 0), (0, .ref (ad 146))]) hx hb dX8_findHolds_34 rfl hl (by decide) rfl (fun ls hl => ?_)
        exact J35 _ f 0 r2 _ _ _ hw (lv_sub hl [2, 1, 0] rfl) h
      · have h := ie hc1 h
        refine lv_aload_n hx hb dX8_findHolds_8 rfl (lv_at hl 0 rfl) ?_
        refine h_getR hx hb hts hnX8_findHolds_X8 hown hK hw hS.1 rfl 23 (by decide) rfl hkX8_findHolds_46 dX8_findHolds_9 ?_
        refine lv_iload_n hx hb dX8_findHolds_12 rfl (lv_at hl 1 rfl) ?_
        refine lv_iconst (v := 0) hx hb dX8_findHolds_13 (by decide) ?_
        obtain ⟨hi3, h⟩ := gd_s h
        obtain ⟨f4, ef4, h⟩ := lt_s2 h
        refine h_zast (g := f4) ef4 hx hb hK hw hS.2.2.2.2.2.2.2.2.2.2.2.2.2.1 hi3 dX8_findHolds_14 (fun H locs hw => ?_)
        refine lv_aload_n hx hb dX8_findHolds_15 rfl (lv_at hl 0 rfl) ?_
        refine h_getR hx hb hts hnX8_findHolds_X8 hown hK hw hS.1 rfl 24 (by decide) rfl hkX8_findHolds_50 dX8_findHolds_16 ?_
        refine lv_iload_n hx hb dX8_findHolds_19 rfl (lv_at hl 1 rfl) ?_
        refine lv_iconst (v := 0) hx hb dX8_findHolds_20 (by decide) ?_
        obtain ⟨hi5, h⟩ := gd_s h
        obtain ⟨f6, ef6, h⟩ := lt_s2 h
        refine h_zast (g := f6) ef6 hx hb hK hw hS.2.2.2.2.2.2.2.2.2.2.2.2.2.2.1 hi5 dX8_findHolds_21 (fun H locs hw => ?_)
        refine lv_iinc (v := (y1 + 1)) (lv' := [(1, .int (y1 + 1)), (0, .ref (ad 146))]) hx hb dX8_findHolds_22 hl (k := 1) rfl rfl (by decide) rfl (fun ls hl => ?_)
        refine lv_goto (tgt := 2) hx hb dX8_findHolds_25 (by decide) ?_
        exact ih f6 (y1 + 1) _ _ _ hw (lv_sub hl [1, 0] rfl) h
  unfold fX8_findHolds at h
  refine lv_iconst (v := 0) hx hb dX8_findHolds_0 (by decide) ?_
  refine lv_istore_n (lv' := [(1, .int 0), (0, .ref (ad 146))]) hx hb dX8_findHolds_1 rfl hl (by decide) rfl (fun ls hl => ?_)
  exact J2 _ f 0 _ _ _ hw (lv_sub hl [1, 0] rfl) h

theorem hnX8_mateBy_X8 : ∀ w ∈ wsX80, w ∈ wsX8_mateBy := by decide +kernel
theorem hkX8_mateBy_46 : Cond.fieldLink RX8 46 (TX8 23).1 (TX8 23).2.1 (TX8 23).2.2.1 ∈ wsX8_mateBy := by decide +kernel
set_option maxHeartbeats 8000000 in
set_option maxRecDepth 100000 in
theorem mX8_mateBy (l : Launch) (D : va_G) (ac : Nat → ClassId) (ad : Nat → Nat) (S : List hSh) (f : hF) (x1 : Int32) (x2 : Int32) (rv : Int32) (hS : isMo S) (h : fX8_mateBy f x1 x2 = some rv) : Met l yX8_mateBy wsX8_mateBy ({ frames := 1, cells := 0, slots := 0, locals := 21 }) (hPc D ac ad S f [.ref (ad 146), .int x1, .int x2]) (hRi rv) 0 0 hNo := by
  refine h_enter (C := RX8) (cc := cX8_mateBy) (maxL := 6) (ret := (some .int)) (lv := [(0, .ref (ad 146)), (1, .int x1), (2, .int x2)]) (by decide) rfl rfl (Nat.le_of_ble_eq_true rfl) rfl (fun p e s m below meth c ls hx hb hml hr hlocks hown hts hK hw hl => ?_)
  have J88 : ∀ (q6 : Int32 → Int32 → Option Int32) (hq6 : (∀ (y3 : Int32) (y4 : Int32) (ls : Array Slot), lv_has ls 6 [(0, .ref (ad 146)), (1, .int x1), (2, .int x2), (3, .int y3), (4, .int y4)] → q6 y3 y4 = some rv → W p l e ({ frames := 1, cells := 0, slots := 0, locals := 21 } : Room) s m ([.ref (ad 146), .int x1, .int x2] : List Value).toArray below meth c s.heap [] 0 0 (MQ below (hRi rv) ([.ref (ad 146), .int x1, .int x2] : List Value).toArray s 0 0 hNo) (F0 m 6 ls []))), (∀ (y3 : Int32) (y4 : Int32) (ls : Array Slot), lv_has ls 6 [(0, .ref (ad 146)), (1, .int x1), (2, .int x2), (3, .int y3), (4, .int y4)] → fX8_mateBy_88 f x1 x2 q6 y3 y4 = some rv → W p l e ({ frames := 1, cells := 0, slots := 0, locals := 21 } : Room) s m ([.ref (ad 146), .int x1, .int x2] : List Value).toArray below meth c s.heap [] 0 0 (MQ below (hRi rv) ([.ref (ad 146), .int x1, .int x2] : List Value).toArray s 0 0 hNo) (F0 m 88 ls [])) := by
    intro q6 hq6 y3 y4 ls hl h
    unfold fX8_mateBy_88 at h
    refine lv_iload_n hx hb dX8_mateBy_88 rfl (lv_at hl 3 rfl) ?_
    refine lv_istore_n (lv' := [(3, .int y3), (0, .ref (ad 146)), (1, .int x1), (2, .int x2), (4, .int y4)]) hx hb dX8_mateBy_89 rfl hl (by decide) rfl (fun ls hl => ?_)
    refine lv_iinc (v := (y4 + 1)) (lv' := [(4, .int (y4 + 1)), (3, .int y3), (0, .ref (ad 146)), (1, .int x1), (2, .int x2)]) hx hb dX8_mateBy_90 hl (k := 4) rfl rfl (by decide) rfl (fun ls hl => ?_)
    refine lv_goto (tgt := 6) hx hb dX8_mateBy_93 (by decide) ?_
    exact hq6 y3 (y4 + 1) _ (lv_sub hl [2, 3, 4, 1, 0] rfl) h
  have J64 : ∀ (q6 : Int32 → Int32 → Option Int32) (hq6 : (∀ (y3 : Int32) (y4 : Int32) (ls : Array Slot), lv_has ls 6 [(0, .ref (ad 146)), (1, .int x1), (2, .int x2), (3, .int y3), (4, .int y4)] → q6 y3 y4 = some rv → W p l e ({ frames := 1, cells := 0, slots := 0, locals := 21 } : Room) s m ([.ref (ad 146), .int x1, .int x2] : List Value).toArray below meth c s.heap [] 0 0 (MQ below (hRi rv) ([.ref (ad 146), .int x1, .int x2] : List Value).toArray s 0 0 hNo) (F0 m 6 ls []))), (∀ (y3 : Int32) (y4 : Int32) (y5 : Int32) (ls : Array Slot), lv_has ls 6 [(0, .ref (ad 146)), (1, .int x1), (2, .int x2), (3, .int y3), (4, .int y4), (5, .int y5)] → fX8_mateBy_64 f x1 x2 q6 y3 y4 y5 = some rv → W p l e ({ frames := 1, cells := 0, slots := 0, locals := 21 } : Room) s m ([.ref (ad 146), .int x1, .int x2] : List Value).toArray below meth c s.heap [] 0 0 (MQ below (hRi rv) ([.ref (ad 146), .int x1, .int x2] : List Value).toArray s 0 0 hNo) (F0 m 64 ls [])) := by
    intro q6 hq6 y3 y4 y5 ls hl h
    unfold fX8_mateBy_64 at h
    refine lv_iload hx hb dX8_mateBy_64 (lv_at hl 5 rfl) ?_
    refine lv_if_eq (tgt := 88) hx hb dX8_mateBy_66 (by decide) (fun hc1 => ?_) (fun hc1 => ?_)
    · have h := it hc1 h
      exact J88 q6 hq6 y3 y4 _ (lv_sub hl [0, 1, 2, 3, 4] rfl) h
    · have h := ie hc1 h
      refine lv_aload_n hx hb dX8_mateBy_69 rfl (lv_at hl 0 rfl) ?_
      refine lv_iload hx hb dX8_mateBy_70 (lv_at hl 4 rfl) ?_
      obtain ⟨r2, er2, h⟩ := b1_s h
      refine h_callR (va_runV (As := [.int y4]) (rest := []) ⟨hx, hb, hml, hown, hts⟩ (mX8_womanOf l D ac ad S f y4 r2 hS er2) (cwV 1 hts gX8_mateBy_X8_womanOf rfl rfl rfl (by decide +kernel) ⟨Nat.le_of_ble_eq_true rfl, Nat.le_of_ble_eq_true rfl⟩) (h_preV hK hw hS.1 rfl _) rfl rfl hl.1 rfl (lv_room (Nat.le_of_ble_eq_true rfl)) dX8_mateBy_72 ⟨Nat.le_of_ble_eq_true rfl, Nat.le_of_ble_eq_true rfl⟩) ?_
      refine lv_iload_n hx hb dX8_mateBy_75 rfl (lv_at hl 1 rfl) ?_
      refine lv_icmp_ne (tgt := 88) hx hb dX8_mateBy_76 (by decide) (fun hc3 => ?_) (fun hc3 => ?_)
      · have h := ie hc3 h
        exact J88 q6 hq6 y3 y4 _ (lv_sub hl [0, 1, 2, 3, 4] rfl) h
      · have h := it hc3 h
        refine lv_aload_n hx hb dX8_mateBy_79 rfl (lv_at hl 0 rfl) ?_
        refine lv_iload hx hb dX8_mateBy_80 (lv_at hl 4 rfl) ?_
        obtain ⟨r4, er4, h⟩ := b1_s h
        refine h_callR (va_runV (As := [.int y4]) (rest := []) ⟨hx, hb, hml, hown, hts⟩ (mX8_manOf l D ac ad S f y4 r4 hS er4) (cwV 1 hts gX8_mateBy_X8_manOf rfl rfl rfl (by decide +kernel) ⟨Nat.le_of_ble_eq_true rfl, Nat.le_of_ble_eq_true rfl⟩) (h_preV hK hw hS.1 rfl _) rfl rfl hl.1 rfl (lv_room (Nat.le_of_ble_eq_true rfl)) dX8_mateBy_82 ⟨Nat.le_of_ble_eq_true rfl, Nat.le_of_ble_eq_true rfl⟩) ?_
        refine lv_goto (tgt := 89) hx hb dX8_mateBy_85 (by decide) ?_
        refine lv_istore_n (lv' := [(3, .int r4), (0, .ref (ad 146)), (1, .int x1), (2, .int x2), (4, .int y4), (5, .int y5)]) hx hb dX8_mateBy_89 rfl hl (by decide) rfl (fun ls hl => ?_)
        refine lv_iinc (v := (y4 + 1)) (lv' := [(4, .int (y4 + 1)), (3, .int r4), (0, .ref (ad 146)), (1, .int x1), (2, .int x2), (5, .int y5)]) hx hb dX8_mateBy_90 hl (k := 4) rfl rfl (by decide) rfl (fun ls hl => ?_)
        refine lv_goto (tgt := 6) hx hb dX8_mateBy_93 (by decide) ?_
        exact hq6 r4 (y4 + 1) _ (lv_sub hl [2, 3, 4, 1, 0] rfl) h
  have J38 : ∀ (q6 : Int32 → Int32 → Option Int32) (hq6 : (∀ (y3 : Int32) (y4 : Int32) (ls : Array Slot), lv_has ls 6 [(0, .ref (ad 146)), (1, .int x1), (2, .int x2), (3, .int y3), (4, .int y4)] → q6 y3 y4 = some rv → W p l e ({ frames := 1, cells := 0, slots := 0, locals := 21 } : Room) s m ([.ref (ad 146), .int x1, .int x2] : List Value).toArray below meth c s.heap [] 0 0 (MQ below (hRi rv) ([.ref (ad 146), .int x1, .int x2] : List Value).toArray s 0 0 hNo) (F0 m 6 ls []))), (∀ (y3 : Int32) (y4 : Int32) (s0 : Int32) (ls : Array Slot), lv_has ls 6 [(0, .ref (ad 146)), (1, .int x1), (2, .int x2), (3, .int y3), (4, .int y4)] → fX8_mateBy_38 f x1 x2 q6 y3 y4 s0 = some rv → W p l e ({ frames := 1, cells := 0, slots := 0, locals := 21 } : Room) s m ([.ref (ad 146), .int x1, .int x2] : List Value).toArray below meth c s.heap [] 0 0 (MQ below (hRi rv) ([.ref (ad 146), .int x1, .int x2] : List Value).toArray s 0 0 hNo) (F0 m 38 ls [.int s0])) := by
    intro q6 hq6 y3 y4 s0 ls hl h
    unfold fX8_mateBy_38 at h
    refine lv_istore (lv' := [(5, .int s0), (0, .ref (ad 146)), (1, .int x1), (2, .int x2), (3, .int y3), (4, .int y4)]) hx hb dX8_mateBy_38 hl (by decide) rfl (fun ls hl => ?_)
    refine lv_iload hx hb dX8_mateBy_40 (lv_at hl 0 rfl) ?_
    refine lv_if_eq (tgt := 64) hx hb dX8_mateBy_42 (by decide) (fun hc1 => ?_) (fun hc1 => ?_)
    · have h := it hc1 h
      exact J64 q6 hq6 y3 y4 s0 _ (lv_sub hl [1, 2, 3, 4, 5, 0] rfl) h
    · have h := ie hc1 h
      refine lv_aload_n hx hb dX8_mateBy_45 rfl (lv_at hl 1 rfl) ?_
      refine lv_iload hx hb dX8_mateBy_46 (lv_at hl 5 rfl) ?_
      obtain ⟨r2, er2, h⟩ := b1_s h
      refine h_callR (va_runV (As := [.int y4]) (rest := []) ⟨hx, hb, hml, hown, hts⟩ (mX8_manOf l D ac ad S f y4 r2 hS er2) (cwV 1 hts gX8_mateBy_X8_manOf rfl rfl rfl (by decide +kernel) ⟨Nat.le_of_ble_eq_true rfl, Nat.le_of_ble_eq_true rfl⟩) (h_preV hK hw hS.1 rfl _) rfl rfl hl.1 rfl (lv_room (Nat.le_of_ble_eq_true rfl)) dX8_mateBy_48 ⟨Nat.le_of_ble_eq_true rfl, Nat.le_of_ble_eq_true rfl⟩) ?_
      refine lv_iload_n hx hb dX8_mateBy_51 rfl (lv_at hl 2 rfl) ?_
      refine lv_icmp_ne (tgt := 64) hx hb dX8_mateBy_52 (by decide) (fun hc3 => ?_) (fun hc3 => ?_)
      · have h := ie hc3 h
        exact J64 q6 hq6 y3 y4 s0 _ (lv_sub hl [1, 2, 3, 4, 5, 0] rfl) h
      · have h := it hc3 h
        refine lv_aload_n hx hb dX8_mateBy_55 rfl (lv_at hl 1 rfl) ?_
        refine lv_iload hx hb dX8_mateBy_56 (lv_at hl 5 rfl) ?_
        obtain ⟨r4, er4, h⟩ := b1_s h
        refine h_callR (va_runV (As := [.int y4]) (rest := []) ⟨hx, hb, hml, hown, hts⟩ (mX8_womanOf l D ac ad S f y4 r4 hS er4) (cwV 1 hts gX8_mateBy_X8_womanOf rfl rfl rfl (by decide +kernel) ⟨Nat.le_of_ble_eq_true rfl, Nat.le_of_ble_eq_true rfl⟩) (h_preV hK hw hS.1 rfl _) rfl rfl hl.1 rfl (lv_room (Nat.le_of_ble_eq_true rfl)) dX8_mateBy_58 ⟨Nat.le_of_ble_eq_true rfl, Nat.le_of_ble_eq_true rfl⟩) ?_
        refine lv_goto (tgt := 89) hx hb dX8_mateBy_61 (by decide) ?_
        refine lv_istore_n (lv' := [(3, .int r4), (5, .int s0), (0, .ref (ad 146)), (1, .int x1), (2, .int x2), (4, .int y4)]) hx hb dX8_mateBy_89 rfl hl (by decide) rfl (fun ls hl => ?_)
        refine lv_iinc (v := (y4 + 1)) (lv' := [(4, .int (y4 + 1)), (3, .int r4), (5, .int s0), (0, .ref (ad 146)), (1, .int x1), (2, .int x2)]) hx hb dX8_mateBy_90 hl (k := 5) rfl rfl (by decide) rfl (fun ls hl => ?_)
        refine lv_goto (tgt := 6) hx hb dX8_mateBy_93 (by decide) ?_
        exact hq6 r4 (y4 + 1) _ (lv_sub hl [3, 4, 5, 1, 0] rfl) h
  have J37 : ∀ (q6 : Int32 → Int32 → Option Int32) (hq6 : (∀ (y3 : Int32) (y4 : Int32) (ls : Array Slot), lv_has ls 6 [(0, .ref (ad 146)), (1, .int x1), (2, .int x2), (3, .int y3), (4, .int y4)] → q6 y3 y4 = some rv → W p l e ({ frames := 1, cells := 0, slots := 0, locals := 21 } : Room) s m ([.ref (ad 146), .int x1, .int x2] : List Value).toArray below meth c s.heap [] 0 0 (MQ below (hRi rv) ([.ref (ad 146), .int x1, .int x2] : List Value).toArray s 0 0 hNo) (F0 m 6 ls []))), (∀ (y3 : Int32) (y4 : Int32) (ls : Array Slot), lv_has ls 6 [(0, .ref (ad 146)), (1, .int x1), (2, .int x2), (3, .int y3), (4, .int y4)] → fX8_mateBy_37 f x1 x2 q6 y3 y4 = some rv → W p l e ({ frames := 1, cells := 0, slots := 0, locals := 21 } : Room) s m ([.ref (ad 146), .int x1, .int x2] : List Value).toArray below meth c s.heap [] 0 0 (MQ below (hRi rv) ([.ref (ad 146), .int x1, .int x2] : List Value).toArray s 0 0 hNo) (F0 m 37 ls [])) := by
    intro q6 hq6 y3 y4 ls hl h
    unfold fX8_mateBy_37 at h
    refine lv_iconst (v := 0) hx hb dX8_mateBy_37 (by decide) ?_
    exact J38 q6 hq6 y3 y4 0 _ (lv_sub hl [0, 1, 2, 3, 4] rfl) h
  have J6 : ∀ (n : Nat), (∀ (y3 : Int32) (y4 : Int32) (ls : Array Slot), lv_has ls 6 [(0, .ref (ad 146)), (1, .int x1), (2, .int x2), (3, .int y3), (4, .int y4)] → fX8_mateBy_6 f x1 x2 n y3 y4 = some rv → W p l e ({ frames := 1, cells := 0, slots := 0, locals := 21 } : Room) s m ([.ref (ad 146), .int x1, .int x2] : List Value).toArray below meth c s.heap [] 0 0 (MQ below (hRi rv) ([.ref (ad 146), .int x1, .int x2] : List Value).toArray s 0 0 hNo) (F0 m 6 ls [])) := by
    intro n
    induction n with
    | zero =>
      intro y3 y4 ls hl h
      rw [fX8_mateBy_6] at h
      cases h
    | succ n ih =>
      intro y3 y4 ls hl h
      rw [fX8_mateBy_6] at h
      refine lv_iload hx hb dX8_mateBy_6 (lv_at hl 4 rfl) ?_
      refine lv_bipush (v := 24) hx hb dX8_mateBy_8 (by decide) ?_
      refine lv_icmp_ge (tgt := 96) hx hb dX8_mateBy_10 (by decide) (fun hc1 => ?_) (fun hc1 => ?_)
      · have h := it hc1 h
        refine lv_iload_n hx hb dX8_mateBy_96 rfl (lv_at hl 3 rfl) ?_
        exact h_retR hx hb hr hlocks rfl (so1 h) dX8_mateBy_97
      · have h := ie hc1 h
        refine lv_aload_n hx hb dX8_mateBy_13 rfl (lv_at hl 0 rfl) ?_
        refine h_getR hx hb hts hnX8_mateBy_X8 hown hK hw hS.1 rfl 23 (by decide) rfl hkX8_mateBy_46 dX8_mateBy_14 ?_
        refine lv_iload hx hb dX8_mateBy_17 (lv_at hl 4 rfl) ?_
        obtain ⟨hi2, h⟩ := gd_s h
        refine h_zald hx hb hK hw hS.2.2.2.2.2.2.2.2.2.2.2.2.2.1 hi2 dX8_mateBy_19 ?_
        refine lv_if_eq (tgt := 37) hx hb dX8_mateBy_20 (by decide) (fun hc3 => ?_) (fun hc3 => ?_)
        · have h := it hc3 h
          exact J37 (fX8_mateBy_6 f x1 x2 n) ih y3 y4 _ (lv_sub hl [0, 1, 2, 3, 4] rfl) h
        · have h := ie hc3 h
          refine lv_aload_n hx hb dX8_mateBy_23 rfl (lv_at hl 0 rfl) ?_
          refine lv_iload hx hb dX8_mateBy_24 (lv_at hl 4 rfl) ?_
          obtain ⟨r4, er4, h⟩ := b1_s h
          refine h_callR (va_runV (As := [.int y4]) (rest := []) ⟨hx, hb, hml, hown, hts⟩ (mX8_begun l D ac ad S f y4 r4 hS er4) (cwV 1 hts gX8_mateBy_X8_begun rfl rfl rfl (by decide +kernel) ⟨Nat.le_of_ble_eq_true rfl, Nat.le_of_ble_eq_true rfl⟩) (h_preV hK hw hS.1 rfl _) rfl rfl hl.1 rfl (lv_room (Nat.le_of_ble_eq_true rfl)) dX8_mateBy_26 ⟨Nat.le_of_ble_eq_true rfl, Nat.le_of_ble_eq_true rfl⟩) ?_
          refine lv_iload_n hx hb dX8_mateBy_29 rfl (lv_at hl 2 rfl) ?_
          refine lv_icmp_gt (tgt := 37) hx hb dX8_mateBy_30 (by decide) (fun hc5 => ?_) (fun hc5 => ?_)
          · have h := it hc5 h
            exact J37 (fX8_mateBy_6 f x1 x2 n) ih y3 y4 _ (lv_sub hl [0, 1, 2, 3, 4] rfl) h
          · have h := ie hc5 h
            refine lv_iconst (v := 1) hx hb dX8_mateBy_33 (by decide) ?_
            refine lv_goto (tgt := 38) hx hb dX8_mateBy_34 (by decide) ?_
            exact J38 (fX8_mateBy_6 f x1 x2 n) ih y3 y4 1 _ (lv_sub hl [0, 1, 2, 3, 4] rfl) h
  unfold fX8_mateBy at h
  refine lv_bipush (v := (-4)) hx hb dX8_mateBy_0 (by decide) ?_
  refine lv_istore_n (lv' := [(3, .int (-4)), (0, .ref (ad 146)), (1, .int x1), (2, .int x2)]) hx hb dX8_mateBy_2 rfl hl (by decide) rfl (fun ls hl => ?_)
  refine lv_iconst (v := 0) hx hb dX8_mateBy_3 (by decide) ?_
  refine lv_istore (lv' := [(4, .int 0), (3, .int (-4)), (0, .ref (ad 146)), (1, .int x1), (2, .int x2)]) hx hb dX8_mateBy_4 hl (by decide) rfl (fun ls hl => ?_)
  exact J6 _ (-4) 0 _ (lv_sub hl [2, 3, 4, 1, 0] rfl) h

theorem hnX8_manyHold_X8 : ∀ w ∈ wsX80, w ∈ wsX8_manyHold := by decide +kernel
theorem hkX8_manyHold_46 : Cond.fieldLink RX8 46 (TX8 23).1 (TX8 23).2.1 (TX8 23).2.2.1 ∈ wsX8_manyHold := by decide +kernel
set_option maxHeartbeats 8000000 in
set_option maxRecDepth 100000 in
theorem mX8_manyHold (l : Launch) (D : va_G) (ac : Nat → ClassId) (ad : Nat → Nat) (S : List hSh) (f : hF) (rv : Int32) (hS : isMo S) (h : fX8_manyHold f = some rv) : Met l yX8_manyHold wsX8_manyHold ({ frames := 0, cells := 0, slots := 0, locals := 0 }) (hPc D ac ad S f [.ref (ad 146)]) (hRi rv) 0 0 hNo := by
  refine h_enter (C := RX8) (cc := cX8_manyHold) (maxL := 3) (ret := (some .int)) (lv := [(0, .ref (ad 146))]) (by decide) rfl rfl (Nat.le_of_ble_eq_true rfl) rfl (fun p e s m below meth c ls hx hb hml hr hlocks hown hts hK hw hl => ?_)
  have J25 : ∀ (q4 : Int32 → Int32 → Option Int32) (hq4 : (∀ (y1 : Int32) (y2 : Int32) (ls : Array Slot), lv_has ls 3 [(0, .ref (ad 146)), (1, .int y1), (2, .int y2)] → q4 y1 y2 = some rv → W p l e ({ frames := 0, cells := 0, slots := 0, locals := 0 } : Room) s m ([.ref (ad 146)] : List Value).toArray below meth c s.heap [] 0 0 (MQ below (hRi rv) ([.ref (ad 146)] : List Value).toArray s 0 0 hNo) (F0 m 4 ls []))), (∀ (y2 : Int32) (s0 : Int32) (s1 : Int32) (ls : Array Slot), lv_has ls 3 [(0, .ref (ad 146)), (2, .int y2)] → fX8_manyHold_25 f q4 y2 s0 s1 = some rv → W p l e ({ frames := 0, cells := 0, slots := 0, locals := 0 } : Room) s m ([.ref (ad 146)] : List Value).toArray below meth c s.heap [] 0 0 (MQ below (hRi rv) ([.ref (ad 146)] : List Value).toArray s 0 0 hNo) (F0 m 25 ls [.int s1, .int s0])) := by
    intro q4 hq4 y2 s0 s1 ls hl h
    unfold fX8_manyHold_25 at h
    refine lv_iadd hx hb dX8_manyHold_25 ?_
    refine lv_istore_n (lv' := [(1, .int (s0 + s1)), (0, .ref (ad 146)), (2, .int y2)]) hx hb dX8_manyHold_26 rfl hl (by decide) rfl (fun ls hl => ?_)
    refine lv_iinc (v := (y2 + 1)) (lv' := [(2, .int (y2 + 1)), (1, .int (s0 + s1)), (0, .ref (ad 146))]) hx hb dX8_manyHold_27 hl (k := 2) rfl rfl (by decide) rfl (fun ls hl => ?_)
    refine lv_goto (tgt := 4) hx hb dX8_manyHold_30 (by decide) ?_
    exact hq4 (s0 + s1) (y2 + 1) _ (lv_sub hl [2, 1, 0] rfl) h
  have J4 : ∀ (n : Nat), (∀ (y1 : Int32) (y2 : Int32) (ls : Array Slot), lv_has ls 3 [(0, .ref (ad 146)), (1, .int y1), (2, .int y2)] → fX8_manyHold_4 f n y1 y2 = some rv → W p l e ({ frames := 0, cells := 0, slots := 0, locals := 0 } : Room) s m ([.ref (ad 146)] : List Value).toArray below meth c s.heap [] 0 0 (MQ below (hRi rv) ([.ref (ad 146)] : List Value).toArray s 0 0 hNo) (F0 m 4 ls [])) := by
    intro n
    induction n with
    | zero =>
      intro y1 y2 ls hl h
      rw [fX8_manyHold_4] at h
      cases h
    | succ n ih =>
      intro y1 y2 ls hl h
      rw [fX8_manyHold_4] at h
      refine lv_iload_n hx hb dX8_manyHold_4 rfl (lv_at hl 2 rfl) ?_
      refine lv_bipush (v := 24) hx hb dX8_manyHold_5 (by decide) ?_
      refine lv_icmp_ge (tgt := 33) hx hb dX8_manyHold_7 (by decide) (fun hc1 => ?_) (fun hc1 => ?_)
      · have h := it hc1 h
        refine lv_iload_n hx hb dX8_manyHold_33 rfl (lv_at hl 1 rfl) ?_
        exact h_retR hx hb hr hlocks rfl (so1 h) dX8_manyHold_34
      · have h := ie hc1 h
        refine lv_iload_n hx hb dX8_manyHold_10 rfl (lv_at hl 1 rfl) ?_
        refine lv_aload_n hx hb dX8_manyHold_11 rfl (lv_at hl 0 rfl) ?_
        refine h_getR hx hb hts hnX8_manyHold_X8 hown hK hw hS.1 rfl 23 (by decide) rfl hkX8_manyHold_46 dX8_manyHold_12 ?_
        refine lv_iload_n hx hb dX8_manyHold_15 rfl (lv_at hl 2 rfl) ?_
        obtain ⟨hi2, h⟩ := gd_s h
        refine h_zald hx hb hK hw hS.2.2.2.2.2.2.2.2.2.2.2.2.2.1 hi2 dX8_manyHold_16 ?_
        refine lv_if_eq (tgt := 24) hx hb dX8_manyHold_17 (by decide) (fun hc3 => ?_) (fun hc3 => ?_)
        · have h := it hc3 h
          refine lv_iconst (v := 0) hx hb dX8_manyHold_24 (by decide) ?_
          exact J25 (fX8_manyHold_4 f n) ih y2 y1 0 _ (lv_sub hl [0, 2] rfl) h
        · have h := ie hc3 h
          refine lv_iconst (v := 1) hx hb dX8_manyHold_20 (by decide) ?_
          refine lv_goto (tgt := 25) hx hb dX8_manyHold_21 (by decide) ?_
          exact J25 (fX8_manyHold_4 f n) ih y2 y1 1 _ (lv_sub hl [0, 2] rfl) h
  unfold fX8_manyHold at h
  refine lv_iconst (v := 0) hx hb dX8_manyHold_0 (by decide) ?_
  refine lv_istore_n (lv' := [(1, .int 0), (0, .ref (ad 146))]) hx hb dX8_manyHold_1 rfl hl (by decide) rfl (fun ls hl => ?_)
  refine lv_iconst (v := 0) hx hb dX8_manyHold_2 (by decide) ?_
  refine lv_istore_n (lv' := [(2, .int 0), (1, .int 0), (0, .ref (ad 146))]) hx hb dX8_manyHold_3 rfl hl (by decide) rfl (fun ls hl => ?_)
  exact J4 _ 0 0 _ (lv_sub hl [2, 1, 0] rfl) h

set_option maxHeartbeats 8000000 in
set_option maxRecDepth 100000 in
theorem mX8_linesOf (l : Launch) (D : va_G) (ac : Nat → ClassId) (ad : Nat → Nat) (S : List hSh) (f : hF) (x1 : Int32) (rv : Int32) (hS : isMo S) (h : fX8_linesOf f x1 = some rv) : Met l yX8_linesOf wsX8_linesOf ({ frames := 2, cells := 0, slots := 0, locals := 42 }) (hPc D ac ad S f [.ref (ad 146), .int x1]) (hRi rv) 0 0 hNo := by
  refine h_enter (C := RX8) (cc := cX8_linesOf) (maxL := 4) (ret := (some .int)) (lv := [(0, .ref (ad 146)), (1, .int x1)]) (by decide) rfl rfl (Nat.le_of_ble_eq_true rfl) rfl (fun p e s m below meth c ls hx hb hml hr hlocks hown hts hK hw hl => ?_)
  have J42 : ∀ (q4 : Int32 → Int32 → Option Int32) (hq4 : (∀ (y2 : Int32) (y3 : Int32) (ls : Array Slot), lv_has ls 4 [(0, .ref (ad 146)), (1, .int x1), (2, .int y2), (3, .int y3)] → q4 y2 y3 = some rv → W p l e ({ frames := 2, cells := 0, slots := 0, locals := 42 } : Room) s m ([.ref (ad 146), .int x1] : List Value).toArray below meth c s.heap [] 0 0 (MQ below (hRi rv) ([.ref (ad 146), .int x1] : List Value).toArray s 0 0 hNo) (F0 m 4 ls []))), (∀ (y3 : Int32) (s0 : Int32) (s1 : Int32) (ls : Array Slot), lv_has ls 4 [(0, .ref (ad 146)), (1, .int x1), (3, .int y3)] → fX8_linesOf_42 f x1 q4 y3 s0 s1 = some rv → W p l e ({ frames := 2, cells := 0, slots := 0, locals := 42 } : Room) s m ([.ref (ad 146), .int x1] : List Value).toArray below meth c s.heap [] 0 0 (MQ below (hRi rv) ([.ref (ad 146), .int x1] : List Value).toArray s 0 0 hNo) (F0 m 42 ls [.int s1, .int s0])) := by
    intro q4 hq4 y3 s0 s1 ls hl h
    unfold fX8_linesOf_42 at h
    refine lv_iadd hx hb dX8_linesOf_42 ?_
    refine lv_istore_n (lv' := [(2, .int (s0 + s1)), (0, .ref (ad 146)), (1, .int x1), (3, .int y3)]) hx hb dX8_linesOf_43 rfl hl (by decide) rfl (fun ls hl => ?_)
    refine lv_iinc (v := (y3 + 1)) (lv' := [(3, .int (y3 + 1)), (2, .int (s0 + s1)), (0, .ref (ad 146)), (1, .int x1)]) hx hb dX8_linesOf_44 hl (k := 3) rfl rfl (by decide) rfl (fun ls hl => ?_)
    refine lv_goto (tgt := 4) hx hb dX8_linesOf_47 (by decide) ?_
    exact hq4 (s0 + s1) (y3 + 1) _ (lv_sub hl [2, 3, 1, 0] rfl) h
  have J37 : ∀ (q4 : Int32 → Int32 → Option Int32) (hq4 : (∀ (y2 : Int32) (y3 : Int32) (ls : Array Slot), lv_has ls 4 [(0, .ref (ad 146)), (1, .int x1), (2, .int y2), (3, .int y3)] → q4 y2 y3 = some rv → W p l e ({ frames := 2, cells := 0, slots := 0, locals := 42 } : Room) s m ([.ref (ad 146), .int x1] : List Value).toArray below meth c s.heap [] 0 0 (MQ below (hRi rv) ([.ref (ad 146), .int x1] : List Value).toArray s 0 0 hNo) (F0 m 4 ls []))), (∀ (y3 : Int32) (s0 : Int32) (ls : Array Slot), lv_has ls 4 [(0, .ref (ad 146)), (1, .int x1), (3, .int y3)] → fX8_linesOf_37 f x1 q4 y3 s0 = some rv → W p l e ({ frames := 2, cells := 0, slots := 0, locals := 42 } : Room) s m ([.ref (ad 146), .int x1] : List Value).toArray below meth c s.heap [] 0 0 (MQ below (hRi rv) ([.ref (ad 146), .int x1] : List Value).toArray s 0 0 hNo) (F0 m 37 ls [.int s0])) := by
    intro q4 hq4 y3 s0 ls hl h
    unfold fX8_linesOf_37 at h
    refine lv_iconst (v := 1) hx hb dX8_linesOf_37 (by decide) ?_
    refine lv_goto (tgt := 42) hx hb dX8_linesOf_38 (by decide) ?_
    exact J42 q4 hq4 y3 s0 1 _ (lv_sub hl [0, 1, 2] rfl) h
  have J41 : ∀ (q4 : Int32 → Int32 → Option Int32) (hq4 : (∀ (y2 : Int32) (y3 : Int32) (ls : Array Slot), lv_has ls 4 [(0, .ref (ad 146)), (1, .int x1), (2, .int y2), (3, .int y3)] → q4 y2 y3 = some rv → W p l e ({ frames := 2, cells := 0, slots := 0, locals := 42 } : Room) s m ([.ref (ad 146), .int x1] : List Value).toArray below meth c s.heap [] 0 0 (MQ below (hRi rv) ([.ref (ad 146), .int x1] : List Value).toArray s 0 0 hNo) (F0 m 4 ls []))), (∀ (y3 : Int32) (s0 : Int32) (ls : Array Slot), lv_has ls 4 [(0, .ref (ad 146)), (1, .int x1), (3, .int y3)] → fX8_linesOf_41 f x1 q4 y3 s0 = some rv → W p l e ({ frames := 2, cells := 0, slots := 0, locals := 42 } : Room) s m ([.ref (ad 146), .int x1] : List Value).toArray below meth c s.heap [] 0 0 (MQ below (hRi rv) ([.ref (ad 146), .int x1] : List Value).toArray s 0 0 hNo) (F0 m 41 ls [.int s0])) := by
    intro q4 hq4 y3 s0 ls hl h
    unfold fX8_linesOf_41 at h
    refine lv_iconst (v := 0) hx hb dX8_linesOf_41 (by decide) ?_
    exact J42 q4 hq4 y3 s0 0 _ (lv_sub hl [0, 1, 2] rfl) h
  have J4 : ∀ (n : Nat), (∀ (y2 : Int32) (y3 : Int32) (ls : Array Slot), lv_has ls 4 [(0, .ref (ad 146)), (1, .int x1), (2, .int y2), (3, .int y3)] → fX8_linesOf_4 f x1 n y2 y3 = some rv → W p l e ({ frames := 2, cells := 0, slots := 0, locals := 42 } : Room) s m ([.ref (ad 146), .int x1] : List Value).toArray below meth c s.heap [] 0 0 (MQ below (hRi rv) ([.ref (ad 146), .int x1] : List Value).toArray s 0 0 hNo) (F0 m 4 ls [])) := by
    intro n
    induction n with
    | zero =>
      intro y2 y3 ls hl h
      rw [fX8_linesOf_4] at h
      cases h
    | succ n ih =>
      intro y2 y3 ls hl h
      rw [fX8_linesOf_4] at h
      refine lv_iload_n hx hb dX8_linesOf_4 rfl (lv_at hl 3 rfl) ?_
      refine lv_bipush (v := 24) hx hb dX8_linesOf_5 (by decide) ?_
      refine lv_icmp_ge (tgt := 50) hx hb dX8_linesOf_7 (by decide) (fun hc1 => ?_) (fun hc1 => ?_)
      · have h := it hc1 h
        refine lv_iload_n hx hb dX8_linesOf_50 rfl (lv_at hl 2 rfl) ?_
        exact h_retR hx hb hr hlocks rfl (so1 h) dX8_linesOf_51
      · have h := ie hc1 h
        refine lv_iload_n hx hb dX8_linesOf_10 rfl (lv_at hl 2 rfl) ?_
        refine lv_aload_n hx hb dX8_linesOf_11 rfl (lv_at hl 0 rfl) ?_
        refine lv_iload_n hx hb dX8_linesOf_12 rfl (lv_at hl 3 rfl) ?_
        obtain ⟨r2, er2, h⟩ := b1_s h
        refine h_callR (va_runV (As := [.int y3]) (rest := [.int y2]) ⟨hx, hb, hml, hown, hts⟩ (mX8_isOfTwo l D ac ad S f y3 r2 hS er2) (cwV 1 hts gX8_linesOf_X8_isOfTwo rfl rfl rfl (by decide +kernel) ⟨Nat.le_of_ble_eq_true rfl, Nat.le_of_ble_eq_true rfl⟩) (h_preV hK hw hS.1 rfl _) rfl rfl hl.1 rfl (lv_room (Nat.le_of_ble_eq_true rfl)) dX8_linesOf_13 ⟨Nat.le_of_ble_eq_true rfl, Nat.le_of_ble_eq_true rfl⟩) ?_
        refine lv_if_eq (tgt := 41) hx hb dX8_linesOf_16 (by decide) (fun hc3 => ?_) (fun hc3 => ?_)
        · have h := it hc3 h
          exact J41 (fX8_linesOf_4 f x1 n) ih y3 y2 _ (lv_sub hl [0, 1, 3] rfl) h
        · have h := ie hc3 h
          refine lv_aload_n hx hb dX8_linesOf_19 rfl (lv_at hl 0 rfl) ?_
          refine lv_iload_n hx hb dX8_linesOf_20 rfl (lv_at hl 3 rfl) ?_
          obtain ⟨r4, er4, h⟩ := b1_s h
          refine h_callR (va_runV (As := [.int y3]) (rest := [.int y2]) ⟨hx, hb, hml, hown, hts⟩ (mX8_manOf l D ac ad S f y3 r4 hS er4) (cwV 1 hts gX8_linesOf_X8_manOf rfl rfl rfl (by decide +kernel) ⟨Nat.le_of_ble_eq_true rfl, Nat.le_of_ble_eq_true rfl⟩) (h_preV hK hw hS.1 rfl _) rfl rfl hl.1 rfl (lv_room (Nat.le_of_ble_eq_true rfl)) dX8_linesOf_21 ⟨Nat.le_of_ble_eq_true rfl, Nat.le_of_ble_eq_true rfl⟩) ?_
          refine lv_iload_n hx hb dX8_linesOf_24 rfl (lv_at hl 1 rfl) ?_
          refine lv_icmp_eq (tgt := 37) hx hb dX8_linesOf_25 (by decide) (fun hc5 => ?_) (fun hc5 => ?_)
          · have h := it hc5 h
            exact J37 (fX8_linesOf_4 f x1 n) ih y3 y2 _ (lv_sub hl [0, 1, 3] rfl) h
          · have h := ie hc5 h
            refine lv_aload_n hx hb dX8_linesOf_28 rfl (lv_at hl 0 rfl) ?_
            refine lv_iload_n hx hb dX8_linesOf_29 rfl (lv_at hl 3 rfl) ?_
            obtain ⟨r6, er6, h⟩ := b1_s h
            refine h_callR (va_runV (As := [.int y3]) (rest := [.int y2]) ⟨hx, hb, hml, hown, hts⟩ (mX8_womanOf l D ac ad S f y3 r6 hS er6) (cwV 1 hts gX8_linesOf_X8_womanOf rfl rfl rfl (by decide +kernel) ⟨Nat.le_of_ble_eq_true rfl, Nat.le_of_ble_eq_true rfl⟩) (h_preV hK hw hS.1 rfl _) rfl rfl hl.1 rfl (lv_room (Nat.le_of_ble_eq_true rfl)) dX8_linesOf_30 ⟨Nat.le_of_ble_eq_true rfl, Nat.le_of_ble_eq_true rfl⟩) ?_
            refine lv_iload_n hx hb dX8_linesOf_33 rfl (lv_at hl 1 rfl) ?_
            refine lv_icmp_ne (tgt := 41) hx hb dX8_linesOf_34 (by decide) (fun hc7 => ?_) (fun hc7 => ?_)
            · have h := ie hc7 h
              exact J41 (fX8_linesOf_4 f x1 n) ih y3 y2 _ (lv_sub hl [0, 1, 3] rfl) h
            · have h := it hc7 h
              exact J37 (fX8_linesOf_4 f x1 n) ih y3 y2 _ (lv_sub hl [0, 1, 3] rfl) h
  unfold fX8_linesOf at h
  refine lv_iconst (v := 0) hx hb dX8_linesOf_0 (by decide) ?_
  refine lv_istore_n (lv' := [(2, .int 0), (0, .ref (ad 146)), (1, .int x1)]) hx hb dX8_linesOf_1 rfl hl (by decide) rfl (fun ls hl => ?_)
  refine lv_iconst (v := 0) hx hb dX8_linesOf_2 (by decide) ?_
  refine lv_istore_n (lv' := [(3, .int 0), (2, .int 0), (0, .ref (ad 146)), (1, .int x1)]) hx hb dX8_linesOf_3 rfl hl (by decide) rfl (fun ls hl => ?_)
  exact J4 _ 0 0 _ (lv_sub hl [2, 3, 1, 0] rfl) h

theorem hnX8_owes_X8 : ∀ w ∈ wsX80, w ∈ wsX8_owes := by decide +kernel
theorem hkX8_owes_7 : Cond.fieldLink RX8 7 (TX8 1).1 (TX8 1).2.1 (TX8 1).2.2.1 ∈ wsX8_owes := by decide +kernel
theorem hkX8_owes_43 : Cond.fieldLink RX8 43 (TX8 22).1 (TX8 22).2.1 (TX8 22).2.2.1 ∈ wsX8_owes := by decide +kernel
set_option maxHeartbeats 8000000 in
set_option maxRecDepth 100000 in
theorem mX8_owes (l : Launch) (D : va_G) (ac : Nat → ClassId) (ad : Nat → Nat) (S : List hSh) (f : hF) (x1 : Int32) (rv : Int32) (hS : isMo S) (h : fX8_owes f x1 = some rv) : Met l yX8_owes wsX8_owes ({ frames := 2, cells := 0, slots := 0, locals := 46 }) (hPc D ac ad S f [.ref (ad 146), .int x1]) (hRi rv) 0 0 hNo := by
  refine h_enter (C := RX8) (cc := cX8_owes) (maxL := 4) (ret := (some .int)) (lv := [(0, .ref (ad 146)), (1, .int x1)]) (by decide) rfl rfl (Nat.le_of_ble_eq_true rfl) rfl (fun p e s m below meth c ls hx hb hml hr hlocks hown hts hK hw hl => ?_)
  have J57 : ∀ (_ : Unit), (∀ (y2 : Int32) (s0 : Int32) (ls : Array Slot), lv_has ls 4 [(0, .ref (ad 146)), (1, .int x1), (2, .int y2)] → fX8_owes_57 f x1 y2 s0 = some rv → W p l e ({ frames := 2, cells := 0, slots := 0, locals := 46 } : Room) s m ([.ref (ad 146), .int x1] : List Value).toArray below meth c s.heap [] 0 0 (MQ below (hRi rv) ([.ref (ad 146), .int x1] : List Value).toArray s 0 0 hNo) (F0 m 57 ls [.int s0])) := by
    intro _ y2 s0 ls hl h
    unfold fX8_owes_57 at h
    refine lv_istore_n (lv' := [(3, .int s0), (0, .ref (ad 146)), (1, .int x1), (2, .int y2)]) hx hb dX8_owes_57 rfl hl (by decide) rfl (fun ls hl => ?_)
    refine lv_aload_n hx hb dX8_owes_58 rfl (lv_at hl 1 rfl) ?_
    refine h_getR hx hb hts hnX8_owes_X8 hown hK hw hS.1 rfl 1 (by decide) rfl hkX8_owes_7 dX8_owes_59 ?_
    refine lv_iconst (v := 3) hx hb dX8_owes_62 (by decide) ?_
    refine lv_iload_n hx hb dX8_owes_63 rfl (lv_at hl 2 rfl) ?_
    refine lv_imul hx hb dX8_owes_64 ?_
    refine lv_iconst (v := 2) hx hb dX8_owes_65 (by decide) ?_
    refine lv_iadd hx hb dX8_owes_66 ?_
    obtain ⟨hi1, h⟩ := gd_s h
    refine h_iald hx hb hK hw hS.2.1 hi1 dX8_owes_67 ?_
    refine lv_iload_n hx hb dX8_owes_68 rfl (lv_at hl 3 rfl) ?_
    refine lv_if_lt (tgt := 87) hx hb dX8_owes_69 (by decide) (fun hc2 => ?_) (fun hc2 => ?_)
    · have h := it hc2 h
      refine lv_iload_n hx hb dX8_owes_87 rfl (lv_at hl 0 rfl) ?_
      refine lv_iadd hx hb dX8_owes_88 ?_
      exact h_retR hx hb hr hlocks rfl (so1 h) dX8_owes_89
    · have h := ie hc2 h
      refine lv_aload_n hx hb dX8_owes_72 rfl (lv_at hl 1 rfl) ?_
      refine lv_iload_n hx hb dX8_owes_73 rfl (lv_at hl 3 rfl) ?_
      obtain ⟨r3, er3, h⟩ := b1_s h
      refine h_callR (va_runV (As := [.int y2]) (rest := [.int (f 147 ((3 * x1) + 2).toNatClampNeg)]) ⟨hx, hb, hml, hown, hts⟩ (mX8_kindOf l D ac ad S f y2 r3 hS er3) (cwV 1 hts gX8_owes_X8_kindOf rfl rfl rfl (by decide +kernel) ⟨Nat.le_of_ble_eq_true rfl, Nat.le_of_ble_eq_true rfl⟩) (h_preV hK hw hS.1 rfl _) rfl rfl hl.1 rfl (lv_room (Nat.le_of_ble_eq_true rfl)) dX8_owes_74 ⟨Nat.le_of_ble_eq_true rfl, Nat.le_of_ble_eq_true rfl⟩) ?_
      refine lv_iconst (v := 1) hx hb dX8_owes_77 (by decide) ?_
      refine lv_icmp_ne (tgt := 87) hx hb dX8_owes_78 (by decide) (fun hc4 => ?_) (fun hc4 => ?_)
      · have h := ie hc4 h
        refine lv_iload_n hx hb dX8_owes_87 rfl (lv_at hl 0 rfl) ?_
        refine lv_iadd hx hb dX8_owes_88 ?_
        exact h_retR hx hb hr hlocks rfl (so1 h) dX8_owes_89
      · have h := it hc4 h
        refine lv_iload_n hx hb dX8_owes_81 rfl (lv_at hl 0 rfl) ?_
        refine lv_iconst (v := 2) hx hb dX8_owes_82 (by decide) ?_
        refine lv_idiv hx hb dX8_owes_83 (by decide) ?_
        refine lv_goto (tgt := 88) hx hb dX8_owes_84 (by decide) ?_
        refine lv_iadd hx hb dX8_owes_88 ?_
        exact h_retR hx hb hr hlocks rfl (so1 h) dX8_owes_89
  unfold fX8_owes at h
  refine lv_aload_n hx hb dX8_owes_0 rfl (lv_at hl 0 rfl) ?_
  refine lv_iload_n hx hb dX8_owes_1 rfl (lv_at hl 1 rfl) ?_
  refine lv_aload_n hx hb dX8_owes_2 rfl (lv_at hl 0 rfl) ?_
  refine h_getR hx hb hts hnX8_owes_X8 hown hK hw hS.1 rfl 22 (by decide) rfl hkX8_owes_43 dX8_owes_3 ?_
  refine lv_iconst (v := 0) hx hb dX8_owes_6 (by decide) ?_
  obtain ⟨hi1, h⟩ := gd_s h
  refine h_iald hx hb hK hw hS.2.2.2.2.2.2.2.2.2.2.2.2.1 hi1 dX8_owes_7 ?_
  obtain ⟨r2, er2, h⟩ := b1_s h
  refine h_callR (va_runV (As := [.int x1, .int (f 158 (0 : Int32).toNatClampNeg)]) (rest := []) ⟨hx, hb, hml, hown, hts⟩ (mX8_mateBy l D ac ad S f x1 (f 158 (0 : Int32).toNatClampNeg) r2 hS er2) (cwV 2 hts gX8_owes_X8_mateBy rfl rfl rfl (by decide +kernel) ⟨Nat.le_of_ble_eq_true rfl, Nat.le_of_ble_eq_true rfl⟩) (h_preV hK hw hS.1 rfl _) rfl rfl hl.1 rfl (lv_room (Nat.le_of_ble_eq_true rfl)) dX8_owes_8 ⟨Nat.le_of_ble_eq_true rfl, Nat.le_of_ble_eq_true rfl⟩) ?_
  refine lv_istore_n (lv' := [(2, .int r2), (0, .ref (ad 146)), (1, .int x1)]) hx hb dX8_owes_11 rfl hl (by decide) rfl (fun ls hl => ?_)
  refine lv_aload_n hx hb dX8_owes_12 rfl (lv_at hl 1 rfl) ?_
  refine lv_iload_n hx hb dX8_owes_13 rfl (lv_at hl 2 rfl) ?_
  obtain ⟨r3, er3, h⟩ := b1_s h
  refine h_callR (va_runV (As := [.int x1]) (rest := []) ⟨hx, hb, hml, hown, hts⟩ (mX8_isWoman l D ac ad S f x1 r3 hS er3) (cwV 1 hts gX8_owes_X8_isWoman rfl rfl rfl (by decide +kernel) ⟨Nat.le_of_ble_eq_true rfl, Nat.le_of_ble_eq_true rfl⟩) (h_preV hK hw hS.1 rfl _) rfl rfl hl.1 rfl (lv_room (Nat.le_of_ble_eq_true rfl)) dX8_owes_14 ⟨Nat.le_of_ble_eq_true rfl, Nat.le_of_ble_eq_true rfl⟩) ?_
  refine lv_if_eq (tgt := 39) hx hb dX8_owes_17 (by decide) (fun hc4 => ?_) (fun hc4 => ?_)
  · have h := it hc4 h
    refine lv_iload_n hx hb dX8_owes_39 rfl (lv_at hl 0 rfl) ?_
    refine lv_if_ge (tgt := 47) hx hb dX8_owes_40 (by decide) (fun hc5 => ?_) (fun hc5 => ?_)
    · have h := it hc5 h
      refine lv_aload_n hx hb dX8_owes_47 rfl (lv_at hl 1 rfl) ?_
      refine h_getR hx hb hts hnX8_owes_X8 hown hK hw hS.1 rfl 1 (by decide) rfl hkX8_owes_7 dX8_owes_48 ?_
      refine lv_iconst (v := 3) hx hb dX8_owes_51 (by decide) ?_
      refine lv_iload_n hx hb dX8_owes_52 rfl (lv_at hl 0 rfl) ?_
      refine lv_imul hx hb dX8_owes_53 ?_
      refine lv_iconst (v := 2) hx hb dX8_owes_54 (by decide) ?_
      refine lv_iadd hx hb dX8_owes_55 ?_
      obtain ⟨hi6, h⟩ := gd_s h
      refine h_iald hx hb hK hw hS.2.1 hi6 dX8_owes_56 ?_
      exact J57 () r2 (f 147 ((3 * r2) + 2).toNatClampNeg) _ (lv_sub hl [1, 2, 0] rfl) h
    · have h := ie hc5 h
      refine lv_iconst (v := 0) hx hb dX8_owes_43 (by decide) ?_
      refine lv_goto (tgt := 57) hx hb dX8_owes_44 (by decide) ?_
      exact J57 () r2 0 _ (lv_sub hl [1, 2, 0] rfl) h
  · have h := ie hc4 h
    refine lv_iload_n hx hb dX8_owes_20 rfl (lv_at hl 0 rfl) ?_
    refine lv_if_ge (tgt := 37) hx hb dX8_owes_21 (by decide) (fun hc7 => ?_) (fun hc7 => ?_)
    · have h := it hc7 h
      refine lv_iconst (v := 0) hx hb dX8_owes_37 (by decide) ?_
      exact h_retR hx hb hr hlocks rfl (so1 h) dX8_owes_38
    · have h := ie hc7 h
      refine lv_aload_n hx hb dX8_owes_24 rfl (lv_at hl 1 rfl) ?_
      refine h_getR hx hb hts hnX8_owes_X8 hown hK hw hS.1 rfl 1 (by decide) rfl hkX8_owes_7 dX8_owes_25 ?_
      refine lv_iconst (v := 3) hx hb dX8_owes_28 (by decide) ?_
      refine lv_iload_n hx hb dX8_owes_29 rfl (lv_at hl 2 rfl) ?_
      refine lv_imul hx hb dX8_owes_30 ?_
      refine lv_iconst (v := 2) hx hb dX8_owes_31 (by decide) ?_
      refine lv_iadd hx hb dX8_owes_32 ?_
      obtain ⟨hi8, h⟩ := gd_s h
      refine h_iald hx hb hK hw hS.2.1 hi8 dX8_owes_33 ?_
      refine lv_goto (tgt := 38) hx hb dX8_owes_34 (by decide) ?_
      exact h_retR hx hb hr hlocks rfl (so1 h) dX8_owes_38

theorem hnX8_person_X8 : ∀ w ∈ wsX80, w ∈ wsX8_person := by decide +kernel
theorem hkX8_person_16 : Cond.fieldLink RX8 16 (TX8 5).1 (TX8 5).2.1 (TX8 5).2.2.1 ∈ wsX8_person := by decide +kernel
theorem hkX8_person_7 : Cond.fieldLink RX8 7 (TX8 1).1 (TX8 1).2.1 (TX8 1).2.2.1 ∈ wsX8_person := by decide +kernel
set_option maxHeartbeats 8000000 in
set_option maxRecDepth 100000 in
theorem mX8_person (l : Launch) (D : va_G) (ac : Nat → ClassId) (ad : Nat → Nat) (S : List hSh) (f : hF) (x1 : Int32) (x2 : Int32) (rv : Int32) (gv : hF) (hS : isMo S) (h : fX8_person f x1 x2 = some (rv, gv)) : Met l yX8_person wsX8_person ({ frames := 4, cells := 0, slots := 0, locals := 87 }) (hPc D ac ad S f [.ref (ad 146), .int x1, .int x2]) (hQi D ac ad S rv gv) 0 0 (hAd ad S.length) := by
  refine h_enter (C := RX8) (cc := cX8_person) (maxL := 3) (ret := (some .int)) (lv := [(0, .ref (ad 146)), (1, .int x1), (2, .int x2)]) (by decide) rfl rfl (Nat.le_of_ble_eq_true rfl) rfl (fun p e s m below meth c ls hx hb hml hr hlocks hown hts hK hw hl => ?_)
  unfold fX8_person at h
  refine lv_aload_n hx hb dX8_person_0 rfl (lv_at hl 0 rfl) ?_
  refine lv_iload_n hx hb dX8_person_1 rfl (lv_at hl 1 rfl) ?_
  obtain ⟨r1, er1, h⟩ := b1_s h
  refine h_callR (va_runV (As := [.int x1]) (rest := []) ⟨hx, hb, hml, hown, hts⟩ (mX8_isPerson l D ac ad S f x1 r1 hS er1) (cwV 1 hts gX8_person_X8_isPerson rfl rfl rfl (by decide +kernel) ⟨Nat.le_of_ble_eq_true rfl, Nat.le_of_ble_eq_true rfl⟩) (h_preV hK hw hS.1 rfl _) rfl rfl hl.1 rfl (lv_room (Nat.le_of_ble_eq_true rfl)) dX8_person_2 ⟨Nat.le_of_ble_eq_true rfl, Nat.le_of_ble_eq_true rfl⟩) ?_
  refine lv_if_eq (tgt := 18) hx hb dX8_person_5 (by decide) (fun hc2 => ?_) (fun hc2 => ?_)
  · have h := it hc2 h
    refine lv_iconst (v := (-1)) hx hb dX8_person_18 (by decide) ?_
    exact h_retQ hx hb hr hlocks hw rfl (so2 h) dX8_person_19
  · have h := ie hc2 h
    refine lv_iload_n hx hb dX8_person_8 rfl (lv_at hl 2 rfl) ?_
    refine lv_iconst (v := 0) hx hb dX8_person_9 (by decide) ?_
    refine lv_bipush (v := 6) hx hb dX8_person_10 (by decide) ?_
    obtain ⟨r3, er3, h⟩ := b1_s h
    refine h_callR (va_runS (As := [.int x2, .int 0, .int 6]) (rest := []) ⟨hx, hb, hml, hown, hts⟩ (mX8_in l D ac ad S f x2 (0 : Int32) (6 : Int32) r3  er3) (va_cwS 3 hts gX8_person_X8_in rfl rfl rfl (by decide +kernel) ⟨Nat.le_of_ble_eq_true rfl, Nat.le_of_ble_eq_true rfl⟩) (h_preS hK hw _) rfl rfl hl.1 rfl (lv_room (Nat.le_of_ble_eq_true rfl)) dX8_person_12 ⟨Nat.le_of_ble_eq_true rfl, Nat.le_of_ble_eq_true rfl⟩) ?_
    refine lv_if_ne (tgt := 20) hx hb dX8_person_15 (by decide) (fun hc4 => ?_) (fun hc4 => ?_)
    · have h := ie hc4 h
      refine lv_aload_n hx hb dX8_person_20 rfl (lv_at hl 0 rfl) ?_
      obtain ⟨f5, ef5, h⟩ := b1_s h
      refine h_callV hw (va_runV (As := []) (rest := []) ⟨hx, hb, hml, hown, hts⟩ (mX8_asItIs l D ac ad S f f5 hS ef5) (cwV 0 hts gX8_person_X8_asItIs rfl rfl rfl (by decide +kernel) ⟨Nat.le_of_ble_eq_true rfl, Nat.le_of_ble_eq_true rfl⟩) (h_preV hK hw hS.1 rfl _) rfl rfl hl.1 rfl (lv_room (Nat.le_of_ble_eq_true rfl)) dX8_person_21 ⟨Nat.le_of_ble_eq_true rfl, Nat.le_of_ble_eq_true rfl⟩) (fun H locs hw => ?_)
      refine lv_aload_n hx hb dX8_person_24 rfl (lv_at hl 0 rfl) ?_
      obtain ⟨f6, ef6, h⟩ := b1_s h
      refine h_callV hw (va_runV (As := []) (rest := []) ⟨hx, hb, hml, hown, hts⟩ (mX8_findHolds l D ac ad S f5 f6 hS ef6) (cwV 0 hts gX8_person_X8_findHolds rfl rfl rfl (by decide +kernel) ⟨Nat.le_of_ble_eq_true rfl, Nat.le_of_ble_eq_true rfl⟩) (h_preV hK hw hS.1 rfl _) rfl rfl hl.1 rfl (lv_room (Nat.le_of_ble_eq_true rfl)) dX8_person_25 ⟨Nat.le_of_ble_eq_true rfl, Nat.le_of_ble_eq_true rfl⟩) (fun H locs hw => ?_)
      refine lv_iload_n hx hb dX8_person_28 rfl (lv_at hl 2 rfl) ?_
      refine lv_iconst (v := 3) hx hb dX8_person_29 (by decide) ?_
      refine lv_icmp_ge (tgt := 44) hx hb dX8_person_30 (by decide) (fun hc7 => ?_) (fun hc7 => ?_)
      · have h := it hc7 h
        refine lv_iload_n hx hb dX8_person_44 rfl (lv_at hl 2 rfl) ?_
        refine lv_iconst (v := 3) hx hb dX8_person_45 (by decide) ?_
        refine lv_icmp_ne (tgt := 60) hx hb dX8_person_46 (by decide) (fun hc8 => ?_) (fun hc8 => ?_)
        · have h := ie hc8 h
          refine lv_iload_n hx hb dX8_person_60 rfl (lv_at hl 2 rfl) ?_
          refine lv_iconst (v := 4) hx hb dX8_person_61 (by decide) ?_
          refine lv_icmp_ne (tgt := 79) hx hb dX8_person_62 (by decide) (fun hc9 => ?_) (fun hc9 => ?_)
          · have h := ie hc9 h
            refine lv_iload_n hx hb dX8_person_79 rfl (lv_at hl 2 rfl) ?_
            refine lv_iconst (v := 5) hx hb dX8_person_80 (by decide) ?_
            refine lv_icmp_ne (tgt := 92) hx hb dX8_person_81 (by decide) (fun hc10 => ?_) (fun hc10 => ?_)
            · have h := ie hc10 h
              refine lv_aload_n hx hb dX8_person_92 rfl (lv_at hl 0 rfl) ?_
              refine lv_iload_n hx hb dX8_person_93 rfl (lv_at hl 1 rfl) ?_
              obtain ⟨r11, er11, h⟩ := b1_s h
              refine h_callR (va_runV (As := [.int x1]) (rest := []) ⟨hx, hb, hml, hown, hts⟩ (mX8_linesOf l D ac ad S f6 x1 r11 hS er11) (cwV 1 hts gX8_person_X8_linesOf rfl rfl rfl (by decide +kernel) ⟨Nat.le_of_ble_eq_true rfl, Nat.le_of_ble_eq_true rfl⟩) (h_preV hK hw hS.1 rfl _) rfl rfl hl.1 rfl (lv_room (Nat.le_of_ble_eq_true rfl)) dX8_person_94 ⟨Nat.le_of_ble_eq_true rfl, Nat.le_of_ble_eq_true rfl⟩) ?_
              exact h_retQ hx hb hr hlocks hw rfl (so2 h) dX8_person_97
            · have h := it hc10 h
              refine lv_aload_n hx hb dX8_person_84 rfl (lv_at hl 0 rfl) ?_
              refine lv_iload_n hx hb dX8_person_85 rfl (lv_at hl 1 rfl) ?_
              obtain ⟨r12, er12, h⟩ := b1_s h
              refine h_callR (va_runV (As := [.int x1]) (rest := []) ⟨hx, hb, hml, hown, hts⟩ (mX8_owes l D ac ad S f6 x1 r12 hS er12) (cwV 1 hts gX8_person_X8_owes rfl rfl rfl (by decide +kernel) ⟨Nat.le_of_ble_eq_true rfl, Nat.le_of_ble_eq_true rfl⟩) (h_preV hK hw hS.1 rfl _) rfl rfl hl.1 rfl (lv_room (Nat.le_of_ble_eq_true rfl)) dX8_person_86 ⟨Nat.le_of_ble_eq_true rfl, Nat.le_of_ble_eq_true rfl⟩) ?_
              refine lv_goto (tgt := 97) hx hb dX8_person_89 (by decide) ?_
              exact h_retQ hx hb hr hlocks hw rfl (so2 h) dX8_person_97
          · have h := it hc9 h
            refine lv_aload_n hx hb dX8_person_65 rfl (lv_at hl 0 rfl) ?_
            refine lv_iload_n hx hb dX8_person_66 rfl (lv_at hl 1 rfl) ?_
            refine lv_aload_n hx hb dX8_person_67 rfl (lv_at hl 0 rfl) ?_
            refine h_getR hx hb hts hnX8_person_X8 hown hK hw hS.1 rfl 5 (by decide) rfl hkX8_person_16 dX8_person_68 ?_
            refine lv_iconst (v := 0) hx hb dX8_person_71 (by decide) ?_
            obtain ⟨hi13, h⟩ := gd_s h
            refine h_iald hx hb hK hw hS.2.2.2.1 hi13 dX8_person_72 ?_
            obtain ⟨r14, er14, h⟩ := b1_s h
            refine h_callR (va_runV (As := [.int x1, .int (f6 149 (0 : Int32).toNatClampNeg)]) (rest := []) ⟨hx, hb, hml, hown, hts⟩ (mX8_mateBy l D ac ad S f6 x1 (f6 149 (0 : Int32).toNatClampNeg) r14 hS er14) (cwV 2 hts gX8_person_X8_mateBy rfl rfl rfl (by decide +kernel) ⟨Nat.le_of_ble_eq_true rfl, Nat.le_of_ble_eq_true rfl⟩) (h_preV hK hw hS.1 rfl _) rfl rfl hl.1 rfl (lv_room (Nat.le_of_ble_eq_true rfl)) dX8_person_73 ⟨Nat.le_of_ble_eq_true rfl, Nat.le_of_ble_eq_true rfl⟩) ?_
            refine lv_goto (tgt := 97) hx hb dX8_person_76 (by decide) ?_
            exact h_retQ hx hb hr hlocks hw rfl (so2 h) dX8_person_97
        · have h := it hc8 h
          refine lv_aload_n hx hb dX8_person_49 rfl (lv_at hl 0 rfl) ?_
          refine h_getR hx hb hts hnX8_person_X8 hown hK hw hS.1 rfl 5 (by decide) rfl hkX8_person_16 dX8_person_50 ?_
          refine lv_iconst (v := 1) hx hb dX8_person_53 (by decide) ?_
          refine lv_iload_n hx hb dX8_person_54 rfl (lv_at hl 1 rfl) ?_
          refine lv_iadd hx hb dX8_person_55 ?_
          obtain ⟨hi15, h⟩ := gd_s h
          refine h_iald hx hb hK hw hS.2.2.2.1 hi15 dX8_person_56 ?_
          refine lv_goto (tgt := 97) hx hb dX8_person_57 (by decide) ?_
          exact h_retQ hx hb hr hlocks hw rfl (so2 h) dX8_person_97
      · have h := ie hc7 h
        refine lv_aload_n hx hb dX8_person_33 rfl (lv_at hl 0 rfl) ?_
        refine h_getR hx hb hts hnX8_person_X8 hown hK hw hS.1 rfl 1 (by decide) rfl hkX8_person_7 dX8_person_34 ?_
        refine lv_iconst (v := 3) hx hb dX8_person_37 (by decide) ?_
        refine lv_iload_n hx hb dX8_person_38 rfl (lv_at hl 1 rfl) ?_
        refine lv_imul hx hb dX8_person_39 ?_
        refine lv_iload_n hx hb dX8_person_40 rfl (lv_at hl 2 rfl) ?_
        refine lv_iadd hx hb dX8_person_41 ?_
        obtain ⟨hi16, h⟩ := gd_s h
        refine h_iald hx hb hK hw hS.2.1 hi16 dX8_person_42 ?_
        exact h_retQ hx hb hr hlocks hw rfl (so2 h) dX8_person_43
    · have h := it hc4 h
      refine lv_iconst (v := (-1)) hx hb dX8_person_18 (by decide) ?_
      exact h_retQ hx hb hr hlocks hw rfl (so2 h) dX8_person_19

set_option maxHeartbeats 8000000 in
set_option maxRecDepth 100000 in
theorem mX8_blanksOf (l : Launch) (D : va_G) (ac : Nat → ClassId) (ad : Nat → Nat) (S : List hSh) (f : hF) (x1 : Int32) (rv : Int32) (hS : isMo S) (h : fX8_blanksOf f x1 = some rv) : Met l yX8_blanksOf wsX8_blanksOf ({ frames := 2, cells := 0, slots := 0, locals := 42 }) (hPc D ac ad S f [.ref (ad 146), .int x1]) (hRi rv) 0 0 hNo := by
  refine h_enter (C := RX8) (cc := cX8_blanksOf) (maxL := 4) (ret := (some .int)) (lv := [(0, .ref (ad 146)), (1, .int x1)]) (by decide) rfl rfl (Nat.le_of_ble_eq_true rfl) rfl (fun p e s m below meth c ls hx hb hml hr hlocks hown hts hK hw hl => ?_)
  have J29 : ∀ (q4 : Int32 → Int32 → Option Int32) (hq4 : (∀ (y2 : Int32) (y3 : Int32) (ls : Array Slot), lv_has ls 4 [(0, .ref (ad 146)), (1, .int x1), (2, .int y2), (3, .int y3)] → q4 y2 y3 = some rv → W p l e ({ frames := 2, cells := 0, slots := 0, locals := 42 } : Room) s m ([.ref (ad 146), .int x1] : List Value).toArray below meth c s.heap [] 0 0 (MQ below (hRi rv) ([.ref (ad 146), .int x1] : List Value).toArray s 0 0 hNo) (F0 m 4 ls []))), (∀ (y3 : Int32) (s0 : Int32) (s1 : Int32) (ls : Array Slot), lv_has ls 4 [(0, .ref (ad 146)), (1, .int x1), (3, .int y3)] → fX8_blanksOf_29 f x1 q4 y3 s0 s1 = some rv → W p l e ({ frames := 2, cells := 0, slots := 0, locals := 42 } : Room) s m ([.ref (ad 146), .int x1] : List Value).toArray below meth c s.heap [] 0 0 (MQ below (hRi rv) ([.ref (ad 146), .int x1] : List Value).toArray s 0 0 hNo) (F0 m 29 ls [.int s1, .int s0])) := by
    intro q4 hq4 y3 s0 s1 ls hl h
    unfold fX8_blanksOf_29 at h
    refine lv_iadd hx hb dX8_blanksOf_29 ?_
    refine lv_istore_n (lv' := [(2, .int (s0 + s1)), (0, .ref (ad 146)), (1, .int x1), (3, .int y3)]) hx hb dX8_blanksOf_30 rfl hl (by decide) rfl (fun ls hl => ?_)
    refine lv_iinc (v := (y3 + 1)) (lv' := [(3, .int (y3 + 1)), (2, .int (s0 + s1)), (0, .ref (ad 146)), (1, .int x1)]) hx hb dX8_blanksOf_31 hl (k := 3) rfl rfl (by decide) rfl (fun ls hl => ?_)
    refine lv_goto (tgt := 4) hx hb dX8_blanksOf_34 (by decide) ?_
    exact hq4 (s0 + s1) (y3 + 1) _ (lv_sub hl [2, 3, 1, 0] rfl) h
  have J4 : ∀ (n : Nat), (∀ (y2 : Int32) (y3 : Int32) (ls : Array Slot), lv_has ls 4 [(0, .ref (ad 146)), (1, .int x1), (2, .int y2), (3, .int y3)] → fX8_blanksOf_4 f x1 n y2 y3 = some rv → W p l e ({ frames := 2, cells := 0, slots := 0, locals := 42 } : Room) s m ([.ref (ad 146), .int x1] : List Value).toArray below meth c s.heap [] 0 0 (MQ below (hRi rv) ([.ref (ad 146), .int x1] : List Value).toArray s 0 0 hNo) (F0 m 4 ls [])) := by
    intro n
    induction n with
    | zero =>
      intro y2 y3 ls hl h
      rw [fX8_blanksOf_4] at h
      cases h
    | succ n ih =>
      intro y2 y3 ls hl h
      rw [fX8_blanksOf_4] at h
      refine lv_iload_n hx hb dX8_blanksOf_4 rfl (lv_at hl 3 rfl) ?_
      refine lv_bipush (v := 8) hx hb dX8_blanksOf_5 (by decide) ?_
      refine lv_icmp_ge (tgt := 37) hx hb dX8_blanksOf_7 (by decide) (fun hc1 => ?_) (fun hc1 => ?_)
      · have h := it hc1 h
        refine lv_iload_n hx hb dX8_blanksOf_37 rfl (lv_at hl 2 rfl) ?_
        exact h_retR hx hb hr hlocks rfl (so1 h) dX8_blanksOf_38
      · have h := ie hc1 h
        refine lv_iload_n hx hb dX8_blanksOf_10 rfl (lv_at hl 2 rfl) ?_
        refine lv_aload_n hx hb dX8_blanksOf_11 rfl (lv_at hl 0 rfl) ?_
        refine lv_bipush (v := 8) hx hb dX8_blanksOf_12 (by decide) ?_
        refine lv_iload_n hx hb dX8_blanksOf_14 rfl (lv_at hl 1 rfl) ?_
        refine lv_imul hx hb dX8_blanksOf_15 ?_
        refine lv_iload_n hx hb dX8_blanksOf_16 rfl (lv_at hl 3 rfl) ?_
        refine lv_iadd hx hb dX8_blanksOf_17 ?_
        obtain ⟨r2, er2, h⟩ := b1_s h
        refine h_callR (va_runV (As := [.int ((8 * x1) + y3)]) (rest := [.int y2]) ⟨hx, hb, hml, hown, hts⟩ (mX8_isBlank l D ac ad S f ((8 * x1) + y3) r2 hS er2) (cwV 1 hts gX8_blanksOf_X8_isBlank rfl rfl rfl (by decide +kernel) ⟨Nat.le_of_ble_eq_true rfl, Nat.le_of_ble_eq_true rfl⟩) (h_preV hK hw hS.1 rfl _) rfl rfl hl.1 rfl (lv_room (Nat.le_of_ble_eq_true rfl)) dX8_blanksOf_18 ⟨Nat.le_of_ble_eq_true rfl, Nat.le_of_ble_eq_true rfl⟩) ?_
        refine lv_if_eq (tgt := 28) hx hb dX8_blanksOf_21 (by decide) (fun hc3 => ?_) (fun hc3 => ?_)
        · have h := it hc3 h
          refine lv_iconst (v := 0) hx hb dX8_blanksOf_28 (by decide) ?_
          exact J29 (fX8_blanksOf_4 f x1 n) ih y3 y2 0 _ (lv_sub hl [0, 1, 3] rfl) h
        · have h := ie hc3 h
          refine lv_iconst (v := 1) hx hb dX8_blanksOf_24 (by decide) ?_
          refine lv_goto (tgt := 29) hx hb dX8_blanksOf_25 (by decide) ?_
          exact J29 (fX8_blanksOf_4 f x1 n) ih y3 y2 1 _ (lv_sub hl [0, 1, 3] rfl) h
  unfold fX8_blanksOf at h
  refine lv_iconst (v := 0) hx hb dX8_blanksOf_0 (by decide) ?_
  refine lv_istore_n (lv' := [(2, .int 0), (0, .ref (ad 146)), (1, .int x1)]) hx hb dX8_blanksOf_1 rfl hl (by decide) rfl (fun ls hl => ?_)
  refine lv_iconst (v := 0) hx hb dX8_blanksOf_2 (by decide) ?_
  refine lv_istore_n (lv' := [(3, .int 0), (2, .int 0), (0, .ref (ad 146)), (1, .int x1)]) hx hb dX8_blanksOf_3 rfl hl (by decide) rfl (fun ls hl => ?_)
  exact J4 _ 0 0 _ (lv_sub hl [2, 3, 1, 0] rfl) h

theorem hnX8_parson_X8 : ∀ w ∈ wsX80, w ∈ wsX8_parson := by decide +kernel
theorem hkX8_parson_16 : Cond.fieldLink RX8 16 (TX8 5).1 (TX8 5).2.1 (TX8 5).2.2.1 ∈ wsX8_parson := by decide +kernel
theorem hkX8_parson_13 : Cond.fieldLink RX8 13 (TX8 3).1 (TX8 3).2.1 (TX8 3).2.2.1 ∈ wsX8_parson := by decide +kernel
set_option maxHeartbeats 8000000 in
set_option maxRecDepth 100000 in
theorem mX8_parson (l : Launch) (D : va_G) (ac : Nat → ClassId) (ad : Nat → Nat) (S : List hSh) (f : hF) (x1 : Int32) (x2 : Int32) (rv : Int32) (gv : hF) (hS : isMo S) (h : fX8_parson f x1 x2 = some (rv, gv)) : Met l yX8_parson wsX8_parson ({ frames := 3, cells := 0, slots := 0, locals := 65 }) (hPc D ac ad S f [.ref (ad 146), .int x1, .int x2]) (hQi D ac ad S rv gv) 0 0 (hAd ad S.length) := by
  refine h_enter (C := RX8) (cc := cX8_parson) (maxL := 3) (ret := (some .int)) (lv := [(0, .ref (ad 146)), (1, .int x1), (2, .int x2)]) (by decide) rfl rfl (Nat.le_of_ble_eq_true rfl) rfl (fun p e s m below meth c ls hx hb hml hr hlocks hown hts hK hw hl => ?_)
  unfold fX8_parson at h
  refine lv_aload_n hx hb dX8_parson_0 rfl (lv_at hl 0 rfl) ?_
  refine lv_iload_n hx hb dX8_parson_1 rfl (lv_at hl 1 rfl) ?_
  obtain ⟨r1, er1, h⟩ := b1_s h
  refine h_callR (va_runV (As := [.int x1]) (rest := []) ⟨hx, hb, hml, hown, hts⟩ (mX8_isParson l D ac ad S f x1 r1 hS er1) (cwV 1 hts gX8_parson_X8_isParson rfl rfl rfl (by decide +kernel) ⟨Nat.le_of_ble_eq_true rfl, Nat.le_of_ble_eq_true rfl⟩) (h_preV hK hw hS.1 rfl _) rfl rfl hl.1 rfl (lv_room (Nat.le_of_ble_eq_true rfl)) dX8_parson_2 ⟨Nat.le_of_ble_eq_true rfl, Nat.le_of_ble_eq_true rfl⟩) ?_
  refine lv_if_eq (tgt := 17) hx hb dX8_parson_5 (by decide) (fun hc2 => ?_) (fun hc2 => ?_)
  · have h := it hc2 h
    refine lv_iconst (v := (-1)) hx hb dX8_parson_17 (by decide) ?_
    exact h_retQ hx hb hr hlocks hw rfl (so2 h) dX8_parson_18
  · have h := ie hc2 h
    refine lv_iload_n hx hb dX8_parson_8 rfl (lv_at hl 2 rfl) ?_
    refine lv_iconst (v := 0) hx hb dX8_parson_9 (by decide) ?_
    refine lv_iconst (v := 4) hx hb dX8_parson_10 (by decide) ?_
    obtain ⟨r3, er3, h⟩ := b1_s h
    refine h_callR (va_runS (As := [.int x2, .int 0, .int 4]) (rest := []) ⟨hx, hb, hml, hown, hts⟩ (mX8_in l D ac ad S f x2 (0 : Int32) (4 : Int32) r3  er3) (va_cwS 3 hts gX8_parson_X8_in rfl rfl rfl (by decide +kernel) ⟨Nat.le_of_ble_eq_true rfl, Nat.le_of_ble_eq_true rfl⟩) (h_preS hK hw _) rfl rfl hl.1 rfl (lv_room (Nat.le_of_ble_eq_true rfl)) dX8_parson_11 ⟨Nat.le_of_ble_eq_true rfl, Nat.le_of_ble_eq_true rfl⟩) ?_
    refine lv_if_ne (tgt := 19) hx hb dX8_parson_14 (by decide) (fun hc4 => ?_) (fun hc4 => ?_)
    · have h := ie hc4 h
      refine lv_aload_n hx hb dX8_parson_19 rfl (lv_at hl 0 rfl) ?_
      obtain ⟨f5, ef5, h⟩ := b1_s h
      refine h_callV hw (va_runV (As := []) (rest := []) ⟨hx, hb, hml, hown, hts⟩ (mX8_asItIs l D ac ad S f f5 hS ef5) (cwV 0 hts gX8_parson_X8_asItIs rfl rfl rfl (by decide +kernel) ⟨Nat.le_of_ble_eq_true rfl, Nat.le_of_ble_eq_true rfl⟩) (h_preV hK hw hS.1 rfl _) rfl rfl hl.1 rfl (lv_room (Nat.le_of_ble_eq_true rfl)) dX8_parson_20 ⟨Nat.le_of_ble_eq_true rfl, Nat.le_of_ble_eq_true rfl⟩) (fun H locs hw => ?_)
      refine lv_iload_n hx hb dX8_parson_23 rfl (lv_at hl 2 rfl) ?_
      refine lv_iconst (v := 2) hx hb dX8_parson_24 (by decide) ?_
      refine lv_icmp_ge (tgt := 39) hx hb dX8_parson_25 (by decide) (fun hc6 => ?_) (fun hc6 => ?_)
      · have h := it hc6 h
        refine lv_iload_n hx hb dX8_parson_39 rfl (lv_at hl 2 rfl) ?_
        refine lv_iconst (v := 2) hx hb dX8_parson_40 (by decide) ?_
        refine lv_icmp_ne (tgt := 56) hx hb dX8_parson_41 (by decide) (fun hc7 => ?_) (fun hc7 => ?_)
        · have h := ie hc7 h
          refine lv_iload_n hx hb dX8_parson_56 rfl (lv_at hl 2 rfl) ?_
          refine lv_iconst (v := 3) hx hb dX8_parson_57 (by decide) ?_
          refine lv_icmp_ne (tgt := 69) hx hb dX8_parson_58 (by decide) (fun hc8 => ?_) (fun hc8 => ?_)
          · have h := ie hc8 h
            refine lv_aload_n hx hb dX8_parson_69 rfl (lv_at hl 0 rfl) ?_
            refine h_getR hx hb hts hnX8_parson_X8 hown hK hw hS.1 rfl 5 (by decide) rfl hkX8_parson_16 dX8_parson_70 ?_
            refine lv_bipush (v := 9) hx hb dX8_parson_73 (by decide) ?_
            refine lv_iload_n hx hb dX8_parson_75 rfl (lv_at hl 1 rfl) ?_
            refine lv_iadd hx hb dX8_parson_76 ?_
            obtain ⟨hi9, h⟩ := gd_s h
            refine h_iald hx hb hK hw hS.2.2.2.1 hi9 dX8_parson_77 ?_
            exact h_retQ hx hb hr hlocks hw rfl (so2 h) dX8_parson_78
          · have h := it hc8 h
            refine lv_aload_n hx hb dX8_parson_61 rfl (lv_at hl 0 rfl) ?_
            refine lv_iload_n hx hb dX8_parson_62 rfl (lv_at hl 1 rfl) ?_
            obtain ⟨r10, er10, h⟩ := b1_s h
            refine h_callR (va_runV (As := [.int x1]) (rest := []) ⟨hx, hb, hml, hown, hts⟩ (mX8_blanksOf l D ac ad S f5 x1 r10 hS er10) (cwV 1 hts gX8_parson_X8_blanksOf rfl rfl rfl (by decide +kernel) ⟨Nat.le_of_ble_eq_true rfl, Nat.le_of_ble_eq_true rfl⟩) (h_preV hK hw hS.1 rfl _) rfl rfl hl.1 rfl (lv_room (Nat.le_of_ble_eq_true rfl)) dX8_parson_63 ⟨Nat.le_of_ble_eq_true rfl, Nat.le_of_ble_eq_true rfl⟩) ?_
            refine lv_goto (tgt := 78) hx hb dX8_parson_66 (by decide) ?_
            exact h_retQ hx hb hr hlocks hw rfl (so2 h) dX8_parson_78
        · have h := it hc7 h
          refine lv_aload_n hx hb dX8_parson_44 rfl (lv_at hl 0 rfl) ?_
          refine h_getR hx hb hts hnX8_parson_X8 hown hK hw hS.1 rfl 5 (by decide) rfl hkX8_parson_16 dX8_parson_45 ?_
          refine lv_bipush (v := 12) hx hb dX8_parson_48 (by decide) ?_
          refine lv_iload_n hx hb dX8_parson_50 rfl (lv_at hl 1 rfl) ?_
          refine lv_iadd hx hb dX8_parson_51 ?_
          obtain ⟨hi11, h⟩ := gd_s h
          refine h_iald hx hb hK hw hS.2.2.2.1 hi11 dX8_parson_52 ?_
          refine lv_goto (tgt := 78) hx hb dX8_parson_53 (by decide) ?_
          exact h_retQ hx hb hr hlocks hw rfl (so2 h) dX8_parson_78
      · have h := ie hc6 h
        refine lv_aload_n hx hb dX8_parson_28 rfl (lv_at hl 0 rfl) ?_
        refine h_getR hx hb hts hnX8_parson_X8 hown hK hw hS.1 rfl 3 (by decide) rfl hkX8_parson_13 dX8_parson_29 ?_
        refine lv_iconst (v := 2) hx hb dX8_parson_32 (by decide) ?_
        refine lv_iload_n hx hb dX8_parson_33 rfl (lv_at hl 1 rfl) ?_
        refine lv_imul hx hb dX8_parson_34 ?_
        refine lv_iload_n hx hb dX8_parson_35 rfl (lv_at hl 2 rfl) ?_
        refine lv_iadd hx hb dX8_parson_36 ?_
        obtain ⟨hi12, h⟩ := gd_s h
        refine h_iald hx hb hK hw hS.2.2.1 hi12 dX8_parson_37 ?_
        exact h_retQ hx hb hr hlocks hw rfl (so2 h) dX8_parson_38
    · have h := it hc4 h
      refine lv_iconst (v := (-1)) hx hb dX8_parson_17 (by decide) ?_
      exact h_retQ hx hb hr hlocks hw rfl (so2 h) dX8_parson_18
