/-! contracts: X8_touts X8_gaol X8_keep X8_back X8_linesSuch X8_count -/
theorem hnX8_touts_X8 : ∀ w ∈ wsX80, w ∈ wsX8_touts := by decide +kernel
theorem hkX8_touts_80 : Cond.fieldLink RX8 80 (TX8 0).1 (TX8 0).2.1 (TX8 0).2.2.1 ∈ wsX8_touts := by decide +kernel
theorem hkX8_touts_248 : Cond.fieldLink RX8 248 (TX8 26).1 (TX8 26).2.1 (TX8 26).2.2.1 ∈ wsX8_touts := by decide +kernel
set_option maxHeartbeats 8000000 in
set_option maxRecDepth 100000 in
theorem mX8_touts (l : Launch) (D : va_G) (ac : Nat → ClassId) (ad : Nat → Nat) (S : List hSh) (f : hF) (x1 : Int32) (x2 : Int32) (x3 : Int32) (rv : Int32) (gv : hF) (hS : isMo S) (h : fX8_touts f x1 x2 x3 = some (rv, gv)) : Met l yX8_touts wsX8_touts ({ frames := 6, cells := 0, slots := 0, locals := 139 }) (hPc D ac ad S f [.ref (ad 146), .int x1, .int x2, .int x3]) (hQi D ac ad S rv gv) 0 0 (hAd ad S.length) := by
  refine h_enter (C := RX8) (cc := cX8_touts) (maxL := 10) (ret := (some .int)) (lv := [(0, .ref (ad 146)), (1, .int x1), (2, .int x2), (3, .int x3)]) (by decide) rfl rfl (Nat.le_of_ble_eq_true rfl) rfl (fun p e s m below meth c ls hx hb hml hr hlocks hown hts hK hw hl => ?_)
  have J70 : ∀ (q43 : hF → Int32 → Int32 → Int32 → Option (Int32 × hF)) (hq43 : (∀ (f : hF) (y4 : Int32) (y5 : Int32) (y6 : Int32) (H : Heap) (locs : List Loc) (ls : Array Slot), hOk D ac ad S (hAd ad S.length) s.heap f H locs → lv_has ls 10 [(0, .ref (ad 146)), (1, .int x1), (2, .int x2), (3, .int x3), (4, .int y4), (5, .int y5), (6, .int y6)] → q43 f y4 y5 y6 = some (rv, gv) → W p l e ({ frames := 6, cells := 0, slots := 0, locals := 139 } : Room) s m ([.ref (ad 146), .int x1, .int x2, .int x3] : List Value).toArray below meth c H locs 0 0 (MQ below (hQi D ac ad S rv gv) ([.ref (ad 146), .int x1, .int x2, .int x3] : List Value).toArray s 0 0 (hAd ad S.length)) (F0 m 43 ls []))), (∀ (f : hF) (y4 : Int32) (y6 : Int32) (s0 : Int32) (s1 : Int32) (H : Heap) (locs : List Loc) (ls : Array Slot), hOk D ac ad S (hAd ad S.length) s.heap f H locs → lv_has ls 10 [(0, .ref (ad 146)), (1, .int x1), (2, .int x2), (3, .int x3), (4, .int y4), (6, .int y6)] → fX8_touts_70 x1 x2 x3 q43 f y4 y6 s0 s1 = some (rv, gv) → W p l e ({ frames := 6, cells := 0, slots := 0, locals := 139 } : Room) s m ([.ref (ad 146), .int x1, .int x2, .int x3] : List Value).toArray below meth c H locs 0 0 (MQ below (hQi D ac ad S rv gv) ([.ref (ad 146), .int x1, .int x2, .int x3] : List Value).toArray s 0 0 (hAd ad S.length)) (F0 m 70 ls [.int s1, .int s0])) := by
    intro q43 hq43 f y4 y6 s0 s1 H locs ls hw hl h
    unfold fX8_touts_70 at h
    refine lv_imul hx hb dX8_touts_70 ?_
    refine lv_istore (lv' := [(5, .int (s0 * s1)), (0, .ref (ad 146)), (1, .int x1), (2, .int x2), (3, .int x3), (4, .int y4), (6, .int y6)]) hx hb dX8_touts_71 hl (by decide) rfl (fun ls hl => ?_)
    refine lv_iinc (v := (y6 + 1)) (lv' := [(6, .int (y6 + 1)), (5, .int (s0 * s1)), (0, .ref (ad 146)), (1, .int x1), (2, .int x2), (3, .int x3), (4, .int y4)]) hx hb dX8_touts_73 hl (k := 6) rfl rfl (by decide) rfl (fun ls hl => ?_)
    refine lv_goto (tgt := 43) hx hb dX8_touts_76 (by decide) ?_
    exact hq43 f y4 (s0 * s1) (y6 + 1) _ _ _ hw (lv_sub hl [2, 3, 4, 5, 6, 1, 0] rfl) h
  have J133 : ∀ (q85 : hF → Int32 → Int32 → Int32 → Int32 → Option (Int32 × hF)) (hq85 : (∀ (f : hF) (y4 : Int32) (y5 : Int32) (y6 : Int32) (y7 : Int32) (H : Heap) (locs : List Loc) (ls : Array Slot), hOk D ac ad S (hAd ad S.length) s.heap f H locs → lv_has ls 10 [(0, .ref (ad 146)), (1, .int x1), (2, .int x2), (3, .int x3), (4, .int y4), (5, .int y5), (6, .int y6), (7, .int y7)] → q85 f y4 y5 y6 y7 = some (rv, gv) → W p l e ({ frames := 6, cells := 0, slots := 0, locals := 139 } : Room) s m ([.ref (ad 146), .int x1, .int x2, .int x3] : List Value).toArray below meth c H locs 0 0 (MQ below (hQi D ac ad S rv gv) ([.ref (ad 146), .int x1, .int x2, .int x3] : List Value).toArray s 0 0 (hAd ad S.length)) (F0 m 85 ls []))), (∀ (f : hF) (y4 : Int32) (y5 : Int32) (y7 : Int32) (s0 : Int32) (s1 : Int32) (H : Heap) (locs : List Loc) (ls : Array Slot), hOk D ac ad S (hAd ad S.length) s.heap f H locs → lv_has ls 10 [(0, .ref (ad 146)), (1, .int x1), (2, .int x2), (3, .int x3), (4, .int y4), (5, .int y5), (7, .int y7)] → fX8_touts_133 x1 x2 x3 q85 f y4 y5 y7 s0 s1 = some (rv, gv) → W p l e ({ frames := 6, cells := 0, slots := 0, locals := 139 } : Room) s m ([.ref (ad 146), .int x1, .int x2, .int x3] : List Value).toArray below meth c H locs 0 0 (MQ below (hQi D ac ad S rv gv) ([.ref (ad 146), .int x1, .int x2, .int x3] : List Value).toArray s 0 0 (hAd ad S.length)) (F0 m 133 ls [.int s1, .int s0])) := by
    intro q85 hq85 f y4 y5 y7 s0 s1 H locs ls hw hl h
    unfold fX8_touts_133 at h
    refine lv_iadd hx hb dX8_touts_133 ?_
    refine lv_istore (lv' := [(6, .int (s0 + s1)), (0, .ref (ad 146)), (1, .int x1), (2, .int x2), (3, .int x3), (4, .int y4), (5, .int y5), (7, .int y7)]) hx hb dX8_touts_134 hl (by decide) rfl (fun ls hl => ?_)
    refine lv_iinc (v := (y7 + 1)) (lv' := [(7, .int (y7 + 1)), (6, .int (s0 + s1)), (0, .ref (ad 146)), (1, .int x1), (2, .int x2), (3, .int x3), (4, .int y4), (5, .int y5)]) hx hb dX8_touts_136 hl (k := 7) rfl rfl (by decide) rfl (fun ls hl => ?_)
    refine lv_goto (tgt := 85) hx hb dX8_touts_139 (by decide) ?_
    exact hq85 f y4 y5 (s0 + s1) (y7 + 1) _ _ _ hw (lv_sub hl [2, 3, 4, 5, 6, 7, 1, 0] rfl) h
  have J150 : ∀ (n : Nat), (∀ (f : hF) (y5 : Int32) (y6 : Int32) (y7 : Int32) (y8 : Int32) (H : Heap) (locs : List Loc) (ls : Array Slot), hOk D ac ad S (hAd ad S.length) s.heap f H locs → lv_has ls 10 [(3, .int x3), (5, .int y5), (6, .int y6), (7, .int y7), (8, .int y8)] → fX8_touts_150 x1 x2 x3 n f y5 y6 y7 y8 = some (rv, gv) → W p l e ({ frames := 6, cells := 0, slots := 0, locals := 139 } : Room) s m ([.ref (ad 146), .int x1, .int x2, .int x3] : List Value).toArray below meth c H locs 0 0 (MQ below (hQi D ac ad S rv gv) ([.ref (ad 146), .int x1, .int x2, .int x3] : List Value).toArray s 0 0 (hAd ad S.length)) (F0 m 150 ls [])) := by
    intro n
    induction n with
    | zero =>
      intro f y5 y6 y7 y8 H locs ls hw hl h
      rw [fX8_touts_150] at h
      cases h
    | succ n ih =>
      intro f y5 y6 y7 y8 H locs ls hw hl h
      rw [fX8_touts_150] at h
      refine lv_iload hx hb dX8_touts_150 (lv_at hl 4 rfl) ?_
      refine lv_if_le (tgt := 173) hx hb dX8_touts_152 (by decide) (fun hc1 => ?_) (fun hc1 => ?_)
      · have h := it hc1 h
        refine lv_iload_n hx hb dX8_touts_173 rfl (lv_at hl 0 rfl) ?_
        refine lv_if_ne (tgt := 182) hx hb dX8_touts_174 (by decide) (fun hc2 => ?_) (fun hc2 => ?_)
        · have h := ie hc2 h
          refine lv_iload hx hb dX8_touts_182 (lv_at hl 1 rfl) ?_
          refine lv_iload hx hb dX8_touts_184 (lv_at hl 3 rfl) ?_
          obtain ⟨hz3, h⟩ := nz_s h
          refine lv_idiv hx hb dX8_touts_186 hz3 ?_
          exact h_retQ hx hb hr hlocks hw rfl (so2 h) dX8_touts_187
        · have h := it hc2 h
          refine lv_iload hx hb dX8_touts_177 (lv_at hl 2 rfl) ?_
          refine lv_goto (tgt := 184) hx hb dX8_touts_179 (by decide) ?_
          refine lv_iload hx hb dX8_touts_184 (lv_at hl 3 rfl) ?_
          obtain ⟨hz4, h⟩ := nz_s h
          refine lv_idiv hx hb dX8_touts_186 hz4 ?_
          exact h_retQ hx hb hr hlocks hw rfl (so2 h) dX8_touts_187
      · have h := ie hc1 h
        refine lv_iload hx hb dX8_touts_155 (lv_at hl 3 rfl) ?_
        refine lv_iload hx hb dX8_touts_157 (lv_at hl 4 rfl) ?_
        obtain ⟨hz5, h⟩ := nz_s h
        refine lv_irem hx hb dX8_touts_159 hz5 ?_
        refine lv_istore (lv' := [(9, .int (y7 - y7 / y8 * y8)), (3, .int x3), (5, .int y5), (6, .int y6), (7, .int y7), (8, .int y8)]) hx hb dX8_touts_160 hl (by decide) rfl (fun ls hl => ?_)
        refine lv_iload hx hb dX8_touts_162 (lv_at hl 5 rfl) ?_
        refine lv_istore (lv' := [(7, .int y8), (9, .int (y7 - y7 / y8 * y8)), (3, .int x3), (5, .int y5), (6, .int y6), (8, .int y8)]) hx hb dX8_touts_164 hl (by decide) rfl (fun ls hl => ?_)
        refine lv_iload hx hb dX8_touts_166 (lv_at hl 1 rfl) ?_
        refine lv_istore (lv' := [(8, .int (y7 - y7 / y8 * y8)), (7, .int y8), (9, .int (y7 - y7 / y8 * y8)), (3, .int x3), (5, .int y5), (6, .int y6)]) hx hb dX8_touts_168 hl (by decide) rfl (fun ls hl => ?_)
        refine lv_goto (tgt := 150) hx hb dX8_touts_170 (by decide) ?_
        exact ih f y5 y6 y8 (y7 - y7 / y8 * y8) _ _ _ hw (lv_sub hl [3, 4, 5, 1, 0] rfl) h
  have J85 : ∀ (n : Nat), (∀ (f : hF) (y4 : Int32) (y5 : Int32) (y6 : Int32) (y7 : Int32) (H : Heap) (locs : List Loc) (ls : Array Slot), hOk D ac ad S (hAd ad S.length) s.heap f H locs → lv_has ls 10 [(0, .ref (ad 146)), (1, .int x1), (2, .int x2), (3, .int x3), (4, .int y4), (5, .int y5), (6, .int y6), (7, .int y7)] → fX8_touts_85 x1 x2 x3 n f y4 y5 y6 y7 = some (rv, gv) → W p l e ({ frames := 6, cells := 0, slots := 0, locals := 139 } : Room) s m ([.ref (ad 146), .int x1, .int x2, .int x3] : List Value).toArray below meth c H locs 0 0 (MQ below (hQi D ac ad S rv gv) ([.ref (ad 146), .int x1, .int x2, .int x3] : List Value).toArray s 0 0 (hAd ad S.length)) (F0 m 85 ls [])) := by
    intro n
    induction n with
    | zero =>
      intro f y4 y5 y6 y7 H locs ls hw hl h
      rw [fX8_touts_85] at h
      cases h
    | succ n ih =>
      intro f y4 y5 y6 y7 H locs ls hw hl h
      rw [fX8_touts_85] at h
      refine lv_iload hx hb dX8_touts_85 (lv_at hl 7 rfl) ?_
      refine lv_iconst (v := 1) hx hb dX8_touts_87 (by decide) ?_
      refine lv_aload_n hx hb dX8_touts_88 rfl (lv_at hl 0 rfl) ?_
      refine h_getI hx hb hts hnX8_touts_X8 hown hK hw hS.1 rfl 0 (by decide) rfl hkX8_touts_80 dX8_touts_89 ?_
      refine lv_ishl hx hb dX8_touts_92 ?_
      refine lv_icmp_ge (tgt := 142) hx hb dX8_touts_93 (by decide) (fun hc1 => ?_) (fun hc1 => ?_)
      · have h := it hc1 h
        refine lv_iload hx hb dX8_touts_142 (lv_at hl 6 rfl) ?_
        refine lv_istore (lv' := [(7, .int y6), (0, .ref (ad 146)), (1, .int x1), (2, .int x2), (3, .int x3), (4, .int y4), (5, .int y5), (6, .int y6)]) hx hb dX8_touts_144 hl (by decide) rfl (fun ls hl => ?_)
        refine lv_iload hx hb dX8_touts_146 (lv_at hl 6 rfl) ?_
        refine lv_istore (lv' := [(8, .int y5), (7, .int y6), (0, .ref (ad 146)), (1, .int x1), (2, .int x2), (3, .int x3), (4, .int y4), (5, .int y5), (6, .int y6)]) hx hb dX8_touts_148 hl (by decide) rfl (fun ls hl => ?_)
        exact J150 _ f y5 y6 y6 y5 _ _ _ hw (lv_sub hl [5, 7, 8, 1, 0] rfl) h
      · have h := ie hc1 h
        refine lv_iload hx hb dX8_touts_96 (lv_at hl 7 rfl) ?_
        refine lv_iload hx hb dX8_touts_98 (lv_at hl 4 rfl) ?_
        refine lv_iconst (v := (-1)) hx hb dX8_touts_100 (by decide) ?_
        refine lv_ixor hx hb dX8_touts_101 ?_
        refine lv_iand hx hb dX8_touts_102 ?_
        refine lv_if_ne (tgt := 136) hx hb dX8_touts_103 (by decide) (fun hc2 => ?_) (fun hc2 => ?_)
        · have h := ie hc2 h
          refine lv_iinc (v := (y7 + 1)) (lv' := [(7, .int (y7 + 1)), (0, .ref (ad 146)), (1, .int x1), (2, .int x2), (3, .int x3), (4, .int y4), (5, .int y5), (6, .int y6)]) hx hb dX8_touts_136 hl (k := 7) rfl rfl (by decide) rfl (fun ls hl => ?_)
          refine lv_goto (tgt := 85) hx hb dX8_touts_139 (by decide) ?_
          exact ih f y4 y5 y6 (y7 + 1) _ _ _ hw (lv_sub hl [1, 2, 3, 4, 5, 6, 7, 0] rfl) h
        · have h := it hc2 h
          refine lv_aload_n hx hb dX8_touts_106 rfl (lv_at hl 0 rfl) ?_
          refine lv_iload hx hb dX8_touts_107 (lv_at hl 4 rfl) ?_
          refine lv_iload hx hb dX8_touts_109 (lv_at hl 7 rfl) ?_
          refine lv_iload_n hx hb dX8_touts_111 rfl (lv_at hl 2 rfl) ?_
          obtain ⟨r3, f4, ef4, h⟩ := b2_s h
          refine h_callQ hw (va_runV (As := [.int y4, .int y7, .int x2]) (rest := []) ⟨hx, hb, hml, hown, hts⟩ (mX8_matedBy l D ac ad S f y4 y7 x2 r3 f4 hS ef4) (cwV 3 hts gX8_touts_X8_matedBy rfl rfl rfl (by decide +kernel) ⟨Nat.le_of_ble_eq_true rfl, Nat.le_of_ble_eq_true rfl⟩) (h_preV hK hw hS.1 rfl _) rfl rfl hl.1 rfl (lv_room (Nat.le_of_ble_eq_true rfl)) dX8_touts_112 ⟨Nat.le_of_ble_eq_true rfl, Nat.le_of_ble_eq_true rfl⟩) (fun H locs hw => ?_)
          refine lv_istore (lv' := [(8, .int r3), (0, .ref (ad 146)), (1, .int x1), (2, .int x2), (3, .int x3), (4, .int y4), (5, .int y5), (6, .int y6), (7, .int y7)]) hx hb dX8_touts_115 hl (by decide) rfl (fun ls hl => ?_)
          refine lv_iload hx hb dX8_touts_117 (lv_at hl 7 rfl) ?_
          refine lv_iload hx hb dX8_touts_119 (lv_at hl 0 rfl) ?_
          refine lv_iload_n hx hb dX8_touts_121 rfl (lv_at hl 2 rfl) ?_
          refine lv_icmp_lt (tgt := 132) hx hb dX8_touts_122 (by decide) (fun hc5 => ?_) (fun hc5 => ?_)
          · have h := it hc5 h
            refine lv_iconst (v := 0) hx hb dX8_touts_132 (by decide) ?_
            exact J133 (fX8_touts_85 x1 x2 x3 n) ih f4 y4 y5 y7 y6 0 _ _ _ hw (lv_sub hl [1, 2, 3, 4, 5, 6, 8] rfl) h
          · have h := ie hc5 h
            refine lv_aload_n hx hb dX8_touts_125 rfl (lv_at hl 1 rfl) ?_
            refine h_getI hx hb hts hnX8_touts_X8 hown hK hw hS.1 rfl 26 (by decide) rfl hkX8_touts_248 dX8_touts_126 ?_
            refine lv_goto (tgt := 133) hx hb dX8_touts_129 (by decide) ?_
            exact J133 (fX8_touts_85 x1 x2 x3 n) ih f4 y4 y5 y7 y6 (f4 146 26) _ _ _ hw (lv_sub hl [1, 2, 3, 4, 5, 6, 8] rfl) h
  have J43 : ∀ (n : Nat), (∀ (f : hF) (y4 : Int32) (y5 : Int32) (y6 : Int32) (H : Heap) (locs : List Loc) (ls : Array Slot), hOk D ac ad S (hAd ad S.length) s.heap f H locs → lv_has ls 10 [(0, .ref (ad 146)), (1, .int x1), (2, .int x2), (3, .int x3), (4, .int y4), (5, .int y5), (6, .int y6)] → fX8_touts_43 x1 x2 x3 n f y4 y5 y6 = some (rv, gv) → W p l e ({ frames := 6, cells := 0, slots := 0, locals := 139 } : Room) s m ([.ref (ad 146), .int x1, .int x2, .int x3] : List Value).toArray below meth c H locs 0 0 (MQ below (hQi D ac ad S rv gv) ([.ref (ad 146), .int x1, .int x2, .int x3] : List Value).toArray s 0 0 (hAd ad S.length)) (F0 m 43 ls [])) := by
    intro n
    induction n with
    | zero =>
      intro f y4 y5 y6 H locs ls hw hl h
      rw [fX8_touts_43] at h
      cases h
    | succ n ih =>
      intro f y4 y5 y6 H locs ls hw hl h
      rw [fX8_touts_43] at h
      refine lv_iload hx hb dX8_touts_43 (lv_at hl 6 rfl) ?_
      refine lv_aload_n hx hb dX8_touts_45 rfl (lv_at hl 0 rfl) ?_
      refine h_getI hx hb hts hnX8_touts_X8 hown hK hw hS.1 rfl 0 (by decide) rfl hkX8_touts_80 dX8_touts_46 ?_
      refine lv_icmp_ge (tgt := 79) hx hb dX8_touts_49 (by decide) (fun hc1 => ?_) (fun hc1 => ?_)
      · have h := it hc1 h
        refine lv_iconst (v := 0) hx hb dX8_touts_79 (by decide) ?_
        refine lv_istore (lv' := [(6, .int 0), (0, .ref (ad 146)), (1, .int x1), (2, .int x2), (3, .int x3), (4, .int y4), (5, .int y5)]) hx hb dX8_touts_80 hl (by decide) rfl (fun ls hl => ?_)
        refine lv_iconst (v := 0) hx hb dX8_touts_82 (by decide) ?_
        refine lv_istore (lv' := [(7, .int 0), (6, .int 0), (0, .ref (ad 146)), (1, .int x1), (2, .int x2), (3, .int x3), (4, .int y4), (5, .int y5)]) hx hb dX8_touts_83 hl (by decide) rfl (fun ls hl => ?_)
        exact J85 _ f y4 y5 0 0 _ _ _ hw (lv_sub hl [2, 3, 4, 5, 6, 7, 1, 0] rfl) h
      · have h := ie hc1 h
        refine lv_iload hx hb dX8_touts_52 (lv_at hl 5 rfl) ?_
        refine lv_iload hx hb dX8_touts_54 (lv_at hl 4 rfl) ?_
        refine lv_iload hx hb dX8_touts_56 (lv_at hl 6 rfl) ?_
        obtain ⟨r2, er2, h⟩ := b1_s h
        refine h_callR (va_runS (As := [.int y4, .int y6]) (rest := [.int y5]) ⟨hx, hb, hml, hown, hts⟩ (mX8_has l D ac ad S f y4 y6 r2  er2) (va_cwS 2 hts gX8_touts_X8_has rfl rfl rfl (by decide +kernel) ⟨Nat.le_of_ble_eq_true rfl, Nat.le_of_ble_eq_true rfl⟩) (h_preS hK hw _) rfl rfl hl.1 rfl (lv_room (Nat.le_of_ble_eq_true rfl)) dX8_touts_58 ⟨Nat.le_of_ble_eq_true rfl, Nat.le_of_ble_eq_true rfl⟩) ?_
        refine lv_if_eq (tgt := 69) hx hb dX8_touts_61 (by decide) (fun hc3 => ?_) (fun hc3 => ?_)
        · have h := it hc3 h
          refine lv_iconst (v := 1) hx hb dX8_touts_69 (by decide) ?_
          exact J70 (fX8_touts_43 x1 x2 x3 n) ih f y4 y6 y5 1 _ _ _ hw (lv_sub hl [0, 1, 2, 3, 4, 6] rfl) h
        · have h := ie hc3 h
          refine lv_bipush (v := 10) hx hb dX8_touts_64 (by decide) ?_
          refine lv_goto (tgt := 70) hx hb dX8_touts_66 (by decide) ?_
          exact J70 (fX8_touts_43 x1 x2 x3 n) ih f y4 y6 y5 10 _ _ _ hw (lv_sub hl [0, 1, 2, 3, 4, 6] rfl) h
  unfold fX8_touts at h
  refine lv_iload_n hx hb dX8_touts_0 rfl (lv_at hl 1 rfl) ?_
  refine lv_iconst (v := 0) hx hb dX8_touts_1 (by decide) ?_
  refine lv_bipush (v := 8) hx hb dX8_touts_2 (by decide) ?_
  obtain ⟨r1, er1, h⟩ := b1_s h
  refine h_callR (va_runS (As := [.int x1, .int 0, .int 8]) (rest := []) ⟨hx, hb, hml, hown, hts⟩ (mX8_in l D ac ad S f x1 (0 : Int32) (8 : Int32) r1  er1) (va_cwS 3 hts gX8_touts_X8_in rfl rfl rfl (by decide +kernel) ⟨Nat.le_of_ble_eq_true rfl, Nat.le_of_ble_eq_true rfl⟩) (h_preS hK hw _) rfl rfl hl.1 rfl (lv_room (Nat.le_of_ble_eq_true rfl)) dX8_touts_4 ⟨Nat.le_of_ble_eq_true rfl, Nat.le_of_ble_eq_true rfl⟩) ?_
  refine lv_if_eq (tgt := 29) hx hb dX8_touts_7 (by decide) (fun hc2 => ?_) (fun hc2 => ?_)
  · have h := it hc2 h
    refine lv_iconst (v := (-1)) hx hb dX8_touts_29 (by decide) ?_
    exact h_retQ hx hb hr hlocks hw rfl (so2 h) dX8_touts_30
  · have h := ie hc2 h
    refine lv_iload_n hx hb dX8_touts_10 rfl (lv_at hl 2 rfl) ?_
    refine lv_iconst (v := 0) hx hb dX8_touts_11 (by decide) ?_
    refine lv_bipush (v := 10) hx hb dX8_touts_12 (by decide) ?_
    obtain ⟨r3, er3, h⟩ := b1_s h
    refine h_callR (va_runS (As := [.int x2, .int 0, .int 10]) (rest := []) ⟨hx, hb, hml, hown, hts⟩ (mX8_in l D ac ad S f x2 (0 : Int32) (10 : Int32) r3  er3) (va_cwS 3 hts gX8_touts_X8_in rfl rfl rfl (by decide +kernel) ⟨Nat.le_of_ble_eq_true rfl, Nat.le_of_ble_eq_true rfl⟩) (h_preS hK hw _) rfl rfl hl.1 rfl (lv_room (Nat.le_of_ble_eq_true rfl)) dX8_touts_14 ⟨Nat.le_of_ble_eq_true rfl, Nat.le_of_ble_eq_true rfl⟩) ?_
    refine lv_if_eq (tgt := 29) hx hb dX8_touts_17 (by decide) (fun hc4 => ?_) (fun hc4 => ?_)
    · have h := it hc4 h
      refine lv_iconst (v := (-1)) hx hb dX8_touts_29 (by decide) ?_
      exact h_retQ hx hb hr hlocks hw rfl (so2 h) dX8_touts_30
    · have h := ie hc4 h
      refine lv_iload_n hx hb dX8_touts_20 rfl (lv_at hl 3 rfl) ?_
      refine lv_iconst (v := 0) hx hb dX8_touts_21 (by decide) ?_
      refine lv_iconst (v := 1) hx hb dX8_touts_22 (by decide) ?_
      obtain ⟨r5, er5, h⟩ := b1_s h
      refine h_callR (va_runS (As := [.int x3, .int 0, .int 1]) (rest := []) ⟨hx, hb, hml, hown, hts⟩ (mX8_in l D ac ad S f x3 (0 : Int32) (1 : Int32) r5  er5) (va_cwS 3 hts gX8_touts_X8_in rfl rfl rfl (by decide +kernel) ⟨Nat.le_of_ble_eq_true rfl, Nat.le_of_ble_eq_true rfl⟩) (h_preS hK hw _) rfl rfl hl.1 rfl (lv_room (Nat.le_of_ble_eq_true rfl)) dX8_touts_23 ⟨Nat.le_of_ble_eq_true rfl, Nat.le_of_ble_eq_true rfl⟩) ?_
      refine lv_if_ne (tgt := 31) hx hb dX8_touts_26 (by decide) (fun hc6 => ?_) (fun hc6 => ?_)
      · have h := ie hc6 h
        refine lv_aload_n hx hb dX8_touts_31 rfl (lv_at hl 0 rfl) ?_
        obtain ⟨r7, f8, ef8, h⟩ := b2_s h
        refine h_callQ hw (va_runV (As := []) (rest := []) ⟨hx, hb, hml, hown, hts⟩ (mX8_singles l D ac ad S f r7 f8 hS ef8) (cwV 0 hts gX8_touts_X8_singles rfl rfl rfl (by decide +kernel) ⟨Nat.le_of_ble_eq_true rfl, Nat.le_of_ble_eq_true rfl⟩) (h_preV hK hw hS.1 rfl _) rfl rfl hl.1 rfl (lv_room (Nat.le_of_ble_eq_true rfl)) dX8_touts_32 ⟨Nat.le_of_ble_eq_true rfl, Nat.le_of_ble_eq_true rfl⟩) (fun H locs hw => ?_)
        refine lv_istore (lv' := [(4, .int r7), (0, .ref (ad 146)), (1, .int x1), (2, .int x2), (3, .int x3)]) hx hb dX8_touts_35 hl (by decide) rfl (fun ls hl => ?_)
        refine lv_iconst (v := 1) hx hb dX8_touts_37 (by decide) ?_
        refine lv_istore (lv' := [(5, .int 1), (4, .int r7), (0, .ref (ad 146)), (1, .int x1), (2, .int x2), (3, .int x3)]) hx hb dX8_touts_38 hl (by decide) rfl (fun ls hl => ?_)
        refine lv_iconst (v := 0) hx hb dX8_touts_40 (by decide) ?_
        refine lv_istore (lv' := [(6, .int 0), (5, .int 1), (4, .int r7), (0, .ref (ad 146)), (1, .int x1), (2, .int x2), (3, .int x3)]) hx hb dX8_touts_41 hl (by decide) rfl (fun ls hl => ?_)
        exact J43 _ f8 r7 1 0 _ _ _ hw (lv_sub hl [3, 4, 5, 6, 2, 1, 0] rfl) h
      · have h := it hc6 h
        refine lv_iconst (v := (-1)) hx hb dX8_touts_29 (by decide) ?_
        exact h_retQ hx hb hr hlocks hw rfl (so2 h) dX8_touts_30

theorem hnX8_gaol_X8 : ∀ w ∈ wsX80, w ∈ wsX8_gaol := by decide +kernel
theorem hkX8_gaol_43 : Cond.fieldLink RX8 43 (TX8 22).1 (TX8 22).2.1 (TX8 22).2.2.1 ∈ wsX8_gaol := by decide +kernel
theorem hdX8_gaol_c268 : Cond.constantLong RX8 268 (7919) ∈ wsX8_gaol := by decide +kernel
theorem hdX8_gaol_c270 : Cond.constantLong RX8 270 (6151) ∈ wsX8_gaol := by decide +kernel
theorem hdX8_gaol_c272 : Cond.constantLong RX8 272 (65521) ∈ wsX8_gaol := by decide +kernel
theorem hkX8_gaol_87 : Cond.fieldLink RX8 87 (TX8 2).1 (TX8 2).2.1 (TX8 2).2.2.1 ∈ wsX8_gaol := by decide +kernel
theorem hkX8_gaol_80 : Cond.fieldLink RX8 80 (TX8 0).1 (TX8 0).2.1 (TX8 0).2.2.1 ∈ wsX8_gaol := by decide +kernel
set_option maxHeartbeats 8000000 in
set_option maxRecDepth 100000 in
theorem mX8_gaol (l : Launch) (D : va_G) (ac : Nat → ClassId) (ad : Nat → Nat) (S : List hSh) (f : hF) (x1 : Int32) (x2 : Int32) (x3 : Int32) (rv : Int32) (gv : hF) (hS : isMo S) (h : fX8_gaol f x1 x2 x3 = some (rv, gv)) : Met l yX8_gaol wsX8_gaol ({ frames := 4, cells := 0, slots := 0, locals := 92 }) (hPc D ac ad S f [.ref (ad 146), .int x1, .int x2, .int x3]) (hQi D ac ad S rv gv) 0 0 (hAd ad S.length) := by
  refine h_enter (C := RX8) (cc := cX8_gaol) (maxL := 14) (ret := (some .int)) (lv := [(0, .ref (ad 146)), (1, .int x1), (2, .int x2), (3, .int x3)]) (by decide) rfl rfl (Nat.le_of_ble_eq_true rfl) rfl (fun p e s m below meth c ls hx hb hml hr hlocks hown hts hK hw hl => ?_)
  have J225 : ∀ (q64 : hF → Int32 → Int32 → Option (Int32 × hF)) (hq64 : (∀ (f : hF) (y4 : Int32) (y5 : Int32) (H : Heap) (locs : List Loc) (ls : Array Slot), hOk D ac ad S (hAd ad S.length) s.heap f H locs → lv_has ls 14 [(0, .ref (ad 146)), (1, .int x1), (2, .int x2), (3, .int x3), (4, .int y4), (5, .int y5)] → q64 f y4 y5 = some (rv, gv) → W p l e ({ frames := 4, cells := 0, slots := 0, locals := 92 } : Room) s m ([.ref (ad 146), .int x1, .int x2, .int x3] : List Value).toArray below meth c H locs 0 0 (MQ below (hQi D ac ad S rv gv) ([.ref (ad 146), .int x1, .int x2, .int x3] : List Value).toArray s 0 0 (hAd ad S.length)) (F0 m 64 ls []))), (∀ (f : hF) (y4 : Int32) (y5 : Int32) (H : Heap) (locs : List Loc) (ls : Array Slot), hOk D ac ad S (hAd ad S.length) s.heap f H locs → lv_has ls 14 [(0, .ref (ad 146)), (1, .int x1), (2, .int x2), (3, .int x3), (4, .int y4), (5, .int y5)] → fX8_gaol_225 x1 x2 x3 q64 f y4 y5 = some (rv, gv) → W p l e ({ frames := 4, cells := 0, slots := 0, locals := 92 } : Room) s m ([.ref (ad 146), .int x1, .int x2, .int x3] : List Value).toArray below meth c H locs 0 0 (MQ below (hQi D ac ad S rv gv) ([.ref (ad 146), .int x1, .int x2, .int x3] : List Value).toArray s 0 0 (hAd ad S.length)) (F0 m 225 ls [])) := by
    intro q64 hq64 f y4 y5 H locs ls hw hl h
    unfold fX8_gaol_225 at h
    refine lv_aload_n hx hb dX8_gaol_225 rfl (lv_at hl 0 rfl) ?_
    refine h_getR hx hb hts hnX8_gaol_X8 hown hK hw hS.1 rfl 22 (by decide) rfl hkX8_gaol_43 dX8_gaol_226 ?_
    refine lv_iconst (v := 0) hx hb dX8_gaol_229 (by decide) ?_
    refine lv_dup2_11 hx hb dX8_gaol_230 rfl rfl ?_
    obtain ⟨hi1, h⟩ := gd_s h
    refine h_iald hx hb hK hw hS.2.2.2.2.2.2.2.2.2.2.2.2.1 hi1 dX8_gaol_231 ?_
    refine lv_iconst (v := 1) hx hb dX8_gaol_232 (by decide) ?_
    refine lv_iadd hx hb dX8_gaol_233 ?_
    obtain ⟨hi2, h⟩ := gd_s h
    obtain ⟨f3, ef3, h⟩ := lt_s2 h
    refine h_iast (g := f3) ef3 hx hb hK hw hS.2.2.2.2.2.2.2.2.2.2.2.2.1 hi2 dX8_gaol_234 (fun H locs hw => ?_)
    refine lv_iinc (v := (y5 + 1)) (lv' := [(5, .int (y5 + 1)), (0, .ref (ad 146)), (1, .int x1), (2, .int x2), (3, .int x3), (4, .int y4)]) hx hb dX8_gaol_235 hl (k := 5) rfl rfl (by decide) rfl (fun ls hl => ?_)
    refine lv_goto (tgt := 64) hx hb dX8_gaol_238 (by decide) ?_
    exact hq64 f3 y4 (y5 + 1) _ _ _ hw (lv_sub hl [1, 2, 3, 4, 5, 0] rfl) h
  have J192 : ∀ (q64 : hF → Int32 → Int32 → Option (Int32 × hF)) (hq64 : (∀ (f : hF) (y4 : Int32) (y5 : Int32) (H : Heap) (locs : List Loc) (ls : Array Slot), hOk D ac ad S (hAd ad S.length) s.heap f H locs → lv_has ls 14 [(0, .ref (ad 146)), (1, .int x1), (2, .int x2), (3, .int x3), (4, .int y4), (5, .int y5)] → q64 f y4 y5 = some (rv, gv) → W p l e ({ frames := 4, cells := 0, slots := 0, locals := 92 } : Room) s m ([.ref (ad 146), .int x1, .int x2, .int x3] : List Value).toArray below meth c H locs 0 0 (MQ below (hQi D ac ad S rv gv) ([.ref (ad 146), .int x1, .int x2, .int x3] : List Value).toArray s 0 0 (hAd ad S.length)) (F0 m 64 ls []))), (∀ (f : hF) (y4 : Int32) (y5 : Int32) (y8 : Int32) (y9 : Int32) (y12 : Int32) (H : Heap) (locs : List Loc) (ls : Array Slot), hOk D ac ad S (hAd ad S.length) s.heap f H locs → lv_has ls 14 [(0, .ref (ad 146)), (1, .int x1), (2, .int x2), (3, .int x3), (4, .int y4), (5, .int y5), (8, .int y8), (9, .int y9), (12, .int y12)] → fX8_gaol_192 x1 x2 x3 q64 f y4 y5 y8 y9 y12 = some (rv, gv) → W p l e ({ frames := 4, cells := 0, slots := 0, locals := 92 } : Room) s m ([.ref (ad 146), .int x1, .int x2, .int x3] : List Value).toArray below meth c H locs 0 0 (MQ below (hQi D ac ad S rv gv) ([.ref (ad 146), .int x1, .int x2, .int x3] : List Value).toArray s 0 0 (hAd ad S.length)) (F0 m 192 ls [])) := by
    intro q64 hq64 f y4 y5 y8 y9 y12 H locs ls hw hl h
    unfold fX8_gaol_192 at h
    refine lv_iload hx hb dX8_gaol_192 (lv_at hl 6 rfl) ?_
    refine lv_sipush (v := 256) hx hb dX8_gaol_194 (by decide) ?_
    refine lv_idiv hx hb dX8_gaol_197 (by decide) ?_
    refine lv_iconst (v := 2) hx hb dX8_gaol_198 (by decide) ?_
    refine lv_irem hx hb dX8_gaol_199 (by decide) ?_
    refine lv_if_ne (tgt := 225) hx hb dX8_gaol_200 (by decide) (fun hc1 => ?_) (fun hc1 => ?_)
    · have h := ie hc1 h
      exact J225 q64 hq64 f y4 y5 _ _ _ hw (lv_sub hl [0, 1, 2, 3, 4, 5] rfl) h
    · have h := it hc1 h
      refine lv_iload hx hb dX8_gaol_203 (lv_at hl 8 rfl) ?_
      refine lv_if_eq (tgt := 225) hx hb dX8_gaol_205 (by decide) (fun hc2 => ?_) (fun hc2 => ?_)
      · have h := it hc2 h
        exact J225 q64 hq64 f y4 y5 _ _ _ hw (lv_sub hl [0, 1, 2, 3, 4, 5] rfl) h
      · have h := ie hc2 h
        refine lv_aload_n hx hb dX8_gaol_208 rfl (lv_at hl 0 rfl) ?_
        refine lv_iload hx hb dX8_gaol_209 (lv_at hl 7 rfl) ?_
        obtain ⟨r3, er3, h⟩ := b1_s h
        refine h_callR (va_runV (As := [.int y9]) (rest := []) ⟨hx, hb, hml, hown, hts⟩ (mX8_canLeave l D ac ad S f y9 r3 hS er3) (cwV 1 hts gX8_gaol_X8_canLeave rfl rfl rfl (by decide +kernel) ⟨Nat.le_of_ble_eq_true rfl, Nat.le_of_ble_eq_true rfl⟩) (h_preV hK hw hS.1 rfl _) rfl rfl hl.1 rfl (lv_room (Nat.le_of_ble_eq_true rfl)) dX8_gaol_211 ⟨Nat.le_of_ble_eq_true rfl, Nat.le_of_ble_eq_true rfl⟩) ?_
        refine lv_if_eq (tgt := 225) hx hb dX8_gaol_214 (by decide) (fun hc4 => ?_) (fun hc4 => ?_)
        · have h := it hc4 h
          exact J225 q64 hq64 f y4 y5 _ _ _ hw (lv_sub hl [0, 1, 2, 3, 4, 5] rfl) h
        · have h := ie hc4 h
          refine lv_aload_n hx hb dX8_gaol_217 rfl (lv_at hl 0 rfl) ?_
          refine lv_iload hx hb dX8_gaol_218 (lv_at hl 7 rfl) ?_
          obtain ⟨r5, f6, ef6, h⟩ := b2_s h
          refine h_callQ hw (va_runV (As := [.int y9]) (rest := []) ⟨hx, hb, hml, hown, hts⟩ (mX8_begins l D ac ad S f y9 r5 f6 hS ef6) (cwV 1 hts gX8_gaol_X8_begins rfl rfl rfl (by decide +kernel) ⟨Nat.le_of_ble_eq_true rfl, Nat.le_of_ble_eq_true rfl⟩) (h_preV hK hw hS.1 rfl _) rfl rfl hl.1 rfl (lv_room (Nat.le_of_ble_eq_true rfl)) dX8_gaol_220 ⟨Nat.le_of_ble_eq_true rfl, Nat.le_of_ble_eq_true rfl⟩) (fun H locs hw => ?_)
          refine lv_istore (lv' := [(13, .int r5), (0, .ref (ad 146)), (1, .int x1), (2, .int x2), (3, .int x3), (4, .int y4), (5, .int y5), (8, .int y8), (9, .int y9), (12, .int y12)]) hx hb dX8_gaol_223 hl (by decide) rfl (fun ls hl => ?_)
          exact J225 q64 hq64 f6 y4 y5 _ _ _ hw (lv_sub hl [1, 2, 3, 4, 5, 6] rfl) h
  have J152 : ∀ (q64 : hF → Int32 → Int32 → Option (Int32 × hF)) (hq64 : (∀ (f : hF) (y4 : Int32) (y5 : Int32) (H : Heap) (locs : List Loc) (ls : Array Slot), hOk D ac ad S (hAd ad S.length) s.heap f H locs → lv_has ls 14 [(0, .ref (ad 146)), (1, .int x1), (2, .int x2), (3, .int x3), (4, .int y4), (5, .int y5)] → q64 f y4 y5 = some (rv, gv) → W p l e ({ frames := 4, cells := 0, slots := 0, locals := 92 } : Room) s m ([.ref (ad 146), .int x1, .int x2, .int x3] : List Value).toArray below meth c H locs 0 0 (MQ below (hQi D ac ad S rv gv) ([.ref (ad 146), .int x1, .int x2, .int x3] : List Value).toArray s 0 0 (hAd ad S.length)) (F0 m 64 ls []))), (∀ (f : hF) (y4 : Int32) (y5 : Int32) (y8 : Int32) (y9 : Int32) (y10 : Int32) (y11 : Int32) (s0 : Int32) (H : Heap) (locs : List Loc) (ls : Array Slot), hOk D ac ad S (hAd ad S.length) s.heap f H locs → lv_has ls 14 [(0, .ref (ad 146)), (1, .int x1), (2, .int x2), (3, .int x3), (4, .int y4), (5, .int y5), (8, .int y8), (9, .int y9), (10, .int y10), (11, .int y11)] → fX8_gaol_152 x1 x2 x3 q64 f y4 y5 y8 y9 y10 y11 s0 = some (rv, gv) → W p l e ({ frames := 4, cells := 0, slots := 0, locals := 92 } : Room) s m ([.ref (ad 146), .int x1, .int x2, .int x3] : List Value).toArray below meth c H locs 0 0 (MQ below (hQi D ac ad S rv gv) ([.ref (ad 146), .int x1, .int x2, .int x3] : List Value).toArray s 0 0 (hAd ad S.length)) (F0 m 152 ls [.int s0])) := by
    intro q64 hq64 f y4 y5 y8 y9 y10 y11 s0 H locs ls hw hl h
    unfold fX8_gaol_152 at h
    refine lv_istore (lv' := [(12, .int s0), (0, .ref (ad 146)), (1, .int x1), (2, .int x2), (3, .int x3), (4, .int y4), (5, .int y5), (8, .int y8), (9, .int y9), (10, .int y10), (11, .int y11)]) hx hb dX8_gaol_152 hl (by decide) rfl (fun ls hl => ?_)
    refine lv_iload hx hb dX8_gaol_154 (lv_at hl 9 rfl) ?_
    refine lv_iload hx hb dX8_gaol_156 (lv_at hl 10 rfl) ?_
    refine lv_icmp_eq (tgt := 192) hx hb dX8_gaol_158 (by decide) (fun hc1 => ?_) (fun hc1 => ?_)
    · have h := it hc1 h
      exact J192 q64 hq64 f y4 y5 y8 y9 s0 _ _ _ hw (lv_sub hl [1, 2, 3, 4, 5, 6, 7, 8, 0] rfl) h
    · have h := ie hc1 h
      refine lv_iload hx hb dX8_gaol_161 (lv_at hl 0 rfl) ?_
      refine lv_if_eq (tgt := 192) hx hb dX8_gaol_163 (by decide) (fun hc2 => ?_) (fun hc2 => ?_)
      · have h := it hc2 h
        exact J192 q64 hq64 f y4 y5 y8 y9 s0 _ _ _ hw (lv_sub hl [1, 2, 3, 4, 5, 6, 7, 8, 0] rfl) h
      · have h := ie hc2 h
        refine lv_aload_n hx hb dX8_gaol_166 rfl (lv_at hl 1 rfl) ?_
        refine lv_iload hx hb dX8_gaol_167 (lv_at hl 8 rfl) ?_
        refine lv_iload hx hb dX8_gaol_169 (lv_at hl 9 rfl) ?_
        refine lv_iload hx hb dX8_gaol_171 (lv_at hl 10 rfl) ?_
        obtain ⟨r3, er3, h⟩ := b1_s h
        refine h_callR (va_runV (As := [.int y9, .int y10, .int y11]) (rest := []) ⟨hx, hb, hml, hown, hts⟩ (mX8_canWed l D ac ad S f y9 y10 y11 r3 hS er3) (cwV 3 hts gX8_gaol_X8_canWed rfl rfl rfl (by decide +kernel) ⟨Nat.le_of_ble_eq_true rfl, Nat.le_of_ble_eq_true rfl⟩) (h_preV hK hw hS.1 rfl _) rfl rfl hl.1 rfl (lv_room (Nat.le_of_ble_eq_true rfl)) dX8_gaol_173 ⟨Nat.le_of_ble_eq_true rfl, Nat.le_of_ble_eq_true rfl⟩) ?_
        refine lv_if_eq (tgt := 192) hx hb dX8_gaol_176 (by decide) (fun hc4 => ?_) (fun hc4 => ?_)
        · have h := it hc4 h
          exact J192 q64 hq64 f y4 y5 y8 y9 s0 _ _ _ hw (lv_sub hl [1, 2, 3, 4, 5, 6, 7, 8, 0] rfl) h
        · have h := ie hc4 h
          refine lv_aload_n hx hb dX8_gaol_179 rfl (lv_at hl 1 rfl) ?_
          refine lv_iload hx hb dX8_gaol_180 (lv_at hl 8 rfl) ?_
          refine lv_iload hx hb dX8_gaol_182 (lv_at hl 9 rfl) ?_
          refine lv_iload hx hb dX8_gaol_184 (lv_at hl 10 rfl) ?_
          obtain ⟨f5, ef5, h⟩ := b1_s h
          refine h_callV hw (va_runV (As := [.int y9, .int y10, .int y11]) (rest := []) ⟨hx, hb, hml, hown, hts⟩ (mX8_weds l D ac ad S f y9 y10 y11 f5 hS ef5) (cwV 3 hts gX8_gaol_X8_weds rfl rfl rfl (by decide +kernel) ⟨Nat.le_of_ble_eq_true rfl, Nat.le_of_ble_eq_true rfl⟩) (h_preV hK hw hS.1 rfl _) rfl rfl hl.1 rfl (lv_room (Nat.le_of_ble_eq_true rfl)) dX8_gaol_186 ⟨Nat.le_of_ble_eq_true rfl, Nat.le_of_ble_eq_true rfl⟩) (fun H locs hw => ?_)
          refine lv_goto (tgt := 225) hx hb dX8_gaol_189 (by decide) ?_
          exact J225 q64 hq64 f5 y4 y5 _ _ _ hw (lv_sub hl [1, 2, 3, 4, 5, 6] rfl) h
  have J64 : ∀ (n : Nat), (∀ (f : hF) (y4 : Int32) (y5 : Int32) (H : Heap) (locs : List Loc) (ls : Array Slot), hOk D ac ad S (hAd ad S.length) s.heap f H locs → lv_has ls 14 [(0, .ref (ad 146)), (1, .int x1), (2, .int x2), (3, .int x3), (4, .int y4), (5, .int y5)] → fX8_gaol_64 x1 x2 x3 n f y4 y5 = some (rv, gv) → W p l e ({ frames := 4, cells := 0, slots := 0, locals := 92 } : Room) s m ([.ref (ad 146), .int x1, .int x2, .int x3] : List Value).toArray below meth c H locs 0 0 (MQ below (hQi D ac ad S rv gv) ([.ref (ad 146), .int x1, .int x2, .int x3] : List Value).toArray s 0 0 (hAd ad S.length)) (F0 m 64 ls [])) := by
    intro n
    induction n with
    | zero =>
      intro f y4 y5 H locs ls hw hl h
      rw [fX8_gaol_64] at h
      cases h
    | succ n ih =>
      intro f y4 y5 H locs ls hw hl h
      rw [fX8_gaol_64] at h
      refine lv_iload hx hb dX8_gaol_64 (lv_at hl 5 rfl) ?_
      refine lv_iload_n hx hb dX8_gaol_66 rfl (lv_at hl 2 rfl) ?_
      refine lv_icmp_ge (tgt := 241) hx hb dX8_gaol_67 (by decide) (fun hc1 => ?_) (fun hc1 => ?_)
      · have h := it hc1 h
        refine lv_aload_n hx hb dX8_gaol_241 rfl (lv_at hl 0 rfl) ?_
        obtain ⟨f2, ef2, h⟩ := b1_s h
        refine h_callV hw (va_runV (As := []) (rest := []) ⟨hx, hb, hml, hown, hts⟩ (mX8_findHolds l D ac ad S f f2 hS ef2) (cwV 0 hts gX8_gaol_X8_findHolds rfl rfl rfl (by decide +kernel) ⟨Nat.le_of_ble_eq_true rfl, Nat.le_of_ble_eq_true rfl⟩) (h_preV hK hw hS.1 rfl _) rfl rfl hl.1 rfl (lv_room (Nat.le_of_ble_eq_true rfl)) dX8_gaol_242 ⟨Nat.le_of_ble_eq_true rfl, Nat.le_of_ble_eq_true rfl⟩) (fun H locs hw => ?_)
        refine lv_iload_n hx hb dX8_gaol_245 rfl (lv_at hl 3 rfl) ?_
        refine lv_if_ne (tgt := 256) hx hb dX8_gaol_246 (by decide) (fun hc3 => ?_) (fun hc3 => ?_)
        · have h := ie hc3 h
          refine lv_aload_n hx hb dX8_gaol_256 rfl (lv_at hl 0 rfl) ?_
          refine h_getR hx hb hts hnX8_gaol_X8 hown hK hw hS.1 rfl 22 (by decide) rfl hkX8_gaol_43 dX8_gaol_257 ?_
          refine lv_bipush (v := 9) hx hb dX8_gaol_260 (by decide) ?_
          obtain ⟨hi4, h⟩ := gd_s h
          refine h_iald hx hb hK hw hS.2.2.2.2.2.2.2.2.2.2.2.2.1 hi4 dX8_gaol_262 ?_
          refine lv_aload_n hx hb dX8_gaol_263 rfl (lv_at hl 0 rfl) ?_
          refine h_getR hx hb hts hnX8_gaol_X8 hown hK hw hS.1 rfl 22 (by decide) rfl hkX8_gaol_43 dX8_gaol_264 ?_
          refine lv_bipush (v := 10) hx hb dX8_gaol_267 (by decide) ?_
          obtain ⟨hi5, h⟩ := gd_s h
          refine h_iald hx hb hK hw hS.2.2.2.2.2.2.2.2.2.2.2.2.1 hi5 dX8_gaol_269 ?_
          refine lv_iadd hx hb dX8_gaol_270 ?_
          refine lv_aload_n hx hb dX8_gaol_271 rfl (lv_at hl 0 rfl) ?_
          refine h_getR hx hb hts hnX8_gaol_X8 hown hK hw hS.1 rfl 22 (by decide) rfl hkX8_gaol_43 dX8_gaol_272 ?_
          refine lv_bipush (v := 11) hx hb dX8_gaol_275 (by decide) ?_
          obtain ⟨hi6, h⟩ := gd_s h
          refine h_iald hx hb hK hw hS.2.2.2.2.2.2.2.2.2.2.2.2.1 hi6 dX8_gaol_277 ?_
          refine lv_iadd hx hb dX8_gaol_278 ?_
          refine lv_iload hx hb dX8_gaol_279 (lv_at hl 4 rfl) ?_
          refine lv_isub hx hb dX8_gaol_281 ?_
          exact h_retQ hx hb hr hlocks hw rfl (so2 h) dX8_gaol_282
        · have h := it hc3 h
          refine lv_aload_n hx hb dX8_gaol_249 rfl (lv_at hl 0 rfl) ?_
          obtain ⟨r7, er7, h⟩ := b1_s h
          refine h_callR (va_runV (As := []) (rest := []) ⟨hx, hb, hml, hown, hts⟩ (mX8_manyHold l D ac ad S f2 r7 hS er7) (cwV 0 hts gX8_gaol_X8_manyHold rfl rfl rfl (by decide +kernel) ⟨Nat.le_of_ble_eq_true rfl, Nat.le_of_ble_eq_true rfl⟩) (h_preV hK hw hS.1 rfl _) rfl rfl hl.1 rfl (lv_room (Nat.le_of_ble_eq_true rfl)) dX8_gaol_250 ⟨Nat.le_of_ble_eq_true rfl, Nat.le_of_ble_eq_true rfl⟩) ?_
          refine lv_goto (tgt := 282) hx hb dX8_gaol_253 (by decide) ?_
          exact h_retQ hx hb hr hlocks hw rfl (so2 h) dX8_gaol_282
      · have h := ie hc1 h
        refine lv_ldc2 hx hb hown (hts _ hdX8_gaol_c268) dX8_gaol_70 ?_
        refine lv_iload_n hx hb dX8_gaol_73 rfl (lv_at hl 1 rfl) ?_
        refine lv_i2l hx hb dX8_gaol_74 rfl ?_
        refine lv_lmul hx hb dX8_gaol_75 ?_
        refine lv_ldc2 hx hb hown (hts _ hdX8_gaol_c270) dX8_gaol_76 ?_
        refine lv_iload hx hb dX8_gaol_79 (lv_at hl 5 rfl) ?_
        refine lv_i2l hx hb dX8_gaol_81 rfl ?_
        refine lv_lmul hx hb dX8_gaol_82 ?_
        refine lv_ladd hx hb dX8_gaol_83 ?_
        refine lv_lconst (v := 1) hx hb dX8_gaol_84 (by decide) ?_
        refine lv_ladd hx hb dX8_gaol_85 ?_
        refine lv_lstore (lv' := [(6, .long (((7919 * x1.toInt64) + (6151 * y5.toInt64)) + 1)), (0, .ref (ad 146)), (1, .int x1), (2, .int x2), (3, .int x3), (4, .int y4), (5, .int y5)]) hx hb dX8_gaol_86 hl (by decide) rfl (fun ls hl => ?_)
        refine lv_lload hx hb dX8_gaol_88 (lv_at hl 0 rfl) ?_
        refine lv_lload hx hb dX8_gaol_90 (lv_at hl 0 rfl) ?_
        refine lv_lmul hx hb dX8_gaol_92 ?_
        refine lv_ldc2 hx hb hown (hts _ hdX8_gaol_c272) dX8_gaol_93 ?_
        refine lv_lrem hx hb dX8_gaol_96 (by decide) ?_
        refine lv_l2i hx hb dX8_gaol_97 rfl ?_
        refine lv_istore (lv' := [(8, .int (((((7919 * x1.toInt64) + (6151 * y5.toInt64)) + 1) * (((7919 * x1.toInt64) + (6151 * y5.toInt64)) + 1)) - ((((7919 * x1.toInt64) + (6151 * y5.toInt64)) + 1) * (((7919 * x1.toInt64) + (6151 * y5.toInt64)) + 1)) / 65521 * 65521).toInt32), (6, .long (((7919 * x1.toInt64) + (6151 * y5.toInt64)) + 1)), (0, .ref (ad 146)), (1, .int x1), (2, .int x2), (3, .int x3), (4, .int y4), (5, .int y5)]) hx hb dX8_gaol_98 hl (by decide) rfl (fun ls hl => ?_)
        refine lv_iload hx hb dX8_gaol_100 (lv_at hl 0 rfl) ?_
        refine lv_aload_n hx hb dX8_gaol_102 rfl (lv_at hl 2 rfl) ?_
        refine h_getI hx hb hts hnX8_gaol_X8 hown hK hw hS.1 rfl 2 (by decide) rfl hkX8_gaol_87 dX8_gaol_103 ?_
        obtain ⟨hz8, h⟩ := nz_s h
        refine lv_irem hx hb dX8_gaol_106 hz8 ?_
        refine lv_istore (lv' := [(9, .int ((((((7919 * x1.toInt64) + (6151 * y5.toInt64)) + 1) * (((7919 * x1.toInt64) + (6151 * y5.toInt64)) + 1)) - ((((7919 * x1.toInt64) + (6151 * y5.toInt64)) + 1) * (((7919 * x1.toInt64) + (6151 * y5.toInt64)) + 1)) / 65521 * 65521).toInt32 - (((((7919 * x1.toInt64) + (6151 * y5.toInt64)) + 1) * (((7919 * x1.toInt64) + (6151 * y5.toInt64)) + 1)) - ((((7919 * x1.toInt64) + (6151 * y5.toInt64)) + 1) * (((7919 * x1.toInt64) + (6151 * y5.toInt64)) + 1)) / 65521 * 65521).toInt32 / (f 146 2) * (f 146 2))), (8, .int (((((7919 * x1.toInt64) + (6151 * y5.toInt64)) + 1) * (((7919 * x1.toInt64) + (6151 * y5.toInt64)) + 1)) - ((((7919 * x1.toInt64) + (6151 * y5.toInt64)) + 1) * (((7919 * x1.toInt64) + (6151 * y5.toInt64)) + 1)) / 65521 * 65521).toInt32), (6, .long (((7919 * x1.toInt64) + (6151 * y5.toInt64)) + 1)), (0, .ref (ad 146)), (1, .int x1), (2, .int x2), (3, .int x3), (4, .int y4), (5, .int y5)]) hx hb dX8_gaol_107 hl (by decide) rfl (fun ls hl => ?_)
        refine lv_iload hx hb dX8_gaol_109 (lv_at hl 1 rfl) ?_
        refine lv_iconst (v := 4) hx hb dX8_gaol_111 (by decide) ?_
        refine lv_idiv hx hb dX8_gaol_112 (by decide) ?_
        refine lv_aload_n hx hb dX8_gaol_113 rfl (lv_at hl 3 rfl) ?_
        refine h_getI hx hb hts hnX8_gaol_X8 hown hK hw hS.1 rfl 0 (by decide) rfl hkX8_gaol_80 dX8_gaol_114 ?_
        obtain ⟨hz9, h⟩ := nz_s h
        refine lv_irem hx hb dX8_gaol_117 hz9 ?_
        refine lv_istore (lv' := [(10, .int (((((((7919 * x1.toInt64) + (6151 * y5.toInt64)) + 1) * (((7919 * x1.toInt64) + (6151 * y5.toInt64)) + 1)) - ((((7919 * x1.toInt64) + (6151 * y5.toInt64)) + 1) * (((7919 * x1.toInt64) + (6151 * y5.toInt64)) + 1)) / 65521 * 65521).toInt32 / 4) - ((((((7919 * x1.toInt64) + (6151 * y5.toInt64)) + 1) * (((7919 * x1.toInt64) + (6151 * y5.toInt64)) + 1)) - ((((7919 * x1.toInt64) + (6151 * y5.toInt64)) + 1) * (((7919 * x1.toInt64) + (6151 * y5.toInt64)) + 1)) / 65521 * 65521).toInt32 / 4) / (f 146 0) * (f 146 0))), (9, .int ((((((7919 * x1.toInt64) + (6151 * y5.toInt64)) + 1) * (((7919 * x1.toInt64) + (6151 * y5.toInt64)) + 1)) - ((((7919 * x1.toInt64) + (6151 * y5.toInt64)) + 1) * (((7919 * x1.toInt64) + (6151 * y5.toInt64)) + 1)) / 65521 * 65521).toInt32 - (((((7919 * x1.toInt64) + (6151 * y5.toInt64)) + 1) * (((7919 * x1.toInt64) + (6151 * y5.toInt64)) + 1)) - ((((7919 * x1.toInt64) + (6151 * y5.toInt64)) + 1) * (((7919 * x1.toInt64) + (6151 * y5.toInt64)) + 1)) / 65521 * 65521).toInt32 / (f 146 2) * (f 146 2))), (8, .int (((((7919 * x1.toInt64) + (6151 * y5.toInt64)) + 1) * (((7919 * x1.toInt64) + (6151 * y5.toInt64)) + 1)) - ((((7919 * x1.toInt64) + (6151 * y5.toInt64)) + 1) * (((7919 * x1.toInt64) + (6151 * y5.toInt64)) + 1)) / 65521 * 65521).toInt32), (6, .long (((7919 * x1.toInt64) + (6151 * y5.toInt64)) + 1)), (0, .ref (ad 146)), (1, .int x1), (2, .int x2), (3, .int x3), (4, .int y4), (5, .int y5)]) hx hb dX8_gaol_118 hl (by decide) rfl (fun ls hl => ?_)
        refine lv_iload hx hb dX8_gaol_120 (lv_at hl 2 rfl) ?_
        refine lv_bipush (v := 32) hx hb dX8_gaol_122 (by decide) ?_
        refine lv_idiv hx hb dX8_gaol_124 (by decide) ?_
        refine lv_aload_n hx hb dX8_gaol_125 rfl (lv_at hl 4 rfl) ?_
        refine h_getI hx hb hts hnX8_gaol_X8 hown hK hw hS.1 rfl 0 (by decide) rfl hkX8_gaol_80 dX8_gaol_126 ?_
        obtain ⟨hz10, h⟩ := nz_s h
        refine lv_irem hx hb dX8_gaol_129 hz10 ?_
        refine lv_istore (lv' := [(11, .int (((((((7919 * x1.toInt64) + (6151 * y5.toInt64)) + 1) * (((7919 * x1.toInt64) + (6151 * y5.toInt64)) + 1)) - ((((7919 * x1.toInt64) + (6151 * y5.toInt64)) + 1) * (((7919 * x1.toInt64) + (6151 * y5.toInt64)) + 1)) / 65521 * 65521).toInt32 / 32) - ((((((7919 * x1.toInt64) + (6151 * y5.toInt64)) + 1) * (((7919 * x1.toInt64) + (6151 * y5.toInt64)) + 1)) - ((((7919 * x1.toInt64) + (6151 * y5.toInt64)) + 1) * (((7919 * x1.toInt64) + (6151 * y5.toInt64)) + 1)) / 65521 * 65521).toInt32 / 32) / (f 146 0) * (f 146 0))), (10, .int (((((((7919 * x1.toInt64) + (6151 * y5.toInt64)) + 1) * (((7919 * x1.toInt64) + (6151 * y5.toInt64)) + 1)) - ((((7919 * x1.toInt64) + (6151 * y5.toInt64)) + 1) * (((7919 * x1.toInt64) + (6151 * y5.toInt64)) + 1)) / 65521 * 65521).toInt32 / 4) - ((((((7919 * x1.toInt64) + (6151 * y5.toInt64)) + 1) * (((7919 * x1.toInt64) + (6151 * y5.toInt64)) + 1)) - ((((7919 * x1.toInt64) + (6151 * y5.toInt64)) + 1) * (((7919 * x1.toInt64) + (6151 * y5.toInt64)) + 1)) / 65521 * 65521).toInt32 / 4) / (f 146 0) * (f 146 0))), (9, .int ((((((7919 * x1.toInt64) + (6151 * y5.toInt64)) + 1) * (((7919 * x1.toInt64) + (6151 * y5.toInt64)) + 1)) - ((((7919 * x1.toInt64) + (6151 * y5.toInt64)) + 1) * (((7919 * x1.toInt64) + (6151 * y5.toInt64)) + 1)) / 65521 * 65521).toInt32 - (((((7919 * x1.toInt64) + (6151 * y5.toInt64)) + 1) * (((7919 * x1.toInt64) + (6151 * y5.toInt64)) + 1)) - ((((7919 * x1.toInt64) + (6151 * y5.toInt64)) + 1) * (((7919 * x1.toInt64) + (6151 * y5.toInt64)) + 1)) / 65521 * 65521).toInt32 / (f 146 2) * (f 146 2))), (8, .int (((((7919 * x1.toInt64) + (6151 * y5.toInt64)) + 1) * (((7919 * x1.toInt64) + (6151 * y5.toInt64)) + 1)) - ((((7919 * x1.toInt64) + (6151 * y5.toInt64)) + 1) * (((7919 * x1.toInt64) + (6151 * y5.toInt64)) + 1)) / 65521 * 65521).toInt32), (6, .long (((7919 * x1.toInt64) + (6151 * y5.toInt64)) + 1)), (0, .ref (ad 146)), (1, .int x1), (2, .int x2), (3, .int x3), (4, .int y4), (5, .int y5)]) hx hb dX8_gaol_130 hl (by decide) rfl (fun ls hl => ?_)
        refine lv_aload_n hx hb dX8_gaol_132 rfl (lv_at hl 5 rfl) ?_
        refine h_getR hx hb hts hnX8_gaol_X8 hown hK hw hS.1 rfl 22 (by decide) rfl hkX8_gaol_43 dX8_gaol_133 ?_
        refine lv_bipush (v := 12) hx hb dX8_gaol_136 (by decide) ?_
        refine lv_iload hx hb dX8_gaol_138 (lv_at hl 2 rfl) ?_
        refine lv_iadd hx hb dX8_gaol_140 ?_
        obtain ⟨hi11, h⟩ := gd_s h
        refine h_iald hx hb hK hw hS.2.2.2.2.2.2.2.2.2.2.2.2.1 hi11 dX8_gaol_141 ?_
        refine lv_bipush (v := 8) hx hb dX8_gaol_142 (by decide) ?_
        refine lv_icmp_ge (tgt := 151) hx hb dX8_gaol_144 (by decide) (fun hc12 => ?_) (fun hc12 => ?_)
        · have h := it hc12 h
          refine lv_iconst (v := 0) hx hb dX8_gaol_151 (by decide) ?_
          exact J152 (fX8_gaol_64 x1 x2 x3 n) ih f y4 y5 ((((((7919 * x1.toInt64) + (6151 * y5.toInt64)) + 1) * (((7919 * x1.toInt64) + (6151 * y5.toInt64)) + 1)) - ((((7919 * x1.toInt64) + (6151 * y5.toInt64)) + 1) * (((7919 * x1.toInt64) + (6151 * y5.toInt64)) + 1)) / 65521 * 65521).toInt32) ((((((7919 * x1.toInt64) + (6151 * y5.toInt64)) + 1) * (((7919 * x1.toInt64) + (6151 * y5.toInt64)) + 1)) - ((((7919 * x1.toInt64) + (6151 * y5.toInt64)) + 1) * (((7919 * x1.toInt64) + (6151 * y5.toInt64)) + 1)) / 65521 * 65521).toInt32 - (((((7919 * x1.toInt64) + (6151 * y5.toInt64)) + 1) * (((7919 * x1.toInt64) + (6151 * y5.toInt64)) + 1)) - ((((7919 * x1.toInt64) + (6151 * y5.toInt64)) + 1) * (((7919 * x1.toInt64) + (6151 * y5.toInt64)) + 1)) / 65521 * 65521).toInt32 / (f 146 2) * (f 146 2)) (((((((7919 * x1.toInt64) + (6151 * y5.toInt64)) + 1) * (((7919 * x1.toInt64) + (6151 * y5.toInt64)) + 1)) - ((((7919 * x1.toInt64) + (6151 * y5.toInt64)) + 1) * (((7919 * x1.toInt64) + (6151 * y5.toInt64)) + 1)) / 65521 * 65521).toInt32 / 4) - ((((((7919 * x1.toInt64) + (6151 * y5.toInt64)) + 1) * (((7919 * x1.toInt64) + (6151 * y5.toInt64)) + 1)) - ((((7919 * x1.toInt64) + (6151 * y5.toInt64)) + 1) * (((7919 * x1.toInt64) + (6151 * y5.toInt64)) + 1)) / 65521 * 65521).toInt32 / 4) / (f 146 0) * (f 146 0)) (((((((7919 * x1.toInt64) + (6151 * y5.toInt64)) + 1) * (((7919 * x1.toInt64) + (6151 * y5.toInt64)) + 1)) - ((((7919 * x1.toInt64) + (6151 * y5.toInt64)) + 1) * (((7919 * x1.toInt64) + (6151 * y5.toInt64)) + 1)) / 65521 * 65521).toInt32 / 32) - ((((((7919 * x1.toInt64) + (6151 * y5.toInt64)) + 1) * (((7919 * x1.toInt64) + (6151 * y5.toInt64)) + 1)) - ((((7919 * x1.toInt64) + (6151 * y5.toInt64)) + 1) * (((7919 * x1.toInt64) + (6151 * y5.toInt64)) + 1)) / 65521 * 65521).toInt32 / 32) / (f 146 0) * (f 146 0)) 0 _ _ _ hw (lv_sub hl [5, 6, 7, 8, 9, 10, 3, 2, 1, 0] rfl) h
        · have h := ie hc12 h
          refine lv_iconst (v := 1) hx hb dX8_gaol_147 (by decide) ?_
          refine lv_goto (tgt := 152) hx hb dX8_gaol_148 (by decide) ?_
          exact J152 (fX8_gaol_64 x1 x2 x3 n) ih f y4 y5 ((((((7919 * x1.toInt64) + (6151 * y5.toInt64)) + 1) * (((7919 * x1.toInt64) + (6151 * y5.toInt64)) + 1)) - ((((7919 * x1.toInt64) + (6151 * y5.toInt64)) + 1) * (((7919 * x1.toInt64) + (6151 * y5.toInt64)) + 1)) / 65521 * 65521).toInt32) ((((((7919 * x1.toInt64) + (6151 * y5.toInt64)) + 1) * (((7919 * x1.toInt64) + (6151 * y5.toInt64)) + 1)) - ((((7919 * x1.toInt64) + (6151 * y5.toInt64)) + 1) * (((7919 * x1.toInt64) + (6151 * y5.toInt64)) + 1)) / 65521 * 65521).toInt32 - (((((7919 * x1.toInt64) + (6151 * y5.toInt64)) + 1) * (((7919 * x1.toInt64) + (6151 * y5.toInt64)) + 1)) - ((((7919 * x1.toInt64) + (6151 * y5.toInt64)) + 1) * (((7919 * x1.toInt64) + (6151 * y5.toInt64)) + 1)) / 65521 * 65521).toInt32 / (f 146 2) * (f 146 2)) (((((((7919 * x1.toInt64) + (6151 * y5.toInt64)) + 1) * (((7919 * x1.toInt64) + (6151 * y5.toInt64)) + 1)) - ((((7919 * x1.toInt64) + (6151 * y5.toInt64)) + 1) * (((7919 * x1.toInt64) + (6151 * y5.toInt64)) + 1)) / 65521 * 65521).toInt32 / 4) - ((((((7919 * x1.toInt64) + (6151 * y5.toInt64)) + 1) * (((7919 * x1.toInt64) + (6151 * y5.toInt64)) + 1)) - ((((7919 * x1.toInt64) + (6151 * y5.toInt64)) + 1) * (((7919 * x1.toInt64) + (6151 * y5.toInt64)) + 1)) / 65521 * 65521).toInt32 / 4) / (f 146 0) * (f 146 0)) (((((((7919 * x1.toInt64) + (6151 * y5.toInt64)) + 1) * (((7919 * x1.toInt64) + (6151 * y5.toInt64)) + 1)) - ((((7919 * x1.toInt64) + (6151 * y5.toInt64)) + 1) * (((7919 * x1.toInt64) + (6151 * y5.toInt64)) + 1)) / 65521 * 65521).toInt32 / 32) - ((((((7919 * x1.toInt64) + (6151 * y5.toInt64)) + 1) * (((7919 * x1.toInt64) + (6151 * y5.toInt64)) + 1)) - ((((7919 * x1.toInt64) + (6151 * y5.toInt64)) + 1) * (((7919 * x1.toInt64) + (6151 * y5.toInt64)) + 1)) / 65521 * 65521).toInt32 / 32) / (f 146 0) * (f 146 0)) 1 _ _ _ hw (lv_sub hl [5, 6, 7, 8, 9, 10, 3, 2, 1, 0] rfl) h
  unfold fX8_gaol at h
  refine lv_iload_n hx hb dX8_gaol_0 rfl (lv_at hl 1 rfl) ?_
  refine lv_iconst (v := 0) hx hb dX8_gaol_1 (by decide) ?_
  refine lv_sipush (v := 9999) hx hb dX8_gaol_2 (by decide) ?_
  obtain ⟨r1, er1, h⟩ := b1_s h
  refine h_callR (va_runS (As := [.int x1, .int 0, .int 9999]) (rest := []) ⟨hx, hb, hml, hown, hts⟩ (mX8_in l D ac ad S f x1 (0 : Int32) (9999 : Int32) r1  er1) (va_cwS 3 hts gX8_gaol_X8_in rfl rfl rfl (by decide +kernel) ⟨Nat.le_of_ble_eq_true rfl, Nat.le_of_ble_eq_true rfl⟩) (h_preS hK hw _) rfl rfl hl.1 rfl (lv_room (Nat.le_of_ble_eq_true rfl)) dX8_gaol_5 ⟨Nat.le_of_ble_eq_true rfl, Nat.le_of_ble_eq_true rfl⟩) ?_
  refine lv_if_eq (tgt := 30) hx hb dX8_gaol_8 (by decide) (fun hc2 => ?_) (fun hc2 => ?_)
  · have h := it hc2 h
    refine lv_iconst (v := (-1)) hx hb dX8_gaol_30 (by decide) ?_
    exact h_retQ hx hb hr hlocks hw rfl (so2 h) dX8_gaol_31
  · have h := ie hc2 h
    refine lv_iload_n hx hb dX8_gaol_11 rfl (lv_at hl 2 rfl) ?_
    refine lv_iconst (v := 1) hx hb dX8_gaol_12 (by decide) ?_
    refine lv_bipush (v := 40) hx hb dX8_gaol_13 (by decide) ?_
    obtain ⟨r3, er3, h⟩ := b1_s h
    refine h_callR (va_runS (As := [.int x2, .int 1, .int 40]) (rest := []) ⟨hx, hb, hml, hown, hts⟩ (mX8_in l D ac ad S f x2 (1 : Int32) (40 : Int32) r3  er3) (va_cwS 3 hts gX8_gaol_X8_in rfl rfl rfl (by decide +kernel) ⟨Nat.le_of_ble_eq_true rfl, Nat.le_of_ble_eq_true rfl⟩) (h_preS hK hw _) rfl rfl hl.1 rfl (lv_room (Nat.le_of_ble_eq_true rfl)) dX8_gaol_15 ⟨Nat.le_of_ble_eq_true rfl, Nat.le_of_ble_eq_true rfl⟩) ?_
    refine lv_if_eq (tgt := 30) hx hb dX8_gaol_18 (by decide) (fun hc4 => ?_) (fun hc4 => ?_)
    · have h := it hc4 h
      refine lv_iconst (v := (-1)) hx hb dX8_gaol_30 (by decide) ?_
      exact h_retQ hx hb hr hlocks hw rfl (so2 h) dX8_gaol_31
    · have h := ie hc4 h
      refine lv_iload_n hx hb dX8_gaol_21 rfl (lv_at hl 3 rfl) ?_
      refine lv_iconst (v := 0) hx hb dX8_gaol_22 (by decide) ?_
      refine lv_iconst (v := 1) hx hb dX8_gaol_23 (by decide) ?_
      obtain ⟨r5, er5, h⟩ := b1_s h
      refine h_callR (va_runS (As := [.int x3, .int 0, .int 1]) (rest := []) ⟨hx, hb, hml, hown, hts⟩ (mX8_in l D ac ad S f x3 (0 : Int32) (1 : Int32) r5  er5) (va_cwS 3 hts gX8_gaol_X8_in rfl rfl rfl (by decide +kernel) ⟨Nat.le_of_ble_eq_true rfl, Nat.le_of_ble_eq_true rfl⟩) (h_preS hK hw _) rfl rfl hl.1 rfl (lv_room (Nat.le_of_ble_eq_true rfl)) dX8_gaol_24 ⟨Nat.le_of_ble_eq_true rfl, Nat.le_of_ble_eq_true rfl⟩) ?_
      refine lv_if_ne (tgt := 32) hx hb dX8_gaol_27 (by decide) (fun hc6 => ?_) (fun hc6 => ?_)
      · have h := ie hc6 h
        refine lv_aload_n hx hb dX8_gaol_32 rfl (lv_at hl 0 rfl) ?_
        obtain ⟨f7, ef7, h⟩ := b1_s h
        refine h_callV hw (va_runV (As := []) (rest := []) ⟨hx, hb, hml, hown, hts⟩ (mX8_asItIs l D ac ad S f f7 hS ef7) (cwV 0 hts gX8_gaol_X8_asItIs rfl rfl rfl (by decide +kernel) ⟨Nat.le_of_ble_eq_true rfl, Nat.le_of_ble_eq_true rfl⟩) (h_preV hK hw hS.1 rfl _) rfl rfl hl.1 rfl (lv_room (Nat.le_of_ble_eq_true rfl)) dX8_gaol_33 ⟨Nat.le_of_ble_eq_true rfl, Nat.le_of_ble_eq_true rfl⟩) (fun H locs hw => ?_)
        refine lv_aload_n hx hb dX8_gaol_36 rfl (lv_at hl 0 rfl) ?_
        refine h_getR hx hb hts hnX8_gaol_X8 hown hK hw hS.1 rfl 22 (by decide) rfl hkX8_gaol_43 dX8_gaol_37 ?_
        refine lv_bipush (v := 9) hx hb dX8_gaol_40 (by decide) ?_
        obtain ⟨hi8, h⟩ := gd_s h
        refine h_iald hx hb hK hw hS.2.2.2.2.2.2.2.2.2.2.2.2.1 hi8 dX8_gaol_42 ?_
        refine lv_aload_n hx hb dX8_gaol_43 rfl (lv_at hl 0 rfl) ?_
        refine h_getR hx hb hts hnX8_gaol_X8 hown hK hw hS.1 rfl 22 (by decide) rfl hkX8_gaol_43 dX8_gaol_44 ?_
        refine lv_bipush (v := 10) hx hb dX8_gaol_47 (by decide) ?_
        obtain ⟨hi9, h⟩ := gd_s h
        refine h_iald hx hb hK hw hS.2.2.2.2.2.2.2.2.2.2.2.2.1 hi9 dX8_gaol_49 ?_
        refine lv_iadd hx hb dX8_gaol_50 ?_
        refine lv_aload_n hx hb dX8_gaol_51 rfl (lv_at hl 0 rfl) ?_
        refine h_getR hx hb hts hnX8_gaol_X8 hown hK hw hS.1 rfl 22 (by decide) rfl hkX8_gaol_43 dX8_gaol_52 ?_
        refine lv_bipush (v := 11) hx hb dX8_gaol_55 (by decide) ?_
        obtain ⟨hi10, h⟩ := gd_s h
        refine h_iald hx hb hK hw hS.2.2.2.2.2.2.2.2.2.2.2.2.1 hi10 dX8_gaol_57 ?_
        refine lv_iadd hx hb dX8_gaol_58 ?_
        refine lv_istore (lv' := [(4, .int (((f7 158 (9 : Int32).toNatClampNeg) + (f7 158 (10 : Int32).toNatClampNeg)) + (f7 158 (11 : Int32).toNatClampNeg))), (0, .ref (ad 146)), (1, .int x1), (2, .int x2), (3, .int x3)]) hx hb dX8_gaol_59 hl (by decide) rfl (fun ls hl => ?_)
        refine lv_iconst (v := 0) hx hb dX8_gaol_61 (by decide) ?_
        refine lv_istore (lv' := [(5, .int 0), (4, .int (((f7 158 (9 : Int32).toNatClampNeg) + (f7 158 (10 : Int32).toNatClampNeg)) + (f7 158 (11 : Int32).toNatClampNeg))), (0, .ref (ad 146)), (1, .int x1), (2, .int x2), (3, .int x3)]) hx hb dX8_gaol_62 hl (by decide) rfl (fun ls hl => ?_)
        exact J64 _ f7 (((f7 158 (9 : Int32).toNatClampNeg) + (f7 158 (10 : Int32).toNatClampNeg)) + (f7 158 (11 : Int32).toNatClampNeg)) 0 _ _ _ hw (lv_sub hl [2, 3, 4, 5, 1, 0] rfl) h
      · have h := it hc6 h
        refine lv_iconst (v := (-1)) hx hb dX8_gaol_30 (by decide) ?_
        exact h_retQ hx hb hr hlocks hw rfl (so2 h) dX8_gaol_31

theorem hnX8_keep_X8 : ∀ w ∈ wsX80, w ∈ wsX8_keep := by decide +kernel
theorem hkX8_keep_140 : Cond.fieldLink RX8 140 (TX8 8).1 (TX8 8).2.1 (TX8 8).2.2.1 ∈ wsX8_keep := by decide +kernel
theorem hkX8_keep_22 : Cond.fieldLink RX8 22 (TX8 9).1 (TX8 9).2.1 (TX8 9).2.2.1 ∈ wsX8_keep := by decide +kernel
theorem hkX8_keep_16 : Cond.fieldLink RX8 16 (TX8 5).1 (TX8 5).2.1 (TX8 5).2.2.1 ∈ wsX8_keep := by decide +kernel
set_option maxHeartbeats 8000000 in
set_option maxRecDepth 100000 in
theorem mX8_keep (l : Launch) (D : va_G) (ac : Nat → ClassId) (ad : Nat → Nat) (S : List hSh) (f : hF) (rv : Int32) (gv : hF) (hS : isMo S) (h : fX8_keep f = some (rv, gv)) : Met l yX8_keep wsX8_keep ({ frames := 1, cells := 0, slots := 0, locals := 25 }) (hPc D ac ad S f [.ref (ad 146)]) (hQi D ac ad S rv gv) 0 0 (hAd ad S.length) := by
  refine h_enter (C := RX8) (cc := cX8_keep) (maxL := 1) (ret := (some .int)) (lv := [(0, .ref (ad 146))]) (by decide) rfl rfl (Nat.le_of_ble_eq_true rfl) rfl (fun p e s m below meth c ls hx hb hml hr hlocks hown hts hK hw hl => ?_)
  unfold fX8_keep at h
  refine lv_aload_n hx hb dX8_keep_0 rfl (lv_at hl 0 rfl) ?_
  refine h_getI hx hb hts hnX8_keep_X8 hown hK hw hS.1 rfl 8 (by decide) rfl hkX8_keep_140 dX8_keep_1 ?_
  refine lv_iconst (v := 2) hx hb dX8_keep_4 (by decide) ?_
  refine lv_icmp_ne (tgt := 11) hx hb dX8_keep_5 (by decide) (fun hc1 => ?_) (fun hc1 => ?_)
  · have h := ie hc1 h
    refine lv_aload_n hx hb dX8_keep_11 rfl (lv_at hl 0 rfl) ?_
    refine h_getR hx hb hts hnX8_keep_X8 hown hK hw hS.1 rfl 9 (by decide) rfl hkX8_keep_22 dX8_keep_12 ?_
    refine lv_bipush (v := 111) hx hb dX8_keep_15 (by decide) ?_
    refine lv_aload_n hx hb dX8_keep_17 rfl (lv_at hl 0 rfl) ?_
    refine h_getI hx hb hts hnX8_keep_X8 hown hK hw hS.1 rfl 8 (by decide) rfl hkX8_keep_140 dX8_keep_18 ?_
    refine lv_imul hx hb dX8_keep_21 ?_
    refine lv_aload_n hx hb dX8_keep_22 rfl (lv_at hl 0 rfl) ?_
    refine h_getR hx hb hts hnX8_keep_X8 hown hK hw hS.1 rfl 5 (by decide) rfl hkX8_keep_16 dX8_keep_23 ?_
    refine lv_iconst (v := 0) hx hb dX8_keep_26 (by decide) ?_
    refine lv_bipush (v := 111) hx hb dX8_keep_27 (by decide) ?_
    obtain ⟨f2, ef2, h⟩ := b1_s h
    refine h_callV hw (va_runS (As := [.ref (ad 151), .int (111 * (f 146 8)), .ref (ad 149), .int 0, .int 111]) (rest := []) ⟨hx, hb, hml, hown, hts⟩ (mX8_copies l D ac ad S 151 222 149 111 f (111 * (f 146 8)) (0 : Int32) (111 : Int32) f2 hS.2.2.2.2.2.1 hS.2.2.2.1 ef2) (va_cwS 5 hts gX8_keep_X8_copies rfl rfl rfl (by decide +kernel) ⟨Nat.le_of_ble_eq_true rfl, Nat.le_of_ble_eq_true rfl⟩) (h_preS hK hw _) rfl rfl hl.1 rfl (lv_room (Nat.le_of_ble_eq_true rfl)) dX8_keep_29 ⟨Nat.le_of_ble_eq_true rfl, Nat.le_of_ble_eq_true rfl⟩) (fun H locs hw => ?_)
    refine lv_aload_n hx hb dX8_keep_32 rfl (lv_at hl 0 rfl) ?_
    refine lv_dup hx hb dX8_keep_33 rfl ?_
    refine h_getI hx hb hts hnX8_keep_X8 hown hK hw hS.1 rfl 8 (by decide) rfl hkX8_keep_140 dX8_keep_34 ?_
    refine lv_iconst (v := 1) hx hb dX8_keep_37 (by decide) ?_
    refine lv_iadd hx hb dX8_keep_38 ?_
    obtain ⟨f3, ef3, h⟩ := lt_s2 h
    refine h_putI (g := f3) ef3 hx hb hts hnX8_keep_X8 tyX8 tyX8_ok nmX8 hown hK hw hS.1 rfl 8 rfl (by decide) rfl hkX8_keep_140 rfl (by decide +kernel) dX8_keep_39 (fun H locs hw => ?_)
    refine lv_aload_n hx hb dX8_keep_42 rfl (lv_at hl 0 rfl) ?_
    refine h_getI hx hb hts hnX8_keep_X8 hown hK hw hS.1 rfl 8 (by decide) rfl hkX8_keep_140 dX8_keep_43 ?_
    exact h_retQ hx hb hr hlocks hw rfl (so2 h) dX8_keep_46
  · have h := it hc1 h
    refine lv_bipush (v := (-3)) hx hb dX8_keep_8 (by decide) ?_
    exact h_retQ hx hb hr hlocks hw rfl (so2 h) dX8_keep_10

theorem hnX8_back_X8 : ∀ w ∈ wsX80, w ∈ wsX8_back := by decide +kernel
theorem hkX8_back_140 : Cond.fieldLink RX8 140 (TX8 8).1 (TX8 8).2.1 (TX8 8).2.2.1 ∈ wsX8_back := by decide +kernel
theorem hkX8_back_16 : Cond.fieldLink RX8 16 (TX8 5).1 (TX8 5).2.1 (TX8 5).2.2.1 ∈ wsX8_back := by decide +kernel
theorem hkX8_back_22 : Cond.fieldLink RX8 22 (TX8 9).1 (TX8 9).2.1 (TX8 9).2.2.1 ∈ wsX8_back := by decide +kernel
theorem hkX8_back_137 : Cond.fieldLink RX8 137 (TX8 6).1 (TX8 6).2.1 (TX8 6).2.2.1 ∈ wsX8_back := by decide +kernel
set_option maxHeartbeats 8000000 in
set_option maxRecDepth 100000 in
theorem mX8_back (l : Launch) (D : va_G) (ac : Nat → ClassId) (ad : Nat → Nat) (S : List hSh) (f : hF) (rv : Int32) (gv : hF) (hS : isMo S) (h : fX8_back f = some (rv, gv)) : Met l yX8_back wsX8_back ({ frames := 1, cells := 0, slots := 0, locals := 25 }) (hPc D ac ad S f [.ref (ad 146)]) (hQi D ac ad S rv gv) 0 0 (hAd ad S.length) := by
  refine h_enter (C := RX8) (cc := cX8_back) (maxL := 1) (ret := (some .int)) (lv := [(0, .ref (ad 146))]) (by decide) rfl rfl (Nat.le_of_ble_eq_true rfl) rfl (fun p e s m below meth c ls hx hb hml hr hlocks hown hts hK hw hl => ?_)
  unfold fX8_back at h
  refine lv_aload_n hx hb dX8_back_0 rfl (lv_at hl 0 rfl) ?_
  refine h_getI hx hb hts hnX8_back_X8 hown hK hw hS.1 rfl 8 (by decide) rfl hkX8_back_140 dX8_back_1 ?_
  refine lv_if_ne (tgt := 10) hx hb dX8_back_4 (by decide) (fun hc1 => ?_) (fun hc1 => ?_)
  · have h := ie hc1 h
    refine lv_aload_n hx hb dX8_back_10 rfl (lv_at hl 0 rfl) ?_
    refine lv_dup hx hb dX8_back_11 rfl ?_
    refine h_getI hx hb hts hnX8_back_X8 hown hK hw hS.1 rfl 8 (by decide) rfl hkX8_back_140 dX8_back_12 ?_
    refine lv_iconst (v := 1) hx hb dX8_back_15 (by decide) ?_
    refine lv_isub hx hb dX8_back_16 ?_
    obtain ⟨f2, ef2, h⟩ := lt_s2 h
    refine h_putI (g := f2) ef2 hx hb hts hnX8_back_X8 tyX8 tyX8_ok nmX8 hown hK hw hS.1 rfl 8 rfl (by decide) rfl hkX8_back_140 rfl (by decide +kernel) dX8_back_17 (fun H locs hw => ?_)
    refine lv_aload_n hx hb dX8_back_20 rfl (lv_at hl 0 rfl) ?_
    refine h_getR hx hb hts hnX8_back_X8 hown hK hw hS.1 rfl 5 (by decide) rfl hkX8_back_16 dX8_back_21 ?_
    refine lv_iconst (v := 0) hx hb dX8_back_24 (by decide) ?_
    refine lv_aload_n hx hb dX8_back_25 rfl (lv_at hl 0 rfl) ?_
    refine h_getR hx hb hts hnX8_back_X8 hown hK hw hS.1 rfl 9 (by decide) rfl hkX8_back_22 dX8_back_26 ?_
    refine lv_bipush (v := 111) hx hb dX8_back_29 (by decide) ?_
    refine lv_aload_n hx hb dX8_back_31 rfl (lv_at hl 0 rfl) ?_
    refine h_getI hx hb hts hnX8_back_X8 hown hK hw hS.1 rfl 8 (by decide) rfl hkX8_back_140 dX8_back_32 ?_
    refine lv_imul hx hb dX8_back_35 ?_
    refine lv_bipush (v := 111) hx hb dX8_back_36 (by decide) ?_
    obtain ⟨f3, ef3, h⟩ := b1_s h
    refine h_callV hw (va_runS (As := [.ref (ad 149), .int 0, .ref (ad 151), .int (111 * (f2 146 8)), .int 111]) (rest := []) ⟨hx, hb, hml, hown, hts⟩ (mX8_copies l D ac ad S 149 111 151 222 f2 (0 : Int32) (111 * (f2 146 8)) (111 : Int32) f3 hS.2.2.2.1 hS.2.2.2.2.2.1 ef3) (va_cwS 5 hts gX8_back_X8_copies rfl rfl rfl (by decide +kernel) ⟨Nat.le_of_ble_eq_true rfl, Nat.le_of_ble_eq_true rfl⟩) (h_preS hK hw _) rfl rfl hl.1 rfl (lv_room (Nat.le_of_ble_eq_true rfl)) dX8_back_38 ⟨Nat.le_of_ble_eq_true rfl, Nat.le_of_ble_eq_true rfl⟩) (fun H locs hw => ?_)
    refine lv_aload_n hx hb dX8_back_41 rfl (lv_at hl 0 rfl) ?_
    refine lv_iconst (v := 0) hx hb dX8_back_42 (by decide) ?_
    obtain ⟨f4, ef4, h⟩ := lt_s2 h
    refine h_putI (g := f4) ef4 hx hb hts hnX8_back_X8 tyX8 tyX8_ok nmX8 hown hK hw hS.1 rfl 6 rfl (by decide) rfl hkX8_back_137 rfl (by decide +kernel) dX8_back_43 (fun H locs hw => ?_)
    refine lv_aload_n hx hb dX8_back_46 rfl (lv_at hl 0 rfl) ?_
    refine h_getI hx hb hts hnX8_back_X8 hown hK hw hS.1 rfl 8 (by decide) rfl hkX8_back_140 dX8_back_47 ?_
    exact h_retQ hx hb hr hlocks hw rfl (so2 h) dX8_back_50
  · have h := it hc1 h
    refine lv_bipush (v := (-2)) hx hb dX8_back_7 (by decide) ?_
    exact h_retQ hx hb hr hlocks hw rfl (so2 h) dX8_back_9

set_option maxHeartbeats 8000000 in
set_option maxRecDepth 100000 in
theorem mX8_linesSuch (l : Launch) (D : va_G) (ac : Nat → ClassId) (ad : Nat → Nat) (S : List hSh) (f : hF) (x1 : Int32) (rv : Int32) (hS : isMo S) (h : fX8_linesSuch f x1 = some rv) : Met l yX8_linesSuch wsX8_linesSuch ({ frames := 2, cells := 0, slots := 0, locals := 42 }) (hPc D ac ad S f [.ref (ad 146), .int x1]) (hRi rv) 0 0 hNo := by
  refine h_enter (C := RX8) (cc := cX8_linesSuch) (maxL := 4) (ret := (some .int)) (lv := [(0, .ref (ad 146)), (1, .int x1)]) (by decide) rfl rfl (Nat.le_of_ble_eq_true rfl) rfl (fun p e s m below meth c ls hx hb hml hr hlocks hown hts hK hw hl => ?_)
  have J39 : ∀ (q4 : Int32 → Int32 → Option Int32) (hq4 : (∀ (y2 : Int32) (y3 : Int32) (ls : Array Slot), lv_has ls 4 [(0, .ref (ad 146)), (1, .int x1), (2, .int y2), (3, .int y3)] → q4 y2 y3 = some rv → W p l e ({ frames := 2, cells := 0, slots := 0, locals := 42 } : Room) s m ([.ref (ad 146), .int x1] : List Value).toArray below meth c s.heap [] 0 0 (MQ below (hRi rv) ([.ref (ad 146), .int x1] : List Value).toArray s 0 0 hNo) (F0 m 4 ls []))), (∀ (y3 : Int32) (s0 : Int32) (s1 : Int32) (ls : Array Slot), lv_has ls 4 [(0, .ref (ad 146)), (1, .int x1), (3, .int y3)] → fX8_linesSuch_39 f x1 q4 y3 s0 s1 = some rv → W p l e ({ frames := 2, cells := 0, slots := 0, locals := 42 } : Room) s m ([.ref (ad 146), .int x1] : List Value).toArray below meth c s.heap [] 0 0 (MQ below (hRi rv) ([.ref (ad 146), .int x1] : List Value).toArray s 0 0 hNo) (F0 m 39 ls [.int s1, .int s0])) := by
    intro q4 hq4 y3 s0 s1 ls hl h
    unfold fX8_linesSuch_39 at h
    refine lv_iadd hx hb dX8_linesSuch_39 ?_
    refine lv_istore_n (lv' := [(2, .int (s0 + s1)), (0, .ref (ad 146)), (1, .int x1), (3, .int y3)]) hx hb dX8_linesSuch_40 rfl hl (by decide) rfl (fun ls hl => ?_)
    refine lv_iinc (v := (y3 + 1)) (lv' := [(3, .int (y3 + 1)), (2, .int (s0 + s1)), (0, .ref (ad 146)), (1, .int x1)]) hx hb dX8_linesSuch_41 hl (k := 3) rfl rfl (by decide) rfl (fun ls hl => ?_)
    refine lv_goto (tgt := 4) hx hb dX8_linesSuch_44 (by decide) ?_
    exact hq4 (s0 + s1) (y3 + 1) _ (lv_sub hl [2, 3, 1, 0] rfl) h
  have J34 : ∀ (q4 : Int32 → Int32 → Option Int32) (hq4 : (∀ (y2 : Int32) (y3 : Int32) (ls : Array Slot), lv_has ls 4 [(0, .ref (ad 146)), (1, .int x1), (2, .int y2), (3, .int y3)] → q4 y2 y3 = some rv → W p l e ({ frames := 2, cells := 0, slots := 0, locals := 42 } : Room) s m ([.ref (ad 146), .int x1] : List Value).toArray below meth c s.heap [] 0 0 (MQ below (hRi rv) ([.ref (ad 146), .int x1] : List Value).toArray s 0 0 hNo) (F0 m 4 ls []))), (∀ (y3 : Int32) (s0 : Int32) (ls : Array Slot), lv_has ls 4 [(0, .ref (ad 146)), (1, .int x1), (3, .int y3)] → fX8_linesSuch_34 f x1 q4 y3 s0 = some rv → W p l e ({ frames := 2, cells := 0, slots := 0, locals := 42 } : Room) s m ([.ref (ad 146), .int x1] : List Value).toArray below meth c s.heap [] 0 0 (MQ below (hRi rv) ([.ref (ad 146), .int x1] : List Value).toArray s 0 0 hNo) (F0 m 34 ls [.int s0])) := by
    intro q4 hq4 y3 s0 ls hl h
    unfold fX8_linesSuch_34 at h
    refine lv_iconst (v := 1) hx hb dX8_linesSuch_34 (by decide) ?_
    refine lv_goto (tgt := 39) hx hb dX8_linesSuch_35 (by decide) ?_
    exact J39 q4 hq4 y3 s0 1 _ (lv_sub hl [0, 1, 2] rfl) h
  have J38 : ∀ (q4 : Int32 → Int32 → Option Int32) (hq4 : (∀ (y2 : Int32) (y3 : Int32) (ls : Array Slot), lv_has ls 4 [(0, .ref (ad 146)), (1, .int x1), (2, .int y2), (3, .int y3)] → q4 y2 y3 = some rv → W p l e ({ frames := 2, cells := 0, slots := 0, locals := 42 } : Room) s m ([.ref (ad 146), .int x1] : List Value).toArray below meth c s.heap [] 0 0 (MQ below (hRi rv) ([.ref (ad 146), .int x1] : List Value).toArray s 0 0 hNo) (F0 m 4 ls []))), (∀ (y3 : Int32) (s0 : Int32) (ls : Array Slot), lv_has ls 4 [(0, .ref (ad 146)), (1, .int x1), (3, .int y3)] → fX8_linesSuch_38 f x1 q4 y3 s0 = some rv → W p l e ({ frames := 2, cells := 0, slots := 0, locals := 42 } : Room) s m ([.ref (ad 146), .int x1] : List Value).toArray below meth c s.heap [] 0 0 (MQ below (hRi rv) ([.ref (ad 146), .int x1] : List Value).toArray s 0 0 hNo) (F0 m 38 ls [.int s0])) := by
    intro q4 hq4 y3 s0 ls hl h
    unfold fX8_linesSuch_38 at h
    refine lv_iconst (v := 0) hx hb dX8_linesSuch_38 (by decide) ?_
    exact J39 q4 hq4 y3 s0 0 _ (lv_sub hl [0, 1, 2] rfl) h
  have J4 : ∀ (n : Nat), (∀ (y2 : Int32) (y3 : Int32) (ls : Array Slot), lv_has ls 4 [(0, .ref (ad 146)), (1, .int x1), (2, .int y2), (3, .int y3)] → fX8_linesSuch_4 f x1 n y2 y3 = some rv → W p l e ({ frames := 2, cells := 0, slots := 0, locals := 42 } : Room) s m ([.ref (ad 146), .int x1] : List Value).toArray below meth c s.heap [] 0 0 (MQ below (hRi rv) ([.ref (ad 146), .int x1] : List Value).toArray s 0 0 hNo) (F0 m 4 ls [])) := by
    intro n
    induction n with
    | zero =>
      intro y2 y3 ls hl h
      rw [fX8_linesSuch_4] at h
      cases h
    | succ n ih =>
      intro y2 y3 ls hl h
      rw [fX8_linesSuch_4] at h
      refine lv_iload_n hx hb dX8_linesSuch_4 rfl (lv_at hl 3 rfl) ?_
      refine lv_bipush (v := 24) hx hb dX8_linesSuch_5 (by decide) ?_
      refine lv_icmp_ge (tgt := 47) hx hb dX8_linesSuch_7 (by decide) (fun hc1 => ?_) (fun hc1 => ?_)
      · have h := it hc1 h
        refine lv_iload_n hx hb dX8_linesSuch_47 rfl (lv_at hl 2 rfl) ?_
        exact h_retR hx hb hr hlocks rfl (so1 h) dX8_linesSuch_48
      · have h := ie hc1 h
        refine lv_iload_n hx hb dX8_linesSuch_10 rfl (lv_at hl 2 rfl) ?_
        refine lv_iload_n hx hb dX8_linesSuch_11 rfl (lv_at hl 1 rfl) ?_
        refine lv_if_eq (tgt := 26) hx hb dX8_linesSuch_12 (by decide) (fun hc2 => ?_) (fun hc2 => ?_)
        · have h := it hc2 h
          refine lv_aload_n hx hb dX8_linesSuch_26 rfl (lv_at hl 0 rfl) ?_
          refine lv_iload_n hx hb dX8_linesSuch_27 rfl (lv_at hl 3 rfl) ?_
          obtain ⟨r3, er3, h⟩ := b1_s h
          refine h_callR (va_runV (As := [.int y3]) (rest := [.int y2]) ⟨hx, hb, hml, hown, hts⟩ (mX8_isOfTwo l D ac ad S f y3 r3 hS er3) (cwV 1 hts gX8_linesSuch_X8_isOfTwo rfl rfl rfl (by decide +kernel) ⟨Nat.le_of_ble_eq_true rfl, Nat.le_of_ble_eq_true rfl⟩) (h_preV hK hw hS.1 rfl _) rfl rfl hl.1 rfl (lv_room (Nat.le_of_ble_eq_true rfl)) dX8_linesSuch_28 ⟨Nat.le_of_ble_eq_true rfl, Nat.le_of_ble_eq_true rfl⟩) ?_
          refine lv_if_eq (tgt := 38) hx hb dX8_linesSuch_31 (by decide) (fun hc4 => ?_) (fun hc4 => ?_)
          · have h := it hc4 h
            exact J38 (fX8_linesSuch_4 f x1 n) ih y3 y2 _ (lv_sub hl [0, 1, 3] rfl) h
          · have h := ie hc4 h
            exact J34 (fX8_linesSuch_4 f x1 n) ih y3 y2 _ (lv_sub hl [0, 1, 3] rfl) h
        · have h := ie hc2 h
          refine lv_aload_n hx hb dX8_linesSuch_15 rfl (lv_at hl 0 rfl) ?_
          refine lv_iload_n hx hb dX8_linesSuch_16 rfl (lv_at hl 3 rfl) ?_
          obtain ⟨r5, er5, h⟩ := b1_s h
          refine h_callR (va_runV (As := [.int y3]) (rest := [.int y2]) ⟨hx, hb, hml, hown, hts⟩ (mX8_isBlank l D ac ad S f y3 r5 hS er5) (cwV 1 hts gX8_linesSuch_X8_isBlank rfl rfl rfl (by decide +kernel) ⟨Nat.le_of_ble_eq_true rfl, Nat.le_of_ble_eq_true rfl⟩) (h_preV hK hw hS.1 rfl _) rfl rfl hl.1 rfl (lv_room (Nat.le_of_ble_eq_true rfl)) dX8_linesSuch_17 ⟨Nat.le_of_ble_eq_true rfl, Nat.le_of_ble_eq_true rfl⟩) ?_
          refine lv_if_eq (tgt := 38) hx hb dX8_linesSuch_20 (by decide) (fun hc6 => ?_) (fun hc6 => ?_)
          · have h := it hc6 h
            exact J38 (fX8_linesSuch_4 f x1 n) ih y3 y2 _ (lv_sub hl [0, 1, 3] rfl) h
          · have h := ie hc6 h
            refine lv_goto (tgt := 34) hx hb dX8_linesSuch_23 (by decide) ?_
            exact J34 (fX8_linesSuch_4 f x1 n) ih y3 y2 _ (lv_sub hl [0, 1, 3] rfl) h
  unfold fX8_linesSuch at h
  refine lv_iconst (v := 0) hx hb dX8_linesSuch_0 (by decide) ?_
  refine lv_istore_n (lv' := [(2, .int 0), (0, .ref (ad 146)), (1, .int x1)]) hx hb dX8_linesSuch_1 rfl hl (by decide) rfl (fun ls hl => ?_)
  refine lv_iconst (v := 0) hx hb dX8_linesSuch_2 (by decide) ?_
  refine lv_istore_n (lv' := [(3, .int 0), (2, .int 0), (0, .ref (ad 146)), (1, .int x1)]) hx hb dX8_linesSuch_3 rfl hl (by decide) rfl (fun ls hl => ?_)
  exact J4 _ 0 0 _ (lv_sub hl [2, 3, 1, 0] rfl) h

theorem hnX8_count_X8 : ∀ w ∈ wsX80, w ∈ wsX8_count := by decide +kernel
theorem hkX8_count_80 : Cond.fieldLink RX8 80 (TX8 0).1 (TX8 0).2.1 (TX8 0).2.2.1 ∈ wsX8_count := by decide +kernel
theorem hkX8_count_87 : Cond.fieldLink RX8 87 (TX8 2).1 (TX8 2).2.1 (TX8 2).2.2.1 ∈ wsX8_count := by decide +kernel
theorem hkX8_count_16 : Cond.fieldLink RX8 16 (TX8 5).1 (TX8 5).2.1 (TX8 5).2.2.1 ∈ wsX8_count := by decide +kernel
theorem hkX8_count_130 : Cond.fieldLink RX8 130 (TX8 4).1 (TX8 4).2.1 (TX8 4).2.2.1 ∈ wsX8_count := by decide +kernel
theorem hkX8_count_143 : Cond.fieldLink RX8 143 (TX8 10).1 (TX8 10).2.1 (TX8 10).2.2.1 ∈ wsX8_count := by decide +kernel
theorem hkX8_count_137 : Cond.fieldLink RX8 137 (TX8 6).1 (TX8 6).2.1 (TX8 6).2.2.1 ∈ wsX8_count := by decide +kernel
theorem hkX8_count_140 : Cond.fieldLink RX8 140 (TX8 8).1 (TX8 8).2.1 (TX8 8).2.2.1 ∈ wsX8_count := by decide +kernel
theorem hkX8_count_94 : Cond.fieldLink RX8 94 (TX8 13).1 (TX8 13).2.1 (TX8 13).2.2.1 ∈ wsX8_count := by decide +kernel
set_option maxHeartbeats 8000000 in
set_option maxRecDepth 100000 in
theorem mX8_count (l : Launch) (D : va_G) (ac : Nat → ClassId) (ad : Nat → Nat) (S : List hSh) (f : hF) (x1 : Int32) (rv : Int32) (gv : hF) (hS : isMo S) (h : fX8_count f x1 = some (rv, gv)) : Met l yX8_count wsX8_count ({ frames := 4, cells := 0, slots := 0, locals := 87 }) (hPc D ac ad S f [.ref (ad 146), .int x1]) (hQi D ac ad S rv gv) 0 0 (hAd ad S.length) := by
  refine h_enter (C := RX8) (cc := cX8_count) (maxL := 2) (ret := (some .int)) (lv := [(0, .ref (ad 146)), (1, .int x1)]) (by decide) rfl rfl (Nat.le_of_ble_eq_true rfl) rfl (fun p e s m below meth c ls hx hb hml hr hlocks hown hts hK hw hl => ?_)
  unfold fX8_count at h
  refine lv_aload_n hx hb dX8_count_0 rfl (lv_at hl 0 rfl) ?_
  obtain ⟨f1, ef1, h⟩ := b1_s h
  refine h_callV hw (va_runV (As := []) (rest := []) ⟨hx, hb, hml, hown, hts⟩ (mX8_asItIs l D ac ad S f f1 hS ef1) (cwV 0 hts gX8_count_X8_asItIs rfl rfl rfl (by decide +kernel) ⟨Nat.le_of_ble_eq_true rfl, Nat.le_of_ble_eq_true rfl⟩) (h_preV hK hw hS.1 rfl _) rfl rfl hl.1 rfl (lv_room (Nat.le_of_ble_eq_true rfl)) dX8_count_1 ⟨Nat.le_of_ble_eq_true rfl, Nat.le_of_ble_eq_true rfl⟩) (fun H locs hw => ?_)
  refine lv_aload_n hx hb dX8_count_4 rfl (lv_at hl 0 rfl) ?_
  obtain ⟨f2, ef2, h⟩ := b1_s h
  refine h_callV hw (va_runV (As := []) (rest := []) ⟨hx, hb, hml, hown, hts⟩ (mX8_findHolds l D ac ad S f1 f2 hS ef2) (cwV 0 hts gX8_count_X8_findHolds rfl rfl rfl (by decide +kernel) ⟨Nat.le_of_ble_eq_true rfl, Nat.le_of_ble_eq_true rfl⟩) (h_preV hK hw hS.1 rfl _) rfl rfl hl.1 rfl (lv_room (Nat.le_of_ble_eq_true rfl)) dX8_count_5 ⟨Nat.le_of_ble_eq_true rfl, Nat.le_of_ble_eq_true rfl⟩) (fun H locs hw => ?_)
  refine lv_iload_n hx hb dX8_count_8 rfl (lv_at hl 1 rfl) ?_
  by_cases hc7 : x1 = 0
  · have h := it hc7 h
    refine lv_tableIn (off := 59) (tgt := 68) hx hb dX8_count_9 (by rw [hc7]; decide) (by rw [hc7]; decide) (by rw [hc7]; rfl) (by decide) ?_
    refine lv_aload_n hx hb dX8_count_68 rfl (lv_at hl 0 rfl) ?_
    refine h_getI hx hb hts hnX8_count_X8 hown hK hw hS.1 rfl 0 (by decide) rfl hkX8_count_80 dX8_count_69 ?_
    exact h_retQ hx hb hr hlocks hw rfl (so2 h) dX8_count_72
  · have h := ie hc7 h
    by_cases hc8 : x1 = 1
    · have h := it hc8 h
      refine lv_tableIn (off := 64) (tgt := 73) hx hb dX8_count_9 (by rw [hc8]; decide) (by rw [hc8]; decide) (by rw [hc8]; rfl) (by decide) ?_
      refine lv_aload_n hx hb dX8_count_73 rfl (lv_at hl 0 rfl) ?_
      refine h_getI hx hb hts hnX8_count_X8 hown hK hw hS.1 rfl 2 (by decide) rfl hkX8_count_87 dX8_count_74 ?_
      exact h_retQ hx hb hr hlocks hw rfl (so2 h) dX8_count_77
    · have h := ie hc8 h
      by_cases hc9 : x1 = 2
      · have h := it hc9 h
        refine lv_tableIn (off := 69) (tgt := 78) hx hb dX8_count_9 (by rw [hc9]; decide) (by rw [hc9]; decide) (by rw [hc9]; rfl) (by decide) ?_
        refine lv_aload_n hx hb dX8_count_78 rfl (lv_at hl 0 rfl) ?_
        refine h_getR hx hb hts hnX8_count_X8 hown hK hw hS.1 rfl 5 (by decide) rfl hkX8_count_16 dX8_count_79 ?_
        refine lv_iconst (v := 0) hx hb dX8_count_82 (by decide) ?_
        obtain ⟨hi3, h⟩ := gd_s h
        refine h_iald hx hb hK hw hS.2.2.2.1 hi3 dX8_count_83 ?_
        exact h_retQ hx hb hr hlocks hw rfl (so2 h) dX8_count_84
      · have h := ie hc9 h
        by_cases hc10 : x1 = 3
        · have h := it hc10 h
          refine lv_tableIn (off := 76) (tgt := 85) hx hb dX8_count_9 (by rw [hc10]; decide) (by rw [hc10]; decide) (by rw [hc10]; rfl) (by decide) ?_
          refine lv_aload_n hx hb dX8_count_85 rfl (lv_at hl 0 rfl) ?_
          refine h_getI hx hb hts hnX8_count_X8 hown hK hw hS.1 rfl 4 (by decide) rfl hkX8_count_130 dX8_count_86 ?_
          exact h_retQ hx hb hr hlocks hw rfl (so2 h) dX8_count_89
        · have h := ie hc10 h
          by_cases hc11 : x1 = 4
          · have h := it hc11 h
            refine lv_tableIn (off := 81) (tgt := 90) hx hb dX8_count_9 (by rw [hc11]; decide) (by rw [hc11]; decide) (by rw [hc11]; rfl) (by decide) ?_
            refine lv_aload_n hx hb dX8_count_90 rfl (lv_at hl 0 rfl) ?_
            refine lv_iconst (v := 0) hx hb dX8_count_91 (by decide) ?_
            obtain ⟨r4, er4, h⟩ := b1_s h
            refine h_callR (va_runV (As := [.int 0]) (rest := []) ⟨hx, hb, hml, hown, hts⟩ (mX8_linesSuch l D ac ad S f2 (0 : Int32) r4 hS er4) (cwV 1 hts gX8_count_X8_linesSuch rfl rfl rfl (by decide +kernel) ⟨Nat.le_of_ble_eq_true rfl, Nat.le_of_ble_eq_true rfl⟩) (h_preV hK hw hS.1 rfl _) rfl rfl hl.1 rfl (lv_room (Nat.le_of_ble_eq_true rfl)) dX8_count_92 ⟨Nat.le_of_ble_eq_true rfl, Nat.le_of_ble_eq_true rfl⟩) ?_
            exact h_retQ hx hb hr hlocks hw rfl (so2 h) dX8_count_95
          · have h := ie hc11 h
            by_cases hc12 : x1 = 5
            · have h := it hc12 h
              refine lv_tableIn (off := 87) (tgt := 96) hx hb dX8_count_9 (by rw [hc12]; decide) (by rw [hc12]; decide) (by rw [hc12]; rfl) (by decide) ?_
              refine lv_aload_n hx hb dX8_count_96 rfl (lv_at hl 0 rfl) ?_
              obtain ⟨r5, er5, h⟩ := b1_s h
              refine h_callR (va_runV (As := []) (rest := []) ⟨hx, hb, hml, hown, hts⟩ (mX8_manyHold l D ac ad S f2 r5 hS er5) (cwV 0 hts gX8_count_X8_manyHold rfl rfl rfl (by decide +kernel) ⟨Nat.le_of_ble_eq_true rfl, Nat.le_of_ble_eq_true rfl⟩) (h_preV hK hw hS.1 rfl _) rfl rfl hl.1 rfl (lv_room (Nat.le_of_ble_eq_true rfl)) dX8_count_97 ⟨Nat.le_of_ble_eq_true rfl, Nat.le_of_ble_eq_true rfl⟩) ?_
              exact h_retQ hx hb hr hlocks hw rfl (so2 h) dX8_count_100
            · have h := ie hc12 h
              by_cases hc13 : x1 = 6
              · have h := it hc13 h
                refine lv_tableIn (off := 92) (tgt := 101) hx hb dX8_count_9 (by rw [hc13]; decide) (by rw [hc13]; decide) (by rw [hc13]; rfl) (by decide) ?_
                refine lv_aload_n hx hb dX8_count_101 rfl (lv_at hl 0 rfl) ?_
                refine lv_iconst (v := 1) hx hb dX8_count_102 (by decide) ?_
                obtain ⟨r6, er6, h⟩ := b1_s h
                refine h_callR (va_runV (As := [.int 1]) (rest := []) ⟨hx, hb, hml, hown, hts⟩ (mX8_linesSuch l D ac ad S f2 (1 : Int32) r6 hS er6) (cwV 1 hts gX8_count_X8_linesSuch rfl rfl rfl (by decide +kernel) ⟨Nat.le_of_ble_eq_true rfl, Nat.le_of_ble_eq_true rfl⟩) (h_preV hK hw hS.1 rfl _) rfl rfl hl.1 rfl (lv_room (Nat.le_of_ble_eq_true rfl)) dX8_count_103 ⟨Nat.le_of_ble_eq_true rfl, Nat.le_of_ble_eq_true rfl⟩) ?_
                exact h_retQ hx hb hr hlocks hw rfl (so2 h) dX8_count_106
              · have h := ie hc13 h
                by_cases hc14 : x1 = 7
                · have h := it hc14 h
                  refine lv_tableIn (off := 98) (tgt := 107) hx hb dX8_count_9 (by rw [hc14]; decide) (by rw [hc14]; decide) (by rw [hc14]; rfl) (by decide) ?_
                  refine lv_aload_n hx hb dX8_count_107 rfl (lv_at hl 0 rfl) ?_
                  refine h_getI hx hb hts hnX8_count_X8 hown hK hw hS.1 rfl 10 (by decide) rfl hkX8_count_143 dX8_count_108 ?_
                  exact h_retQ hx hb hr hlocks hw rfl (so2 h) dX8_count_111
                · have h := ie hc14 h
                  by_cases hc15 : x1 = 8
                  · have h := it hc15 h
                    refine lv_tableIn (off := 103) (tgt := 112) hx hb dX8_count_9 (by rw [hc15]; decide) (by rw [hc15]; decide) (by rw [hc15]; rfl) (by decide) ?_
                    refine lv_aload_n hx hb dX8_count_112 rfl (lv_at hl 0 rfl) ?_
                    refine h_getI hx hb hts hnX8_count_X8 hown hK hw hS.1 rfl 6 (by decide) rfl hkX8_count_137 dX8_count_113 ?_
                    exact h_retQ hx hb hr hlocks hw rfl (so2 h) dX8_count_116
                  · have h := ie hc15 h
                    by_cases hc16 : x1 = 9
                    · have h := it hc16 h
                      refine lv_tableIn (off := 108) (tgt := 117) hx hb dX8_count_9 (by rw [hc16]; decide) (by rw [hc16]; decide) (by rw [hc16]; rfl) (by decide) ?_
                      refine lv_aload_n hx hb dX8_count_117 rfl (lv_at hl 0 rfl) ?_
                      refine h_getI hx hb hts hnX8_count_X8 hown hK hw hS.1 rfl 8 (by decide) rfl hkX8_count_140 dX8_count_118 ?_
                      exact h_retQ hx hb hr hlocks hw rfl (so2 h) dX8_count_121
                    · have h := ie hc16 h
                      by_cases hc17 : x1 = 10
                      · have h := it hc17 h
                        refine lv_tableIn (off := 113) (tgt := 122) hx hb dX8_count_9 (by rw [hc17]; decide) (by rw [hc17]; decide) (by rw [hc17]; rfl) (by decide) ?_
                        refine lv_aload_n hx hb dX8_count_122 rfl (lv_at hl 0 rfl) ?_
                        refine h_getI hx hb hts hnX8_count_X8 hown hK hw hS.1 rfl 13 (by decide) rfl hkX8_count_94 dX8_count_123 ?_
                        exact h_retQ hx hb hr hlocks hw rfl (so2 h) dX8_count_126
                      · have h := ie hc17 h
                        have nhc7 := lv_neT (a := 0) hc7 rfl
                        have nhc8 := lv_neT (a := 1) hc8 rfl
                        have nhc9 := lv_neT (a := 2) hc9 rfl
                        have nhc10 := lv_neT (a := 3) hc10 rfl
                        have nhc11 := lv_neT (a := 4) hc11 rfl
                        have nhc12 := lv_neT (a := 5) hc12 rfl
                        have nhc13 := lv_neT (a := 6) hc13 rfl
                        have nhc14 := lv_neT (a := 7) hc14 rfl
                        have nhc15 := lv_neT (a := 8) hc15 rfl
                        have nhc16 := lv_neT (a := 9) hc16 rfl
                        have nhc17 := lv_neT (a := 10) hc17 rfl
                        refine lv_tableOut (tgt := 127) hx hb dX8_count_9 (by omega) (by decide) ?_
                        refine lv_iconst (v := (-1)) hx hb dX8_count_127 (by decide) ?_
                        exact h_retQ hx hb hr hlocks hw rfl (so2 h) dX8_count_128
