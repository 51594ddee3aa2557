/-! contracts: X8_falseOnes X8_date X8_look X8_can X8_see X8_forget -/
theorem hnX8_falseOnes_X8 : ∀ w ∈ wsX80, w ∈ wsX8_falseOnes := by decide +kernel
theorem hkX8_falseOnes_53 : Cond.fieldLink RX8 53 (TX8 25).1 (TX8 25).2.1 (TX8 25).2.2.1 ∈ wsX8_falseOnes := by decide +kernel
set_option maxHeartbeats 8000000 in
set_option maxRecDepth 100000 in
theorem mX8_falseOnes (l : Launch) (D : va_G) (ac : Nat → ClassId) (ad : Nat → Nat) (S : List hSh) (f : hF) (rv : Int32) (gv : hF) (hS : isMo S) (h : fX8_falseOnes f = some (rv, gv)) : Met l yX8_falseOnes wsX8_falseOnes ({ frames := 2, cells := 0, slots := 0, locals := 45 }) (hPc D ac ad S f [.ref (ad 146)]) (hQi D ac ad S rv gv) 0 0 (hAd ad S.length) := by
  refine h_enter (C := RX8) (cc := cX8_falseOnes) (maxL := 6) (ret := (some .int)) (lv := [(0, .ref (ad 146))]) (by decide) rfl rfl (Nat.le_of_ble_eq_true rfl) rfl (fun p e s m below meth c ls hx hb hml hr hlocks hown hts hK hw hl => ?_)
  have J29 : ∀ (q8 : hF → Int32 → Int32 → Option (Int32 × hF)) (hq8 : (∀ (f : hF) (y1 : Int32) (y2 : Int32) (H : Heap) (locs : List Loc) (ls : Array Slot), hOk D ac ad S (hAd ad S.length) s.heap f H locs → lv_has ls 6 [(0, .ref (ad 146)), (1, .int y1), (2, .int y2)] → q8 f y1 y2 = some (rv, gv) → W p l e ({ frames := 2, cells := 0, slots := 0, locals := 45 } : Room) s m ([.ref (ad 146)] : List Value).toArray below meth c H locs 0 0 (MQ below (hQi D ac ad S rv gv) ([.ref (ad 146)] : List Value).toArray s 0 0 (hAd ad S.length)) (F0 m 8 ls []))), (∀ (f : hF) (y1 : Int32) (y2 : Int32) (s1 : Int32) (s2 : Int32) (H : Heap) (locs : List Loc) (ls : Array Slot), hOk D ac ad S (hAd ad S.length) s.heap f H locs → lv_has ls 6 [(0, .ref (ad 146)), (1, .int y1), (2, .int y2)] → fX8_falseOnes_29 q8 f y1 y2 s1 s2 = some (rv, gv) → W p l e ({ frames := 2, cells := 0, slots := 0, locals := 45 } : Room) s m ([.ref (ad 146)] : List Value).toArray below meth c H locs 0 0 (MQ below (hQi D ac ad S rv gv) ([.ref (ad 146)] : List Value).toArray s 0 0 (hAd ad S.length)) (F0 m 29 ls [.int s2, .int s1, .ref (ad 161)])) := by
    intro q8 hq8 f y1 y2 s1 s2 H locs ls hw hl h
    unfold fX8_falseOnes_29 at h
    obtain ⟨hi1, h⟩ := gd_s h
    obtain ⟨f2, ef2, h⟩ := lt_s2 h
    refine h_iast (g := f2) ef2 hx hb hK hw hS.2.2.2.2.2.2.2.2.2.2.2.2.2.2.2 hi1 dX8_falseOnes_29 (fun H locs hw => ?_)
    refine lv_iinc (v := (y2 + 1)) (lv' := [(2, .int (y2 + 1)), (0, .ref (ad 146)), (1, .int y1)]) hx hb dX8_falseOnes_30 hl (k := 2) rfl rfl (by decide) rfl (fun ls hl => ?_)
    refine lv_goto (tgt := 8) hx hb dX8_falseOnes_33 (by decide) ?_
    exact hq8 f2 y1 (y2 + 1) _ _ _ hw (lv_sub hl [1, 2, 0] rfl) h
  have J103 : ∀ (q38 : hF → Int32 → Int32 → Option (Int32 × hF)) (hq38 : (∀ (f : hF) (y1 : Int32) (y2 : Int32) (H : Heap) (locs : List Loc) (ls : Array Slot), hOk D ac ad S (hAd ad S.length) s.heap f H locs → lv_has ls 6 [(0, .ref (ad 146)), (1, .int y1), (2, .int y2)] → q38 f y1 y2 = some (rv, gv) → W p l e ({ frames := 2, cells := 0, slots := 0, locals := 45 } : Room) s m ([.ref (ad 146)] : List Value).toArray below meth c H locs 0 0 (MQ below (hQi D ac ad S rv gv) ([.ref (ad 146)] : List Value).toArray s 0 0 (hAd ad S.length)) (F0 m 38 ls []))) (q76 : hF → Int32 → Int32 → Int32 → Int32 → Option (Int32 × hF)) (hq76 : (∀ (f : hF) (y1 : Int32) (y2 : Int32) (y3 : Int32) (y4 : Int32) (H : Heap) (locs : List Loc) (ls : Array Slot), hOk D ac ad S (hAd ad S.length) s.heap f H locs → lv_has ls 6 [(0, .ref (ad 146)), (1, .int y1), (2, .int y2), (3, .int y3), (4, .int y4)] → q76 f y1 y2 y3 y4 = some (rv, gv) → W p l e ({ frames := 2, cells := 0, slots := 0, locals := 45 } : Room) s m ([.ref (ad 146)] : List Value).toArray below meth c H locs 0 0 (MQ below (hQi D ac ad S rv gv) ([.ref (ad 146)] : List Value).toArray s 0 0 (hAd ad S.length)) (F0 m 76 ls []))), (∀ (f : hF) (y1 : Int32) (y2 : Int32) (y3 : Int32) (y4 : Int32) (s0 : Int32) (H : Heap) (locs : List Loc) (ls : Array Slot), hOk D ac ad S (hAd ad S.length) s.heap f H locs → lv_has ls 6 [(0, .ref (ad 146)), (1, .int y1), (2, .int y2), (3, .int y3), (4, .int y4)] → fX8_falseOnes_103 q38 q76 f y1 y2 y3 y4 s0 = some (rv, gv) → W p l e ({ frames := 2, cells := 0, slots := 0, locals := 45 } : Room) s m ([.ref (ad 146)] : List Value).toArray below meth c H locs 0 0 (MQ below (hQi D ac ad S rv gv) ([.ref (ad 146)] : List Value).toArray s 0 0 (hAd ad S.length)) (F0 m 103 ls [.int s0])) := by
    intro q38 hq38 q76 hq76 f y1 y2 y3 y4 s0 H locs ls hw hl h
    unfold fX8_falseOnes_103 at h
    refine lv_istore (lv' := [(5, .int s0), (0, .ref (ad 146)), (1, .int y1), (2, .int y2), (3, .int y3), (4, .int y4)]) hx hb dX8_falseOnes_103 hl (by decide) rfl (fun ls hl => ?_)
    refine lv_iload hx hb dX8_falseOnes_105 (lv_at hl 0 rfl) ?_
    refine lv_if_eq (tgt := 149) hx hb dX8_falseOnes_107 (by decide) (fun hc1 => ?_) (fun hc1 => ?_)
    · have h := it hc1 h
      refine lv_iinc (v := (y4 + (-1))) (lv' := [(4, .int (y4 + (-1))), (5, .int s0), (0, .ref (ad 146)), (1, .int y1), (2, .int y2), (3, .int y3)]) hx hb dX8_falseOnes_149 hl (k := 5) rfl rfl (by decide) rfl (fun ls hl => ?_)
      refine lv_goto (tgt := 76) hx hb dX8_falseOnes_152 (by decide) ?_
      exact hq76 f y1 y2 y3 (y4 + (-1)) _ _ _ hw (lv_sub hl [2, 3, 4, 5, 0] rfl) h
    · have h := ie hc1 h
      refine lv_aload_n hx hb dX8_falseOnes_110 rfl (lv_at hl 1 rfl) ?_
      refine h_getR hx hb hts hnX8_falseOnes_X8 hown hK hw hS.1 rfl 25 (by decide) rfl hkX8_falseOnes_53 dX8_falseOnes_111 ?_
      refine lv_iload hx hb dX8_falseOnes_114 (lv_at hl 5 rfl) ?_
      obtain ⟨hi2, h⟩ := gd_s h
      refine h_iald hx hb hK hw hS.2.2.2.2.2.2.2.2.2.2.2.2.2.2.2 hi2 dX8_falseOnes_116 ?_
      refine lv_iconst (v := 1) hx hb dX8_falseOnes_117 (by decide) ?_
      refine lv_iadd hx hb dX8_falseOnes_118 ?_
      refine lv_aload_n hx hb dX8_falseOnes_119 rfl (lv_at hl 1 rfl) ?_
      refine h_getR hx hb hts hnX8_falseOnes_X8 hown hK hw hS.1 rfl 25 (by decide) rfl hkX8_falseOnes_53 dX8_falseOnes_120 ?_
      refine lv_iload hx hb dX8_falseOnes_123 (lv_at hl 5 rfl) ?_
      refine lv_iload_n hx hb dX8_falseOnes_125 rfl (lv_at hl 4 rfl) ?_
      refine lv_ior hx hb dX8_falseOnes_126 ?_
      obtain ⟨hi3, h⟩ := gd_s h
      refine h_iald hx hb hK hw hS.2.2.2.2.2.2.2.2.2.2.2.2.2.2.2 hi3 dX8_falseOnes_127 ?_
      refine lv_icmp_le (tgt := 149) hx hb dX8_falseOnes_128 (by decide) (fun hc4 => ?_) (fun hc4 => ?_)
      · have h := it hc4 h
        refine lv_iinc (v := (y4 + (-1))) (lv' := [(4, .int (y4 + (-1))), (5, .int s0), (0, .ref (ad 146)), (1, .int y1), (2, .int y2), (3, .int y3)]) hx hb dX8_falseOnes_149 hl (k := 5) rfl rfl (by decide) rfl (fun ls hl => ?_)
        refine lv_goto (tgt := 76) hx hb dX8_falseOnes_152 (by decide) ?_
        exact hq76 f y1 y2 y3 (y4 + (-1)) _ _ _ hw (lv_sub hl [2, 3, 4, 5, 0] rfl) h
      · have h := ie hc4 h
        refine lv_aload_n hx hb dX8_falseOnes_131 rfl (lv_at hl 1 rfl) ?_
        refine h_getR hx hb hts hnX8_falseOnes_X8 hown hK hw hS.1 rfl 25 (by decide) rfl hkX8_falseOnes_53 dX8_falseOnes_132 ?_
        refine lv_iload hx hb dX8_falseOnes_135 (lv_at hl 5 rfl) ?_
        refine lv_iload_n hx hb dX8_falseOnes_137 rfl (lv_at hl 4 rfl) ?_
        refine lv_ior hx hb dX8_falseOnes_138 ?_
        refine lv_aload_n hx hb dX8_falseOnes_139 rfl (lv_at hl 1 rfl) ?_
        refine h_getR hx hb hts hnX8_falseOnes_X8 hown hK hw hS.1 rfl 25 (by decide) rfl hkX8_falseOnes_53 dX8_falseOnes_140 ?_
        refine lv_iload hx hb dX8_falseOnes_143 (lv_at hl 5 rfl) ?_
        obtain ⟨hi5, h⟩ := gd_s h
        refine h_iald hx hb hK hw hS.2.2.2.2.2.2.2.2.2.2.2.2.2.2.2 hi5 dX8_falseOnes_145 ?_
        refine lv_iconst (v := 1) hx hb dX8_falseOnes_146 (by decide) ?_
        refine lv_iadd hx hb dX8_falseOnes_147 ?_
        obtain ⟨hi6, h⟩ := gd_s h
        obtain ⟨f7, ef7, h⟩ := lt_s2 h
        refine h_iast (g := f7) ef7 hx hb hK hw hS.2.2.2.2.2.2.2.2.2.2.2.2.2.2.2 hi6 dX8_falseOnes_148 (fun H locs hw => ?_)
        refine lv_iinc (v := (y4 + (-1))) (lv' := [(4, .int (y4 + (-1))), (5, .int s0), (0, .ref (ad 146)), (1, .int y1), (2, .int y2), (3, .int y3)]) hx hb dX8_falseOnes_149 hl (k := 5) rfl rfl (by decide) rfl (fun ls hl => ?_)
        refine lv_goto (tgt := 76) hx hb dX8_falseOnes_152 (by decide) ?_
        exact hq76 f7 y1 y2 y3 (y4 + (-1)) _ _ _ hw (lv_sub hl [2, 3, 4, 5, 0] rfl) h
  have J102 : ∀ (q38 : hF → Int32 → Int32 → Option (Int32 × hF)) (hq38 : (∀ (f : hF) (y1 : Int32) (y2 : Int32) (H : Heap) (locs : List Loc) (ls : Array Slot), hOk D ac ad S (hAd ad S.length) s.heap f H locs → lv_has ls 6 [(0, .ref (ad 146)), (1, .int y1), (2, .int y2)] → q38 f y1 y2 = some (rv, gv) → W p l e ({ frames := 2, cells := 0, slots := 0, locals := 45 } : Room) s m ([.ref (ad 146)] : List Value).toArray below meth c H locs 0 0 (MQ below (hQi D ac ad S rv gv) ([.ref (ad 146)] : List Value).toArray s 0 0 (hAd ad S.length)) (F0 m 38 ls []))) (q76 : hF → Int32 → Int32 → Int32 → Int32 → Option (Int32 × hF)) (hq76 : (∀ (f : hF) (y1 : Int32) (y2 : Int32) (y3 : Int32) (y4 : Int32) (H : Heap) (locs : List Loc) (ls : Array Slot), hOk D ac ad S (hAd ad S.length) s.heap f H locs → lv_has ls 6 [(0, .ref (ad 146)), (1, .int y1), (2, .int y2), (3, .int y3), (4, .int y4)] → q76 f y1 y2 y3 y4 = some (rv, gv) → W p l e ({ frames := 2, cells := 0, slots := 0, locals := 45 } : Room) s m ([.ref (ad 146)] : List Value).toArray below meth c H locs 0 0 (MQ below (hQi D ac ad S rv gv) ([.ref (ad 146)] : List Value).toArray s 0 0 (hAd ad S.length)) (F0 m 76 ls []))), (∀ (f : hF) (y1 : Int32) (y2 : Int32) (y3 : Int32) (y4 : Int32) (H : Heap) (locs : List Loc) (ls : Array Slot), hOk D ac ad S (hAd ad S.length) s.heap f H locs → lv_has ls 6 [(0, .ref (ad 146)), (1, .int y1), (2, .int y2), (3, .int y3), (4, .int y4)] → fX8_falseOnes_102 q38 q76 f y1 y2 y3 y4 = some (rv, gv) → W p l e ({ frames := 2, cells := 0, slots := 0, locals := 45 } : Room) s m ([.ref (ad 146)] : List Value).toArray below meth c H locs 0 0 (MQ below (hQi D ac ad S rv gv) ([.ref (ad 146)] : List Value).toArray s 0 0 (hAd ad S.length)) (F0 m 102 ls [])) := by
    intro q38 hq38 q76 hq76 f y1 y2 y3 y4 H locs ls hw hl h
    unfold fX8_falseOnes_102 at h
    refine lv_iconst (v := 0) hx hb dX8_falseOnes_102 (by decide) ?_
    exact J103 q38 hq38 q76 hq76 f y1 y2 y3 y4 0 _ _ _ hw (lv_sub hl [0, 1, 2, 3, 4] rfl) h
  have J76 : ∀ (q38 : hF → Int32 → Int32 → Option (Int32 × hF)) (hq38 : (∀ (f : hF) (y1 : Int32) (y2 : Int32) (H : Heap) (locs : List Loc) (ls : Array Slot), hOk D ac ad S (hAd ad S.length) s.heap f H locs → lv_has ls 6 [(0, .ref (ad 146)), (1, .int y1), (2, .int y2)] → q38 f y1 y2 = some (rv, gv) → W p l e ({ frames := 2, cells := 0, slots := 0, locals := 45 } : Room) s m ([.ref (ad 146)] : List Value).toArray below meth c H locs 0 0 (MQ below (hQi D ac ad S rv gv) ([.ref (ad 146)] : List Value).toArray s 0 0 (hAd ad S.length)) (F0 m 38 ls []))) (n : Nat), (∀ (f : hF) (y1 : Int32) (y2 : Int32) (y3 : Int32) (y4 : Int32) (H : Heap) (locs : List Loc) (ls : Array Slot), hOk D ac ad S (hAd ad S.length) s.heap f H locs → lv_has ls 6 [(0, .ref (ad 146)), (1, .int y1), (2, .int y2), (3, .int y3), (4, .int y4)] → fX8_falseOnes_76 q38 n f y1 y2 y3 y4 = some (rv, gv) → W p l e ({ frames := 2, cells := 0, slots := 0, locals := 45 } : Room) s m ([.ref (ad 146)] : List Value).toArray below meth c H locs 0 0 (MQ below (hQi D ac ad S rv gv) ([.ref (ad 146)] : List Value).toArray s 0 0 (hAd ad S.length)) (F0 m 76 ls [])) := by
    intro q38 hq38 n
    induction n with
    | zero =>
      intro f y1 y2 y3 y4 H locs ls hw hl h
      rw [fX8_falseOnes_76] at h
      cases h
    | succ n ih =>
      intro f y1 y2 y3 y4 H locs ls hw hl h
      rw [fX8_falseOnes_76] at h
      refine lv_iload hx hb dX8_falseOnes_76 (lv_at hl 4 rfl) ?_
      refine lv_if_lt (tgt := 155) hx hb dX8_falseOnes_78 (by decide) (fun hc1 => ?_) (fun hc1 => ?_)
      · have h := it hc1 h
        refine lv_iinc (v := (y2 + 1)) (lv' := [(2, .int (y2 + 1)), (0, .ref (ad 146)), (1, .int y1), (3, .int y3), (4, .int y4)]) hx hb dX8_falseOnes_155 hl (k := 2) rfl rfl (by decide) rfl (fun ls hl => ?_)
        refine lv_goto (tgt := 38) hx hb dX8_falseOnes_158 (by decide) ?_
        exact hq38 f y1 (y2 + 1) _ _ _ hw (lv_sub hl [1, 2, 0] rfl) h
      · have h := ie hc1 h
        refine lv_aload_n hx hb dX8_falseOnes_81 rfl (lv_at hl 0 rfl) ?_
        refine h_getR hx hb hts hnX8_falseOnes_X8 hown hK hw hS.1 rfl 25 (by decide) rfl hkX8_falseOnes_53 dX8_falseOnes_82 ?_
        refine lv_iload hx hb dX8_falseOnes_85 (lv_at hl 4 rfl) ?_
        obtain ⟨hi2, h⟩ := gd_s h
        refine h_iald hx hb hK hw hS.2.2.2.2.2.2.2.2.2.2.2.2.2.2.2 hi2 dX8_falseOnes_87 ?_
        refine lv_if_lt (tgt := 102) hx hb dX8_falseOnes_88 (by decide) (fun hc3 => ?_) (fun hc3 => ?_)
        · have h := it hc3 h
          exact J102 q38 hq38 (fX8_falseOnes_76 q38 n) ih f y1 y2 y3 y4 _ _ _ hw (lv_sub hl [0, 1, 2, 3, 4] rfl) h
        · have h := ie hc3 h
          refine lv_iload hx hb dX8_falseOnes_91 (lv_at hl 4 rfl) ?_
          refine lv_iload_n hx hb dX8_falseOnes_93 rfl (lv_at hl 3 rfl) ?_
          refine lv_iand hx hb dX8_falseOnes_94 ?_
          refine lv_if_ne (tgt := 102) hx hb dX8_falseOnes_95 (by decide) (fun hc4 => ?_) (fun hc4 => ?_)
          · have h := ie hc4 h
            exact J102 q38 hq38 (fX8_falseOnes_76 q38 n) ih f y1 y2 y3 y4 _ _ _ hw (lv_sub hl [0, 1, 2, 3, 4] rfl) h
          · have h := it hc4 h
            refine lv_iconst (v := 1) hx hb dX8_falseOnes_98 (by decide) ?_
            refine lv_goto (tgt := 103) hx hb dX8_falseOnes_99 (by decide) ?_
            exact J103 q38 hq38 (fX8_falseOnes_76 q38 n) ih f y1 y2 y3 y4 1 _ _ _ hw (lv_sub hl [0, 1, 2, 3, 4] rfl) h
  have J165 : ∀ (n : Nat), (∀ (f : hF) (y1 : Int32) (y2 : Int32) (y3 : Int32) (H : Heap) (locs : List Loc) (ls : Array Slot), hOk D ac ad S (hAd ad S.length) s.heap f H locs → lv_has ls 6 [(0, .ref (ad 146)), (1, .int y1), (2, .int y2), (3, .int y3)] → fX8_falseOnes_165 n f y1 y2 y3 = some (rv, gv) → W p l e ({ frames := 2, cells := 0, slots := 0, locals := 45 } : Room) s m ([.ref (ad 146)] : List Value).toArray below meth c H locs 0 0 (MQ below (hQi D ac ad S rv gv) ([.ref (ad 146)] : List Value).toArray s 0 0 (hAd ad S.length)) (F0 m 165 ls [])) := by
    intro n
    induction n with
    | zero =>
      intro f y1 y2 y3 H locs ls hw hl h
      rw [fX8_falseOnes_165] at h
      cases h
    | succ n ih =>
      intro f y1 y2 y3 H locs ls hw hl h
      rw [fX8_falseOnes_165] at h
      refine lv_iload_n hx hb dX8_falseOnes_165 rfl (lv_at hl 3 rfl) ?_
      refine lv_sipush (v := 256) hx hb dX8_falseOnes_166 (by decide) ?_
      refine lv_icmp_ge (tgt := 199) hx hb dX8_falseOnes_169 (by decide) (fun hc1 => ?_) (fun hc1 => ?_)
      · have h := it hc1 h
        refine lv_iload_n hx hb dX8_falseOnes_199 rfl (lv_at hl 1 rfl) ?_
        refine lv_iload_n hx hb dX8_falseOnes_200 rfl (lv_at hl 2 rfl) ?_
        refine lv_isub hx hb dX8_falseOnes_201 ?_
        exact h_retQ hx hb hr hlocks hw rfl (so2 h) dX8_falseOnes_202
      · have h := ie hc1 h
        refine lv_aload_n hx hb dX8_falseOnes_172 rfl (lv_at hl 0 rfl) ?_
        refine h_getR hx hb hts hnX8_falseOnes_X8 hown hK hw hS.1 rfl 25 (by decide) rfl hkX8_falseOnes_53 dX8_falseOnes_173 ?_
        refine lv_iload_n hx hb dX8_falseOnes_176 rfl (lv_at hl 3 rfl) ?_
        obtain ⟨hi2, h⟩ := gd_s h
        refine h_iald hx hb hK hw hS.2.2.2.2.2.2.2.2.2.2.2.2.2.2.2 hi2 dX8_falseOnes_177 ?_
        refine lv_iload_n hx hb dX8_falseOnes_178 rfl (lv_at hl 2 rfl) ?_
        refine lv_icmp_le (tgt := 191) hx hb dX8_falseOnes_179 (by decide) (fun hc3 => ?_) (fun hc3 => ?_)
        · have h := it hc3 h
          refine lv_iload_n hx hb dX8_falseOnes_191 rfl (lv_at hl 2 rfl) ?_
          refine lv_istore_n (lv' := [(2, .int y2), (0, .ref (ad 146)), (1, .int y1), (3, .int y3)]) hx hb dX8_falseOnes_192 rfl hl (by decide) rfl (fun ls hl => ?_)
          refine lv_iinc (v := (y3 + 1)) (lv' := [(3, .int (y3 + 1)), (2, .int y2), (0, .ref (ad 146)), (1, .int y1)]) hx hb dX8_falseOnes_193 hl (k := 3) rfl rfl (by decide) rfl (fun ls hl => ?_)
          refine lv_goto (tgt := 165) hx hb dX8_falseOnes_196 (by decide) ?_
          exact ih f y1 y2 (y3 + 1) _ _ _ hw (lv_sub hl [2, 3, 1, 0] rfl) h
        · have h := ie hc3 h
          refine lv_aload_n hx hb dX8_falseOnes_182 rfl (lv_at hl 0 rfl) ?_
          refine h_getR hx hb hts hnX8_falseOnes_X8 hown hK hw hS.1 rfl 25 (by decide) rfl hkX8_falseOnes_53 dX8_falseOnes_183 ?_
          refine lv_iload_n hx hb dX8_falseOnes_186 rfl (lv_at hl 3 rfl) ?_
          obtain ⟨hi4, h⟩ := gd_s h
          refine h_iald hx hb hK hw hS.2.2.2.2.2.2.2.2.2.2.2.2.2.2.2 hi4 dX8_falseOnes_187 ?_
          refine lv_goto (tgt := 192) hx hb dX8_falseOnes_188 (by decide) ?_
          refine lv_istore_n (lv' := [(2, .int (f 161 y3.toNatClampNeg)), (0, .ref (ad 146)), (1, .int y1), (3, .int y3)]) hx hb dX8_falseOnes_192 rfl hl (by decide) rfl (fun ls hl => ?_)
          refine lv_iinc (v := (y3 + 1)) (lv' := [(3, .int (y3 + 1)), (2, .int (f 161 y3.toNatClampNeg)), (0, .ref (ad 146)), (1, .int y1)]) hx hb dX8_falseOnes_193 hl (k := 3) rfl rfl (by decide) rfl (fun ls hl => ?_)
          refine lv_goto (tgt := 165) hx hb dX8_falseOnes_196 (by decide) ?_
          exact ih f y1 (f 161 y3.toNatClampNeg) (y3 + 1) _ _ _ hw (lv_sub hl [2, 3, 1, 0] rfl) h
  have J38 : ∀ (n : Nat), (∀ (f : hF) (y1 : Int32) (y2 : Int32) (H : Heap) (locs : List Loc) (ls : Array Slot), hOk D ac ad S (hAd ad S.length) s.heap f H locs → lv_has ls 6 [(0, .ref (ad 146)), (1, .int y1), (2, .int y2)] → fX8_falseOnes_38 n f y1 y2 = some (rv, gv) → W p l e ({ frames := 2, cells := 0, slots := 0, locals := 45 } : Room) s m ([.ref (ad 146)] : List Value).toArray below meth c H locs 0 0 (MQ below (hQi D ac ad S rv gv) ([.ref (ad 146)] : List Value).toArray s 0 0 (hAd ad S.length)) (F0 m 38 ls [])) := by
    intro n
    induction n with
    | zero =>
      intro f y1 y2 H locs ls hw hl h
      rw [fX8_falseOnes_38] at h
      cases h
    | succ n ih =>
      intro f y1 y2 H locs ls hw hl h
      rw [fX8_falseOnes_38] at h
      refine lv_iload_n hx hb dX8_falseOnes_38 rfl (lv_at hl 2 rfl) ?_
      refine lv_bipush (v := 24) hx hb dX8_falseOnes_39 (by decide) ?_
      refine lv_icmp_ge (tgt := 161) hx hb dX8_falseOnes_41 (by decide) (fun hc1 => ?_) (fun hc1 => ?_)
      · have h := it hc1 h
        refine lv_iconst (v := 0) hx hb dX8_falseOnes_161 (by decide) ?_
        refine lv_istore_n (lv' := [(2, .int 0), (0, .ref (ad 146)), (1, .int y1)]) hx hb dX8_falseOnes_162 rfl hl (by decide) rfl (fun ls hl => ?_)
        refine lv_iconst (v := 0) hx hb dX8_falseOnes_163 (by decide) ?_
        refine lv_istore_n (lv' := [(3, .int 0), (2, .int 0), (0, .ref (ad 146)), (1, .int y1)]) hx hb dX8_falseOnes_164 rfl hl (by decide) rfl (fun ls hl => ?_)
        exact J165 _ f y1 0 0 _ _ _ hw (lv_sub hl [2, 3, 1, 0] rfl) h
      · have h := ie hc1 h
        refine lv_aload_n hx hb dX8_falseOnes_44 rfl (lv_at hl 0 rfl) ?_
        refine lv_iload_n hx hb dX8_falseOnes_45 rfl (lv_at hl 2 rfl) ?_
        obtain ⟨r2, er2, h⟩ := b1_s h
        refine h_callR (va_runV (As := [.int y2]) (rest := []) ⟨hx, hb, hml, hown, hts⟩ (mX8_isOfTwo l D ac ad S f y2 r2 hS er2) (cwV 1 hts gX8_falseOnes_X8_isOfTwo rfl rfl rfl (by decide +kernel) ⟨Nat.le_of_ble_eq_true rfl, Nat.le_of_ble_eq_true rfl⟩) (h_preV hK hw hS.1 rfl _) rfl rfl hl.1 rfl (lv_room (Nat.le_of_ble_eq_true rfl)) dX8_falseOnes_46 ⟨Nat.le_of_ble_eq_true rfl, Nat.le_of_ble_eq_true rfl⟩) ?_
        refine lv_if_eq (tgt := 155) hx hb dX8_falseOnes_49 (by decide) (fun hc3 => ?_) (fun hc3 => ?_)
        · have h := it hc3 h
          refine lv_iinc (v := (y2 + 1)) (lv' := [(2, .int (y2 + 1)), (0, .ref (ad 146)), (1, .int y1)]) hx hb dX8_falseOnes_155 hl (k := 2) rfl rfl (by decide) rfl (fun ls hl => ?_)
          refine lv_goto (tgt := 38) hx hb dX8_falseOnes_158 (by decide) ?_
          exact ih f y1 (y2 + 1) _ _ _ hw (lv_sub hl [1, 2, 0] rfl) h
        · have h := ie hc3 h
          refine lv_iinc (v := (y1 + 1)) (lv' := [(1, .int (y1 + 1)), (0, .ref (ad 146)), (2, .int y2)]) hx hb dX8_falseOnes_52 hl (k := 1) rfl rfl (by decide) rfl (fun ls hl => ?_)
          refine lv_iconst (v := 1) hx hb dX8_falseOnes_55 (by decide) ?_
          refine lv_aload_n hx hb dX8_falseOnes_56 rfl (lv_at hl 1 rfl) ?_
          refine lv_iload_n hx hb dX8_falseOnes_57 rfl (lv_at hl 2 rfl) ?_
          obtain ⟨r4, er4, h⟩ := b1_s h
          refine h_callR (va_runV (As := [.int y2]) (rest := [.int 1]) ⟨hx, hb, hml, hown, hts⟩ (mX8_manOf l D ac ad S f y2 r4 hS er4) (cwV 1 hts gX8_falseOnes_X8_manOf rfl rfl rfl (by decide +kernel) ⟨Nat.le_of_ble_eq_true rfl, Nat.le_of_ble_eq_true rfl⟩) (h_preV hK hw hS.1 rfl _) rfl rfl hl.1 rfl (lv_room (Nat.le_of_ble_eq_true rfl)) dX8_falseOnes_58 ⟨Nat.le_of_ble_eq_true rfl, Nat.le_of_ble_eq_true rfl⟩) ?_
          refine lv_ishl hx hb dX8_falseOnes_61 ?_
          refine lv_iconst (v := 1) hx hb dX8_falseOnes_62 (by decide) ?_
          refine lv_aload_n hx hb dX8_falseOnes_63 rfl (lv_at hl 1 rfl) ?_
          refine lv_iload_n hx hb dX8_falseOnes_64 rfl (lv_at hl 2 rfl) ?_
          obtain ⟨r5, er5, h⟩ := b1_s h
          refine h_callR (va_runV (As := [.int y2]) (rest := [.int 1, .int (1 <<< (r4 &&& 31))]) ⟨hx, hb, hml, hown, hts⟩ (mX8_womanOf l D ac ad S f y2 r5 hS er5) (cwV 1 hts gX8_falseOnes_X8_womanOf rfl rfl rfl (by decide +kernel) ⟨Nat.le_of_ble_eq_true rfl, Nat.le_of_ble_eq_true rfl⟩) (h_preV hK hw hS.1 rfl _) rfl rfl hl.1 rfl (lv_room (Nat.le_of_ble_eq_true rfl)) dX8_falseOnes_65 ⟨Nat.le_of_ble_eq_true rfl, Nat.le_of_ble_eq_true rfl⟩) ?_
          refine lv_ishl hx hb dX8_falseOnes_68 ?_
          refine lv_ior hx hb dX8_falseOnes_69 ?_
          refine lv_istore_n (lv' := [(3, .int ((1 <<< (r4 &&& 31)) ||| (1 <<< (r5 &&& 31)))), (1, .int (y1 + 1)), (0, .ref (ad 146)), (2, .int y2)]) hx hb dX8_falseOnes_70 rfl hl (by decide) rfl (fun ls hl => ?_)
          refine lv_sipush (v := 255) hx hb dX8_falseOnes_71 (by decide) ?_
          refine lv_istore (lv' := [(4, .int 255), (3, .int ((1 <<< (r4 &&& 31)) ||| (1 <<< (r5 &&& 31)))), (1, .int (y1 + 1)), (0, .ref (ad 146)), (2, .int y2)]) hx hb dX8_falseOnes_74 hl (by decide) rfl (fun ls hl => ?_)
          exact J76 (fX8_falseOnes_38 n) ih _ f (y1 + 1) y2 ((1 <<< (r4 &&& 31)) ||| (1 <<< (r5 &&& 31))) 255 _ _ _ hw (lv_sub hl [3, 2, 4, 1, 0] rfl) h
  have J8 : ∀ (n : Nat), (∀ (f : hF) (y1 : Int32) (y2 : Int32) (H : Heap) (locs : List Loc) (ls : Array Slot), hOk D ac ad S (hAd ad S.length) s.heap f H locs → lv_has ls 6 [(0, .ref (ad 146)), (1, .int y1), (2, .int y2)] → fX8_falseOnes_8 n f y1 y2 = some (rv, gv) → W p l e ({ frames := 2, cells := 0, slots := 0, locals := 45 } : Room) s m ([.ref (ad 146)] : List Value).toArray below meth c H locs 0 0 (MQ below (hQi D ac ad S rv gv) ([.ref (ad 146)] : List Value).toArray s 0 0 (hAd ad S.length)) (F0 m 8 ls [])) := by
    intro n
    induction n with
    | zero =>
      intro f y1 y2 H locs ls hw hl h
      rw [fX8_falseOnes_8] at h
      cases h
    | succ n ih =>
      intro f y1 y2 H locs ls hw hl h
      rw [fX8_falseOnes_8] at h
      refine lv_iload_n hx hb dX8_falseOnes_8 rfl (lv_at hl 2 rfl) ?_
      refine lv_sipush (v := 256) hx hb dX8_falseOnes_9 (by decide) ?_
      refine lv_icmp_ge (tgt := 36) hx hb dX8_falseOnes_12 (by decide) (fun hc1 => ?_) (fun hc1 => ?_)
      · have h := it hc1 h
        refine lv_iconst (v := 0) hx hb dX8_falseOnes_36 (by decide) ?_
        refine lv_istore_n (lv' := [(2, .int 0), (0, .ref (ad 146)), (1, .int y1)]) hx hb dX8_falseOnes_37 rfl hl (by decide) rfl (fun ls hl => ?_)
        exact J38 _ f y1 0 _ _ _ hw (lv_sub hl [1, 2, 0] rfl) h
      · have h := ie hc1 h
        refine lv_aload_n hx hb dX8_falseOnes_15 rfl (lv_at hl 0 rfl) ?_
        refine h_getR hx hb hts hnX8_falseOnes_X8 hown hK hw hS.1 rfl 25 (by decide) rfl hkX8_falseOnes_53 dX8_falseOnes_16 ?_
        refine lv_iload_n hx hb dX8_falseOnes_19 rfl (lv_at hl 2 rfl) ?_
        refine lv_iload_n hx hb dX8_falseOnes_20 rfl (lv_at hl 2 rfl) ?_
        refine lv_if_ne (tgt := 28) hx hb dX8_falseOnes_21 (by decide) (fun hc2 => ?_) (fun hc2 => ?_)
        · have h := ie hc2 h
          refine lv_iconst (v := (-1)) hx hb dX8_falseOnes_28 (by decide) ?_
          exact J29 (fX8_falseOnes_8 n) ih f y1 y2 y2 (-1) _ _ _ hw (lv_sub hl [0, 1, 2] rfl) h
        · have h := it hc2 h
          refine lv_iconst (v := 0) hx hb dX8_falseOnes_24 (by decide) ?_
          refine lv_goto (tgt := 29) hx hb dX8_falseOnes_25 (by decide) ?_
          exact J29 (fX8_falseOnes_8 n) ih f y1 y2 y2 0 _ _ _ hw (lv_sub hl [0, 1, 2] rfl) h
  unfold fX8_falseOnes at h
  refine lv_aload_n hx hb dX8_falseOnes_0 rfl (lv_at hl 0 rfl) ?_
  obtain ⟨f1, ef1, h⟩ := b1_s h
  refine h_callV hw (va_runV (As := []) (rest := []) ⟨hx, hb, hml, hown, hts⟩ (mX8_asItIs l D ac ad S f f1 hS ef1) (cwV 0 hts gX8_falseOnes_X8_asItIs rfl rfl rfl (by decide +kernel) ⟨Nat.le_of_ble_eq_true rfl, Nat.le_of_ble_eq_true rfl⟩) (h_preV hK hw hS.1 rfl _) rfl rfl hl.1 rfl (lv_room (Nat.le_of_ble_eq_true rfl)) dX8_falseOnes_1 ⟨Nat.le_of_ble_eq_true rfl, Nat.le_of_ble_eq_true rfl⟩) (fun H locs hw => ?_)
  refine lv_iconst (v := 0) hx hb dX8_falseOnes_4 (by decide) ?_
  refine lv_istore_n (lv' := [(1, .int 0), (0, .ref (ad 146))]) hx hb dX8_falseOnes_5 rfl hl (by decide) rfl (fun ls hl => ?_)
  refine lv_iconst (v := 0) hx hb dX8_falseOnes_6 (by decide) ?_
  refine lv_istore_n (lv' := [(2, .int 0), (1, .int 0), (0, .ref (ad 146))]) hx hb dX8_falseOnes_7 rfl hl (by decide) rfl (fun ls hl => ?_)
  exact J8 _ f1 0 0 _ _ _ hw (lv_sub hl [2, 1, 0] rfl) h

theorem hnX8_date_X8 : ∀ w ∈ wsX80, w ∈ wsX8_date := by decide +kernel
theorem hkX8_date_13 : Cond.fieldLink RX8 13 (TX8 3).1 (TX8 3).2.1 (TX8 3).2.2.1 ∈ wsX8_date := by decide +kernel
theorem hkX8_date_16 : Cond.fieldLink RX8 16 (TX8 5).1 (TX8 5).2.1 (TX8 5).2.2.1 ∈ wsX8_date := by decide +kernel
set_option maxHeartbeats 8000000 in
set_option maxRecDepth 100000 in
theorem mX8_date (l : Launch) (D : va_G) (ac : Nat → ClassId) (ad : Nat → Nat) (S : List hSh) (f : hF) (x1 : Int32) (x2 : Int32) (x3 : Int32) (rv : Int32) (gv : hF) (hS : isMo S) (h : fX8_date f x1 x2 x3 = some (rv, gv)) : Met l yX8_date wsX8_date ({ frames := 2, cells := 0, slots := 0, locals := 45 }) (hPc D ac ad S f [.ref (ad 146), .int x1, .int x2, .int x3]) (hQi D ac ad S rv gv) 0 0 (hAd ad S.length) := by
  refine h_enter (C := RX8) (cc := cX8_date) (maxL := 9) (ret := (some .int)) (lv := [(0, .ref (ad 146)), (1, .int x1), (2, .int x2), (3, .int x3)]) (by decide) rfl rfl (Nat.le_of_ble_eq_true rfl) rfl (fun p e s m below meth c ls hx hb hml hr hlocks hown hts hK hw hl => ?_)
  have J115 : ∀ (q45 : hF → Int32 → Int32 → Int32 → Option (Int32 × hF)) (hq45 : (∀ (f : hF) (y4 : Int32) (y5 : Int32) (y6 : Int32) (H : Heap) (locs : List Loc) (ls : Array Slot), hOk D ac ad S (hAd ad S.length) s.heap f H locs → lv_has ls 9 [(0, .ref (ad 146)), (1, .int x1), (2, .int x2), (3, .int x3), (4, .int y4), (5, .int y5), (6, .int y6)] → q45 f y4 y5 y6 = some (rv, gv) → W p l e ({ frames := 2, cells := 0, slots := 0, locals := 45 } : Room) s m ([.ref (ad 146), .int x1, .int x2, .int x3] : List Value).toArray below meth c H locs 0 0 (MQ below (hQi D ac ad S rv gv) ([.ref (ad 146), .int x1, .int x2, .int x3] : List Value).toArray s 0 0 (hAd ad S.length)) (F0 m 45 ls []))), (∀ (f : hF) (y4 : Int32) (y6 : Int32) (y7 : Int32) (y8 : Int32) (s0 : Int32) (H : Heap) (locs : List Loc) (ls : Array Slot), hOk D ac ad S (hAd ad S.length) s.heap f H locs → lv_has ls 9 [(0, .ref (ad 146)), (1, .int x1), (2, .int x2), (3, .int x3), (4, .int y4), (6, .int y6), (7, .int y7), (8, .int y8)] → fX8_date_115 x1 x2 x3 q45 f y4 y6 y7 y8 s0 = some (rv, gv) → W p l e ({ frames := 2, cells := 0, slots := 0, locals := 45 } : Room) s m ([.ref (ad 146), .int x1, .int x2, .int x3] : List Value).toArray below meth c H locs 0 0 (MQ below (hQi D ac ad S rv gv) ([.ref (ad 146), .int x1, .int x2, .int x3] : List Value).toArray s 0 0 (hAd ad S.length)) (F0 m 115 ls [.int s0])) := by
    intro q45 hq45 f y4 y6 y7 y8 s0 H locs ls hw hl h
    unfold fX8_date_115 at h
    refine lv_istore (lv' := [(5, .int s0), (0, .ref (ad 146)), (1, .int x1), (2, .int x2), (3, .int x3), (4, .int y4), (6, .int y6), (7, .int y7), (8, .int y8)]) hx hb dX8_date_115 hl (by decide) rfl (fun ls hl => ?_)
    refine lv_iload hx hb dX8_date_117 (lv_at hl 8 rfl) ?_
    refine lv_if_eq (tgt := 131) hx hb dX8_date_119 (by decide) (fun hc1 => ?_) (fun hc1 => ?_)
    · have h := it hc1 h
      refine lv_iload hx hb dX8_date_131 (lv_at hl 5 rfl) ?_
      refine lv_istore (lv' := [(4, .int y4), (5, .int s0), (0, .ref (ad 146)), (1, .int x1), (2, .int x2), (3, .int x3), (6, .int y6), (7, .int y7), (8, .int y8)]) hx hb dX8_date_133 hl (by decide) rfl (fun ls hl => ?_)
      refine lv_iinc (v := (y6 + 1)) (lv' := [(6, .int (y6 + 1)), (4, .int y4), (5, .int s0), (0, .ref (ad 146)), (1, .int x1), (2, .int x2), (3, .int x3), (7, .int y7), (8, .int y8)]) hx hb dX8_date_135 hl (k := 6) rfl rfl (by decide) rfl (fun ls hl => ?_)
      refine lv_goto (tgt := 45) hx hb dX8_date_138 (by decide) ?_
      exact hq45 f y4 s0 (y6 + 1) _ _ _ hw (lv_sub hl [3, 4, 5, 6, 1, 2, 0] rfl) h
    · have h := ie hc1 h
      refine lv_aload_n hx hb dX8_date_122 rfl (lv_at hl 1 rfl) ?_
      refine lv_iload hx hb dX8_date_123 (lv_at hl 7 rfl) ?_
      obtain ⟨r2, er2, h⟩ := b1_s h
      refine h_callR (va_runV (As := [.int y7]) (rest := []) ⟨hx, hb, hml, hown, hts⟩ (mX8_costOf l D ac ad S f y7 r2 hS er2) (cwV 1 hts gX8_date_X8_costOf rfl rfl rfl (by decide +kernel) ⟨Nat.le_of_ble_eq_true rfl, Nat.le_of_ble_eq_true rfl⟩) (h_preV hK hw hS.1 rfl _) rfl rfl hl.1 rfl (lv_room (Nat.le_of_ble_eq_true rfl)) dX8_date_125 ⟨Nat.le_of_ble_eq_true rfl, Nat.le_of_ble_eq_true rfl⟩) ?_
      refine lv_goto (tgt := 133) hx hb dX8_date_128 (by decide) ?_
      refine lv_istore (lv' := [(4, .int r2), (5, .int s0), (0, .ref (ad 146)), (1, .int x1), (2, .int x2), (3, .int x3), (6, .int y6), (7, .int y7), (8, .int y8)]) hx hb dX8_date_133 hl (by decide) rfl (fun ls hl => ?_)
      refine lv_iinc (v := (y6 + 1)) (lv' := [(6, .int (y6 + 1)), (4, .int r2), (5, .int s0), (0, .ref (ad 146)), (1, .int x1), (2, .int x2), (3, .int x3), (7, .int y7), (8, .int y8)]) hx hb dX8_date_135 hl (k := 6) rfl rfl (by decide) rfl (fun ls hl => ?_)
      refine lv_goto (tgt := 45) hx hb dX8_date_138 (by decide) ?_
      exact hq45 f r2 s0 (y6 + 1) _ _ _ hw (lv_sub hl [3, 4, 5, 6, 1, 2, 0] rfl) h
  have J101 : ∀ (q45 : hF → Int32 → Int32 → Int32 → Option (Int32 × hF)) (hq45 : (∀ (f : hF) (y4 : Int32) (y5 : Int32) (y6 : Int32) (H : Heap) (locs : List Loc) (ls : Array Slot), hOk D ac ad S (hAd ad S.length) s.heap f H locs → lv_has ls 9 [(0, .ref (ad 146)), (1, .int x1), (2, .int x2), (3, .int x3), (4, .int y4), (5, .int y5), (6, .int y6)] → q45 f y4 y5 y6 = some (rv, gv) → W p l e ({ frames := 2, cells := 0, slots := 0, locals := 45 } : Room) s m ([.ref (ad 146), .int x1, .int x2, .int x3] : List Value).toArray below meth c H locs 0 0 (MQ below (hQi D ac ad S rv gv) ([.ref (ad 146), .int x1, .int x2, .int x3] : List Value).toArray s 0 0 (hAd ad S.length)) (F0 m 45 ls []))), (∀ (f : hF) (y4 : Int32) (y5 : Int32) (y6 : Int32) (y7 : Int32) (s0 : Int32) (H : Heap) (locs : List Loc) (ls : Array Slot), hOk D ac ad S (hAd ad S.length) s.heap f H locs → lv_has ls 9 [(0, .ref (ad 146)), (1, .int x1), (2, .int x2), (3, .int x3), (4, .int y4), (5, .int y5), (6, .int y6), (7, .int y7)] → fX8_date_101 x1 x2 x3 q45 f y4 y5 y6 y7 s0 = some (rv, gv) → W p l e ({ frames := 2, cells := 0, slots := 0, locals := 45 } : Room) s m ([.ref (ad 146), .int x1, .int x2, .int x3] : List Value).toArray below meth c H locs 0 0 (MQ below (hQi D ac ad S rv gv) ([.ref (ad 146), .int x1, .int x2, .int x3] : List Value).toArray s 0 0 (hAd ad S.length)) (F0 m 101 ls [.int s0])) := by
    intro q45 hq45 f y4 y5 y6 y7 s0 H locs ls hw hl h
    unfold fX8_date_101 at h
    refine lv_istore (lv' := [(8, .int s0), (0, .ref (ad 146)), (1, .int x1), (2, .int x2), (3, .int x3), (4, .int y4), (5, .int y5), (6, .int y6), (7, .int y7)]) hx hb dX8_date_101 hl (by decide) rfl (fun ls hl => ?_)
    refine lv_iload hx hb dX8_date_103 (lv_at hl 0 rfl) ?_
    refine lv_if_eq (tgt := 113) hx hb dX8_date_105 (by decide) (fun hc1 => ?_) (fun hc1 => ?_)
    · have h := it hc1 h
      refine lv_iload hx hb dX8_date_113 (lv_at hl 6 rfl) ?_
      exact J115 q45 hq45 f y4 y6 y7 s0 y5 _ _ _ hw (lv_sub hl [1, 2, 3, 4, 5, 7, 8, 0] rfl) h
    · have h := ie hc1 h
      refine lv_iload hx hb dX8_date_108 (lv_at hl 7 rfl) ?_
      refine lv_goto (tgt := 115) hx hb dX8_date_110 (by decide) ?_
      exact J115 q45 hq45 f y4 y6 y7 s0 y6 _ _ _ hw (lv_sub hl [1, 2, 3, 4, 5, 7, 8, 0] rfl) h
  have J96 : ∀ (q45 : hF → Int32 → Int32 → Int32 → Option (Int32 × hF)) (hq45 : (∀ (f : hF) (y4 : Int32) (y5 : Int32) (y6 : Int32) (H : Heap) (locs : List Loc) (ls : Array Slot), hOk D ac ad S (hAd ad S.length) s.heap f H locs → lv_has ls 9 [(0, .ref (ad 146)), (1, .int x1), (2, .int x2), (3, .int x3), (4, .int y4), (5, .int y5), (6, .int y6)] → q45 f y4 y5 y6 = some (rv, gv) → W p l e ({ frames := 2, cells := 0, slots := 0, locals := 45 } : Room) s m ([.ref (ad 146), .int x1, .int x2, .int x3] : List Value).toArray below meth c H locs 0 0 (MQ below (hQi D ac ad S rv gv) ([.ref (ad 146), .int x1, .int x2, .int x3] : List Value).toArray s 0 0 (hAd ad S.length)) (F0 m 45 ls []))), (∀ (f : hF) (y4 : Int32) (y5 : Int32) (y6 : Int32) (y7 : Int32) (H : Heap) (locs : List Loc) (ls : Array Slot), hOk D ac ad S (hAd ad S.length) s.heap f H locs → lv_has ls 9 [(0, .ref (ad 146)), (1, .int x1), (2, .int x2), (3, .int x3), (4, .int y4), (5, .int y5), (6, .int y6), (7, .int y7)] → fX8_date_96 x1 x2 x3 q45 f y4 y5 y6 y7 = some (rv, gv) → W p l e ({ frames := 2, cells := 0, slots := 0, locals := 45 } : Room) s m ([.ref (ad 146), .int x1, .int x2, .int x3] : List Value).toArray below meth c H locs 0 0 (MQ below (hQi D ac ad S rv gv) ([.ref (ad 146), .int x1, .int x2, .int x3] : List Value).toArray s 0 0 (hAd ad S.length)) (F0 m 96 ls [])) := by
    intro q45 hq45 f y4 y5 y6 y7 H locs ls hw hl h
    unfold fX8_date_96 at h
    refine lv_iconst (v := 1) hx hb dX8_date_96 (by decide) ?_
    refine lv_goto (tgt := 101) hx hb dX8_date_97 (by decide) ?_
    exact J101 q45 hq45 f y4 y5 y6 y7 1 _ _ _ hw (lv_sub hl [0, 1, 2, 3, 4, 5, 6, 7] rfl) h
  have J100 : ∀ (q45 : hF → Int32 → Int32 → Int32 → Option (Int32 × hF)) (hq45 : (∀ (f : hF) (y4 : Int32) (y5 : Int32) (y6 : Int32) (H : Heap) (locs : List Loc) (ls : Array Slot), hOk D ac ad S (hAd ad S.length) s.heap f H locs → lv_has ls 9 [(0, .ref (ad 146)), (1, .int x1), (2, .int x2), (3, .int x3), (4, .int y4), (5, .int y5), (6, .int y6)] → q45 f y4 y5 y6 = some (rv, gv) → W p l e ({ frames := 2, cells := 0, slots := 0, locals := 45 } : Room) s m ([.ref (ad 146), .int x1, .int x2, .int x3] : List Value).toArray below meth c H locs 0 0 (MQ below (hQi D ac ad S rv gv) ([.ref (ad 146), .int x1, .int x2, .int x3] : List Value).toArray s 0 0 (hAd ad S.length)) (F0 m 45 ls []))), (∀ (f : hF) (y4 : Int32) (y5 : Int32) (y6 : Int32) (y7 : Int32) (H : Heap) (locs : List Loc) (ls : Array Slot), hOk D ac ad S (hAd ad S.length) s.heap f H locs → lv_has ls 9 [(0, .ref (ad 146)), (1, .int x1), (2, .int x2), (3, .int x3), (4, .int y4), (5, .int y5), (6, .int y6), (7, .int y7)] → fX8_date_100 x1 x2 x3 q45 f y4 y5 y6 y7 = some (rv, gv) → W p l e ({ frames := 2, cells := 0, slots := 0, locals := 45 } : Room) s m ([.ref (ad 146), .int x1, .int x2, .int x3] : List Value).toArray below meth c H locs 0 0 (MQ below (hQi D ac ad S rv gv) ([.ref (ad 146), .int x1, .int x2, .int x3] : List Value).toArray s 0 0 (hAd ad S.length)) (F0 m 100 ls [])) := by
    intro q45 hq45 f y4 y5 y6 y7 H locs ls hw hl h
    unfold fX8_date_100 at h
    refine lv_iconst (v := 0) hx hb dX8_date_100 (by decide) ?_
    exact J101 q45 hq45 f y4 y5 y6 y7 0 _ _ _ hw (lv_sub hl [0, 1, 2, 3, 4, 5, 6, 7] rfl) h
  have J201 : ∀ (_ : Unit), (∀ (f : hF) (y4 : Int32) (y5 : Int32) (y6 : Int32) (s0 : Int32) (H : Heap) (locs : List Loc) (ls : Array Slot), hOk D ac ad S (hAd ad S.length) s.heap f H locs → lv_has ls 9 [(3, .int x3), (4, .int y4), (5, .int y5), (6, .int y6)] → fX8_date_201 x1 x2 x3 f y4 y5 y6 s0 = some (rv, gv) → W p l e ({ frames := 2, cells := 0, slots := 0, locals := 45 } : Room) s m ([.ref (ad 146), .int x1, .int x2, .int x3] : List Value).toArray below meth c H locs 0 0 (MQ below (hQi D ac ad S rv gv) ([.ref (ad 146), .int x1, .int x2, .int x3] : List Value).toArray s 0 0 (hAd ad S.length)) (F0 m 201 ls [.int s0])) := by
    intro _ f y4 y5 y6 s0 H locs ls hw hl h
    unfold fX8_date_201 at h
    refine lv_istore (lv' := [(7, .int s0), (3, .int x3), (4, .int y4), (5, .int y5), (6, .int y6)]) hx hb dX8_date_201 hl (by decide) rfl (fun ls hl => ?_)
    refine lv_iload_n hx hb dX8_date_203 rfl (lv_at hl 1 rfl) ?_
    refine lv_if_ne (tgt := 222) hx hb dX8_date_204 (by decide) (fun hc1 => ?_) (fun hc1 => ?_)
    · have h := ie hc1 h
      refine lv_iload hx hb dX8_date_222 (lv_at hl 0 rfl) ?_
      refine lv_if_eq (tgt := 232) hx hb dX8_date_224 (by decide) (fun hc2 => ?_) (fun hc2 => ?_)
      · have h := it hc2 h
        refine lv_iload hx hb dX8_date_232 (lv_at hl 3 rfl) ?_
        exact h_retQ hx hb hr hlocks hw rfl (so2 h) dX8_date_234
      · have h := ie hc2 h
        refine lv_bipush (v := 8) hx hb dX8_date_227 (by decide) ?_
        refine lv_goto (tgt := 234) hx hb dX8_date_229 (by decide) ?_
        exact h_retQ hx hb hr hlocks hw rfl (so2 h) dX8_date_234
    · have h := it hc1 h
      refine lv_iload hx hb dX8_date_207 (lv_at hl 0 rfl) ?_
      refine lv_if_eq (tgt := 217) hx hb dX8_date_209 (by decide) (fun hc3 => ?_) (fun hc3 => ?_)
      · have h := it hc3 h
        refine lv_iload hx hb dX8_date_217 (lv_at hl 2 rfl) ?_
        refine lv_goto (tgt := 234) hx hb dX8_date_219 (by decide) ?_
        exact h_retQ hx hb hr hlocks hw rfl (so2 h) dX8_date_234
      · have h := ie hc3 h
        refine lv_iload hx hb dX8_date_212 (lv_at hl 4 rfl) ?_
        refine lv_goto (tgt := 234) hx hb dX8_date_214 (by decide) ?_
        exact h_retQ hx hb hr hlocks hw rfl (so2 h) dX8_date_234
  have J196 : ∀ (_ : Unit), (∀ (f : hF) (y4 : Int32) (y5 : Int32) (y6 : Int32) (H : Heap) (locs : List Loc) (ls : Array Slot), hOk D ac ad S (hAd ad S.length) s.heap f H locs → lv_has ls 9 [(3, .int x3), (4, .int y4), (5, .int y5), (6, .int y6)] → fX8_date_196 x1 x2 x3 f y4 y5 y6 = some (rv, gv) → W p l e ({ frames := 2, cells := 0, slots := 0, locals := 45 } : Room) s m ([.ref (ad 146), .int x1, .int x2, .int x3] : List Value).toArray below meth c H locs 0 0 (MQ below (hQi D ac ad S rv gv) ([.ref (ad 146), .int x1, .int x2, .int x3] : List Value).toArray s 0 0 (hAd ad S.length)) (F0 m 196 ls [])) := by
    intro _ f y4 y5 y6 H locs ls hw hl h
    unfold fX8_date_196 at h
    refine lv_iconst (v := 1) hx hb dX8_date_196 (by decide) ?_
    refine lv_goto (tgt := 201) hx hb dX8_date_197 (by decide) ?_
    exact J201 () f y4 y5 y6 1 _ _ _ hw (lv_sub hl [0, 1, 2, 3] rfl) h
  have J200 : ∀ (_ : Unit), (∀ (f : hF) (y4 : Int32) (y5 : Int32) (y6 : Int32) (H : Heap) (locs : List Loc) (ls : Array Slot), hOk D ac ad S (hAd ad S.length) s.heap f H locs → lv_has ls 9 [(3, .int x3), (4, .int y4), (5, .int y5), (6, .int y6)] → fX8_date_200 x1 x2 x3 f y4 y5 y6 = some (rv, gv) → W p l e ({ frames := 2, cells := 0, slots := 0, locals := 45 } : Room) s m ([.ref (ad 146), .int x1, .int x2, .int x3] : List Value).toArray below meth c H locs 0 0 (MQ below (hQi D ac ad S rv gv) ([.ref (ad 146), .int x1, .int x2, .int x3] : List Value).toArray s 0 0 (hAd ad S.length)) (F0 m 200 ls [])) := by
    intro _ f y4 y5 y6 H locs ls hw hl h
    unfold fX8_date_200 at h
    refine lv_iconst (v := 0) hx hb dX8_date_200 (by decide) ?_
    exact J201 () f y4 y5 y6 0 _ _ _ hw (lv_sub hl [0, 1, 2, 3] rfl) h
  have J45 : ∀ (n : Nat), (∀ (f : hF) (y4 : Int32) (y5 : Int32) (y6 : Int32) (H : Heap) (locs : List Loc) (ls : Array Slot), hOk D ac ad S (hAd ad S.length) s.heap f H locs → lv_has ls 9 [(0, .ref (ad 146)), (1, .int x1), (2, .int x2), (3, .int x3), (4, .int y4), (5, .int y5), (6, .int y6)] → fX8_date_45 x1 x2 x3 n f y4 y5 y6 = some (rv, gv) → W p l e ({ frames := 2, cells := 0, slots := 0, locals := 45 } : Room) s m ([.ref (ad 146), .int x1, .int x2, .int x3] : List Value).toArray below meth c H locs 0 0 (MQ below (hQi D ac ad S rv gv) ([.ref (ad 146), .int x1, .int x2, .int x3] : List Value).toArray s 0 0 (hAd ad S.length)) (F0 m 45 ls [])) := by
    intro n
    induction n with
    | zero =>
      intro f y4 y5 y6 H locs ls hw hl h
      rw [fX8_date_45] at h
      cases h
    | succ n ih =>
      intro f y4 y5 y6 H locs ls hw hl h
      rw [fX8_date_45] at h
      refine lv_iload hx hb dX8_date_45 (lv_at hl 6 rfl) ?_
      refine lv_bipush (v := 8) hx hb dX8_date_47 (by decide) ?_
      refine lv_icmp_ge (tgt := 141) hx hb dX8_date_49 (by decide) (fun hc1 => ?_) (fun hc1 => ?_)
      · have h := it hc1 h
        refine lv_aload_n hx hb dX8_date_141 rfl (lv_at hl 0 rfl) ?_
        refine h_getR hx hb hts hnX8_date_X8 hown hK hw hS.1 rfl 3 (by decide) rfl hkX8_date_13 dX8_date_142 ?_
        refine lv_iconst (v := 2) hx hb dX8_date_145 (by decide) ?_
        refine lv_iload_n hx hb dX8_date_146 rfl (lv_at hl 1 rfl) ?_
        refine lv_imul hx hb dX8_date_147 ?_
        refine lv_iconst (v := 1) hx hb dX8_date_148 (by decide) ?_
        refine lv_iadd hx hb dX8_date_149 ?_
        obtain ⟨hi2, h⟩ := gd_s h
        refine h_iald hx hb hK hw hS.2.2.1 hi2 dX8_date_150 ?_
        refine lv_istore (lv' := [(6, .int (f 148 ((2 * x1) + 1).toNatClampNeg)), (0, .ref (ad 146)), (1, .int x1), (2, .int x2), (3, .int x3), (4, .int y4), (5, .int y5)]) hx hb dX8_date_151 hl (by decide) rfl (fun ls hl => ?_)
        refine lv_aload_n hx hb dX8_date_153 rfl (lv_at hl 1 rfl) ?_
        refine h_getR hx hb hts hnX8_date_X8 hown hK hw hS.1 rfl 5 (by decide) rfl hkX8_date_16 dX8_date_154 ?_
        refine lv_iconst (v := 0) hx hb dX8_date_157 (by decide) ?_
        obtain ⟨hi3, h⟩ := gd_s h
        refine h_iald hx hb hK hw hS.2.2.2.1 hi3 dX8_date_158 ?_
        refine lv_iload_n hx hb dX8_date_159 rfl (lv_at hl 3 rfl) ?_
        refine lv_icmp_gt (tgt := 200) hx hb dX8_date_160 (by decide) (fun hc4 => ?_) (fun hc4 => ?_)
        · have h := it hc4 h
          exact J200 () f y4 y5 (f 148 ((2 * x1) + 1).toNatClampNeg) _ _ _ hw (lv_sub hl [4, 5, 6, 0] rfl) h
        · have h := ie hc4 h
          refine lv_aload_n hx hb dX8_date_163 rfl (lv_at hl 1 rfl) ?_
          obtain ⟨r5, er5, h⟩ := b1_s h
          refine h_callR (va_runV (As := []) (rest := []) ⟨hx, hb, hml, hown, hts⟩ (mX8_isLaw l D ac ad S f r5 hS er5) (cwV 0 hts gX8_date_X8_isLaw rfl rfl rfl (by decide +kernel) ⟨Nat.le_of_ble_eq_true rfl, Nat.le_of_ble_eq_true rfl⟩) (h_preV hK hw hS.1 rfl _) rfl rfl hl.1 rfl (lv_room (Nat.le_of_ble_eq_true rfl)) dX8_date_164 ⟨Nat.le_of_ble_eq_true rfl, Nat.le_of_ble_eq_true rfl⟩) ?_
          refine lv_if_ne (tgt := 200) hx hb dX8_date_167 (by decide) (fun hc6 => ?_) (fun hc6 => ?_)
          · have h := ie hc6 h
            exact J200 () f y4 y5 (f 148 ((2 * x1) + 1).toNatClampNeg) _ _ _ hw (lv_sub hl [4, 5, 6, 0] rfl) h
          · have h := it hc6 h
            refine lv_aload_n hx hb dX8_date_170 rfl (lv_at hl 1 rfl) ?_
            refine h_getR hx hb hts hnX8_date_X8 hown hK hw hS.1 rfl 5 (by decide) rfl hkX8_date_16 dX8_date_171 ?_
            refine lv_bipush (v := 12) hx hb dX8_date_174 (by decide) ?_
            refine lv_iload_n hx hb dX8_date_176 rfl (lv_at hl 2 rfl) ?_
            refine lv_iadd hx hb dX8_date_177 ?_
            obtain ⟨hi7, h⟩ := gd_s h
            refine h_iald hx hb hK hw hS.2.2.2.1 hi7 dX8_date_178 ?_
            refine lv_bipush (v := 8) hx hb dX8_date_179 (by decide) ?_
            refine lv_icmp_ge (tgt := 200) hx hb dX8_date_181 (by decide) (fun hc8 => ?_) (fun hc8 => ?_)
            · have h := it hc8 h
              exact J200 () f y4 y5 (f 148 ((2 * x1) + 1).toNatClampNeg) _ _ _ hw (lv_sub hl [4, 5, 6, 0] rfl) h
            · have h := ie hc8 h
              refine lv_iload hx hb dX8_date_184 (lv_at hl 5 rfl) ?_
              refine lv_if_lt (tgt := 196) hx hb dX8_date_186 (by decide) (fun hc9 => ?_) (fun hc9 => ?_)
              · have h := it hc9 h
                exact J196 () f y4 y5 (f 148 ((2 * x1) + 1).toNatClampNeg) _ _ _ hw (lv_sub hl [4, 5, 6, 0] rfl) h
              · have h := ie hc9 h
                refine lv_iload hx hb dX8_date_189 (lv_at hl 0 rfl) ?_
                refine lv_iload hx hb dX8_date_191 (lv_at hl 5 rfl) ?_
                refine lv_icmp_ge (tgt := 200) hx hb dX8_date_193 (by decide) (fun hc10 => ?_) (fun hc10 => ?_)
                · have h := it hc10 h
                  exact J200 () f y4 y5 (f 148 ((2 * x1) + 1).toNatClampNeg) _ _ _ hw (lv_sub hl [4, 5, 6, 0] rfl) h
                · have h := ie hc10 h
                  exact J196 () f y4 y5 (f 148 ((2 * x1) + 1).toNatClampNeg) _ _ _ hw (lv_sub hl [4, 5, 6, 0] rfl) h
      · have h := ie hc1 h
        refine lv_bipush (v := 8) hx hb dX8_date_52 (by decide) ?_
        refine lv_iload_n hx hb dX8_date_54 rfl (lv_at hl 1 rfl) ?_
        refine lv_imul hx hb dX8_date_55 ?_
        refine lv_iload hx hb dX8_date_56 (lv_at hl 6 rfl) ?_
        refine lv_iadd hx hb dX8_date_58 ?_
        refine lv_istore (lv' := [(7, .int ((8 * x1) + y6)), (0, .ref (ad 146)), (1, .int x1), (2, .int x2), (3, .int x3), (4, .int y4), (5, .int y5), (6, .int y6)]) hx hb dX8_date_59 hl (by decide) rfl (fun ls hl => ?_)
        refine lv_aload_n hx hb dX8_date_61 rfl (lv_at hl 1 rfl) ?_
        refine lv_iload hx hb dX8_date_62 (lv_at hl 0 rfl) ?_
        obtain ⟨r11, er11, h⟩ := b1_s h
        refine h_callR (va_runV (As := [.int ((8 * x1) + y6)]) (rest := []) ⟨hx, hb, hml, hown, hts⟩ (mX8_isBlank l D ac ad S f ((8 * x1) + y6) r11 hS er11) (cwV 1 hts gX8_date_X8_isBlank rfl rfl rfl (by decide +kernel) ⟨Nat.le_of_ble_eq_true rfl, Nat.le_of_ble_eq_true rfl⟩) (h_preV hK hw hS.1 rfl _) rfl rfl hl.1 rfl (lv_room (Nat.le_of_ble_eq_true rfl)) dX8_date_64 ⟨Nat.le_of_ble_eq_true rfl, Nat.le_of_ble_eq_true rfl⟩) ?_
        refine lv_if_eq (tgt := 100) hx hb dX8_date_67 (by decide) (fun hc12 => ?_) (fun hc12 => ?_)
        · have h := it hc12 h
          exact J100 (fX8_date_45 x1 x2 x3 n) ih f y4 y5 y6 ((8 * x1) + y6) _ _ _ hw (lv_sub hl [1, 2, 3, 4, 5, 6, 7, 0] rfl) h
        · have h := ie hc12 h
          refine lv_aload_n hx hb dX8_date_70 rfl (lv_at hl 1 rfl) ?_
          refine lv_iload hx hb dX8_date_71 (lv_at hl 0 rfl) ?_
          obtain ⟨r13, er13, h⟩ := b1_s h
          refine h_callR (va_runV (As := [.int ((8 * x1) + y6)]) (rest := []) ⟨hx, hb, hml, hown, hts⟩ (mX8_begun l D ac ad S f ((8 * x1) + y6) r13 hS er13) (cwV 1 hts gX8_date_X8_begun rfl rfl rfl (by decide +kernel) ⟨Nat.le_of_ble_eq_true rfl, Nat.le_of_ble_eq_true rfl⟩) (h_preV hK hw hS.1 rfl _) rfl rfl hl.1 rfl (lv_room (Nat.le_of_ble_eq_true rfl)) dX8_date_73 ⟨Nat.le_of_ble_eq_true rfl, Nat.le_of_ble_eq_true rfl⟩) ?_
          refine lv_iload_n hx hb dX8_date_76 rfl (lv_at hl 3 rfl) ?_
          refine lv_icmp_gt (tgt := 100) hx hb dX8_date_77 (by decide) (fun hc14 => ?_) (fun hc14 => ?_)
          · have h := it hc14 h
            exact J100 (fX8_date_45 x1 x2 x3 n) ih f y4 y5 y6 ((8 * x1) + y6) _ _ _ hw (lv_sub hl [1, 2, 3, 4, 5, 6, 7, 0] rfl) h
          · have h := ie hc14 h
            refine lv_iload hx hb dX8_date_80 (lv_at hl 5 rfl) ?_
            refine lv_if_lt (tgt := 96) hx hb dX8_date_82 (by decide) (fun hc15 => ?_) (fun hc15 => ?_)
            · have h := it hc15 h
              exact J96 (fX8_date_45 x1 x2 x3 n) ih f y4 y5 y6 ((8 * x1) + y6) _ _ _ hw (lv_sub hl [1, 2, 3, 4, 5, 6, 7, 0] rfl) h
            · have h := ie hc15 h
              refine lv_aload_n hx hb dX8_date_85 rfl (lv_at hl 1 rfl) ?_
              refine lv_iload hx hb dX8_date_86 (lv_at hl 0 rfl) ?_
              obtain ⟨r16, er16, h⟩ := b1_s h
              refine h_callR (va_runV (As := [.int ((8 * x1) + y6)]) (rest := []) ⟨hx, hb, hml, hown, hts⟩ (mX8_costOf l D ac ad S f ((8 * x1) + y6) r16 hS er16) (cwV 1 hts gX8_date_X8_costOf rfl rfl rfl (by decide +kernel) ⟨Nat.le_of_ble_eq_true rfl, Nat.le_of_ble_eq_true rfl⟩) (h_preV hK hw hS.1 rfl _) rfl rfl hl.1 rfl (lv_room (Nat.le_of_ble_eq_true rfl)) dX8_date_88 ⟨Nat.le_of_ble_eq_true rfl, Nat.le_of_ble_eq_true rfl⟩) ?_
              refine lv_iload hx hb dX8_date_91 (lv_at hl 5 rfl) ?_
              refine lv_icmp_ge (tgt := 100) hx hb dX8_date_93 (by decide) (fun hc17 => ?_) (fun hc17 => ?_)
              · have h := it hc17 h
                exact J100 (fX8_date_45 x1 x2 x3 n) ih f y4 y5 y6 ((8 * x1) + y6) _ _ _ hw (lv_sub hl [1, 2, 3, 4, 5, 6, 7, 0] rfl) h
              · have h := ie hc17 h
                exact J96 (fX8_date_45 x1 x2 x3 n) ih f y4 y5 y6 ((8 * x1) + y6) _ _ _ hw (lv_sub hl [1, 2, 3, 4, 5, 6, 7, 0] rfl) h
  unfold fX8_date at h
  refine lv_aload_n hx hb dX8_date_0 rfl (lv_at hl 0 rfl) ?_
  refine lv_iload_n hx hb dX8_date_1 rfl (lv_at hl 1 rfl) ?_
  obtain ⟨r1, er1, h⟩ := b1_s h
  refine h_callR (va_runV (As := [.int x1]) (rest := []) ⟨hx, hb, hml, hown, hts⟩ (mX8_isParson l D ac ad S f x1 r1 hS er1) (cwV 1 hts gX8_date_X8_isParson rfl rfl rfl (by decide +kernel) ⟨Nat.le_of_ble_eq_true rfl, Nat.le_of_ble_eq_true rfl⟩) (h_preV hK hw hS.1 rfl _) rfl rfl hl.1 rfl (lv_room (Nat.le_of_ble_eq_true rfl)) dX8_date_2 ⟨Nat.le_of_ble_eq_true rfl, Nat.le_of_ble_eq_true rfl⟩) ?_
  refine lv_if_eq (tgt := 28) hx hb dX8_date_5 (by decide) (fun hc2 => ?_) (fun hc2 => ?_)
  · have h := it hc2 h
    refine lv_iconst (v := (-1)) hx hb dX8_date_28 (by decide) ?_
    exact h_retQ hx hb hr hlocks hw rfl (so2 h) dX8_date_29
  · have h := ie hc2 h
    refine lv_iload_n hx hb dX8_date_8 rfl (lv_at hl 2 rfl) ?_
    refine lv_iconst (v := 0) hx hb dX8_date_9 (by decide) ?_
    refine lv_sipush (v := 999) hx hb dX8_date_10 (by decide) ?_
    obtain ⟨r3, er3, h⟩ := b1_s h
    refine h_callR (va_runS (As := [.int x2, .int 0, .int 999]) (rest := []) ⟨hx, hb, hml, hown, hts⟩ (mX8_in l D ac ad S f x2 (0 : Int32) (999 : Int32) r3  er3) (va_cwS 3 hts gX8_date_X8_in rfl rfl rfl (by decide +kernel) ⟨Nat.le_of_ble_eq_true rfl, Nat.le_of_ble_eq_true rfl⟩) (h_preS hK hw _) rfl rfl hl.1 rfl (lv_room (Nat.le_of_ble_eq_true rfl)) dX8_date_13 ⟨Nat.le_of_ble_eq_true rfl, Nat.le_of_ble_eq_true rfl⟩) ?_
    refine lv_if_eq (tgt := 28) hx hb dX8_date_16 (by decide) (fun hc4 => ?_) (fun hc4 => ?_)
    · have h := it hc4 h
      refine lv_iconst (v := (-1)) hx hb dX8_date_28 (by decide) ?_
      exact h_retQ hx hb hr hlocks hw rfl (so2 h) dX8_date_29
    · have h := ie hc4 h
      refine lv_iload_n hx hb dX8_date_19 rfl (lv_at hl 3 rfl) ?_
      refine lv_iconst (v := 0) hx hb dX8_date_20 (by decide) ?_
      refine lv_iconst (v := 1) hx hb dX8_date_21 (by decide) ?_
      obtain ⟨r5, er5, h⟩ := b1_s h
      refine h_callR (va_runS (As := [.int x3, .int 0, .int 1]) (rest := []) ⟨hx, hb, hml, hown, hts⟩ (mX8_in l D ac ad S f x3 (0 : Int32) (1 : Int32) r5  er5) (va_cwS 3 hts gX8_date_X8_in rfl rfl rfl (by decide +kernel) ⟨Nat.le_of_ble_eq_true rfl, Nat.le_of_ble_eq_true rfl⟩) (h_preS hK hw _) rfl rfl hl.1 rfl (lv_room (Nat.le_of_ble_eq_true rfl)) dX8_date_22 ⟨Nat.le_of_ble_eq_true rfl, Nat.le_of_ble_eq_true rfl⟩) ?_
      refine lv_if_ne (tgt := 30) hx hb dX8_date_25 (by decide) (fun hc6 => ?_) (fun hc6 => ?_)
      · have h := ie hc6 h
        refine lv_aload_n hx hb dX8_date_30 rfl (lv_at hl 0 rfl) ?_
        obtain ⟨f7, ef7, h⟩ := b1_s h
        refine h_callV hw (va_runV (As := []) (rest := []) ⟨hx, hb, hml, hown, hts⟩ (mX8_asItIs l D ac ad S f f7 hS ef7) (cwV 0 hts gX8_date_X8_asItIs rfl rfl rfl (by decide +kernel) ⟨Nat.le_of_ble_eq_true rfl, Nat.le_of_ble_eq_true rfl⟩) (h_preV hK hw hS.1 rfl _) rfl rfl hl.1 rfl (lv_room (Nat.le_of_ble_eq_true rfl)) dX8_date_31 ⟨Nat.le_of_ble_eq_true rfl, Nat.le_of_ble_eq_true rfl⟩) (fun H locs hw => ?_)
        refine lv_bipush (v := (-4)) hx hb dX8_date_34 (by decide) ?_
        refine lv_istore (lv' := [(4, .int (-4)), (0, .ref (ad 146)), (1, .int x1), (2, .int x2), (3, .int x3)]) hx hb dX8_date_36 hl (by decide) rfl (fun ls hl => ?_)
        refine lv_bipush (v := (-4)) hx hb dX8_date_38 (by decide) ?_
        refine lv_istore (lv' := [(5, .int (-4)), (4, .int (-4)), (0, .ref (ad 146)), (1, .int x1), (2, .int x2), (3, .int x3)]) hx hb dX8_date_40 hl (by decide) rfl (fun ls hl => ?_)
        refine lv_iconst (v := 0) hx hb dX8_date_42 (by decide) ?_
        refine lv_istore (lv' := [(6, .int 0), (5, .int (-4)), (4, .int (-4)), (0, .ref (ad 146)), (1, .int x1), (2, .int x2), (3, .int x3)]) hx hb dX8_date_43 hl (by decide) rfl (fun ls hl => ?_)
        exact J45 _ f7 (-4) (-4) 0 _ _ _ hw (lv_sub hl [3, 4, 5, 6, 2, 1, 0] rfl) h
      · have h := it hc6 h
        refine lv_iconst (v := (-1)) hx hb dX8_date_28 (by decide) ?_
        exact h_retQ hx hb hr hlocks hw rfl (so2 h) dX8_date_29

theorem hnX8_look_X8 : ∀ w ∈ wsX80, w ∈ wsX8_look := by decide +kernel
theorem hkX8_look_46 : Cond.fieldLink RX8 46 (TX8 23).1 (TX8 23).2.1 (TX8 23).2.2.1 ∈ wsX8_look := by decide +kernel
theorem hkX8_look_87 : Cond.fieldLink RX8 87 (TX8 2).1 (TX8 2).2.1 (TX8 2).2.2.1 ∈ wsX8_look := by decide +kernel
set_option maxHeartbeats 8000000 in
set_option maxRecDepth 100000 in
theorem mX8_look (l : Launch) (D : va_G) (ac : Nat → ClassId) (ad : Nat → Nat) (S : List hSh) (f : hF) (x1 : Int32) (rv : Int32) (gv : hF) (hS : isMo S) (h : fX8_look f x1 = some (rv, gv)) : Met l yX8_look wsX8_look ({ frames := 4, cells := 0, slots := 0, locals := 87 }) (hPc D ac ad S f [.ref (ad 146), .int x1]) (hQi D ac ad S rv gv) 0 0 (hAd ad S.length) := by
  refine h_enter (C := RX8) (cc := cX8_look) (maxL := 7) (ret := (some .int)) (lv := [(0, .ref (ad 146)), (1, .int x1)]) (by decide) rfl rfl (Nat.le_of_ble_eq_true rfl) rfl (fun p e s m below meth c ls hx hb hml hr hlocks hown hts hK hw hl => ?_)
  have J69 : ∀ (q26 : hF → Int32 → Int32 → Int32 → Option (Int32 × hF)) (hq26 : (∀ (f : hF) (y2 : Int32) (y3 : Int32) (y4 : Int32) (H : Heap) (locs : List Loc) (ls : Array Slot), hOk D ac ad S (hAd ad S.length) s.heap f H locs → lv_has ls 7 [(0, .ref (ad 146)), (1, .int x1), (2, .int y2), (3, .int y3), (4, .int y4)] → q26 f y2 y3 y4 = some (rv, gv) → W p l e ({ frames := 4, cells := 0, slots := 0, locals := 87 } : Room) s m ([.ref (ad 146), .int x1] : List Value).toArray below meth c H locs 0 0 (MQ below (hQi D ac ad S rv gv) ([.ref (ad 146), .int x1] : List Value).toArray s 0 0 (hAd ad S.length)) (F0 m 26 ls []))) (q41 : hF → Int32 → Int32 → Int32 → Int32 → Int32 → Option (Int32 × hF)) (hq41 : (∀ (f : hF) (y2 : Int32) (y3 : Int32) (y4 : Int32) (y5 : Int32) (y6 : Int32) (H : Heap) (locs : List Loc) (ls : Array Slot), hOk D ac ad S (hAd ad S.length) s.heap f H locs → lv_has ls 7 [(0, .ref (ad 146)), (1, .int x1), (2, .int y2), (3, .int y3), (4, .int y4), (5, .int y5), (6, .int y6)] → q41 f y2 y3 y4 y5 y6 = some (rv, gv) → W p l e ({ frames := 4, cells := 0, slots := 0, locals := 87 } : Room) s m ([.ref (ad 146), .int x1] : List Value).toArray below meth c H locs 0 0 (MQ below (hQi D ac ad S rv gv) ([.ref (ad 146), .int x1] : List Value).toArray s 0 0 (hAd ad S.length)) (F0 m 41 ls []))), (∀ (f : hF) (y2 : Int32) (y3 : Int32) (y4 : Int32) (y6 : Int32) (H : Heap) (locs : List Loc) (ls : Array Slot), hOk D ac ad S (hAd ad S.length) s.heap f H locs → lv_has ls 7 [(0, .ref (ad 146)), (1, .int x1), (2, .int y2), (3, .int y3), (4, .int y4), (6, .int y6)] → fX8_look_69 x1 q26 q41 f y2 y3 y4 y6 = some (rv, gv) → W p l e ({ frames := 4, cells := 0, slots := 0, locals := 87 } : Room) s m ([.ref (ad 146), .int x1] : List Value).toArray below meth c H locs 0 0 (MQ below (hQi D ac ad S rv gv) ([.ref (ad 146), .int x1] : List Value).toArray s 0 0 (hAd ad S.length)) (F0 m 69 ls [])) := by
    intro q26 hq26 q41 hq41 f y2 y3 y4 y6 H locs ls hw hl h
    unfold fX8_look_69 at h
    refine lv_iconst (v := 1) hx hb dX8_look_69 (by decide) ?_
    refine lv_goto (tgt := 74) hx hb dX8_look_70 (by decide) ?_
    refine lv_istore (lv' := [(5, .int 1), (0, .ref (ad 146)), (1, .int x1), (2, .int y2), (3, .int y3), (4, .int y4), (6, .int y6)]) hx hb dX8_look_74 hl (by decide) rfl (fun ls hl => ?_)
    refine lv_iinc (v := (y6 + 1)) (lv' := [(6, .int (y6 + 1)), (5, .int 1), (0, .ref (ad 146)), (1, .int x1), (2, .int y2), (3, .int y3), (4, .int y4)]) hx hb dX8_look_76 hl (k := 6) rfl rfl (by decide) rfl (fun ls hl => ?_)
    refine lv_goto (tgt := 41) hx hb dX8_look_79 (by decide) ?_
    exact hq41 f y2 y3 y4 1 (y6 + 1) _ _ _ hw (lv_sub hl [2, 3, 4, 5, 6, 1, 0] rfl) h
  have J109 : ∀ (q26 : hF → Int32 → Int32 → Int32 → Option (Int32 × hF)) (hq26 : (∀ (f : hF) (y2 : Int32) (y3 : Int32) (y4 : Int32) (H : Heap) (locs : List Loc) (ls : Array Slot), hOk D ac ad S (hAd ad S.length) s.heap f H locs → lv_has ls 7 [(0, .ref (ad 146)), (1, .int x1), (2, .int y2), (3, .int y3), (4, .int y4)] → q26 f y2 y3 y4 = some (rv, gv) → W p l e ({ frames := 4, cells := 0, slots := 0, locals := 87 } : Room) s m ([.ref (ad 146), .int x1] : List Value).toArray below meth c H locs 0 0 (MQ below (hQi D ac ad S rv gv) ([.ref (ad 146), .int x1] : List Value).toArray s 0 0 (hAd ad S.length)) (F0 m 26 ls []))), (∀ (f : hF) (y2 : Int32) (y4 : Int32) (s0 : Int32) (s1 : Int32) (H : Heap) (locs : List Loc) (ls : Array Slot), hOk D ac ad S (hAd ad S.length) s.heap f H locs → lv_has ls 7 [(0, .ref (ad 146)), (1, .int x1), (2, .int y2), (4, .int y4)] → fX8_look_109 x1 q26 f y2 y4 s0 s1 = some (rv, gv) → W p l e ({ frames := 4, cells := 0, slots := 0, locals := 87 } : Room) s m ([.ref (ad 146), .int x1] : List Value).toArray below meth c H locs 0 0 (MQ below (hQi D ac ad S rv gv) ([.ref (ad 146), .int x1] : List Value).toArray s 0 0 (hAd ad S.length)) (F0 m 109 ls [.int s1, .int s0])) := by
    intro q26 hq26 f y2 y4 s0 s1 H locs ls hw hl h
    unfold fX8_look_109 at h
    refine lv_ior hx hb dX8_look_109 ?_
    refine lv_istore_n (lv' := [(3, .int (s0 ||| s1)), (0, .ref (ad 146)), (1, .int x1), (2, .int y2), (4, .int y4)]) hx hb dX8_look_110 rfl hl (by decide) rfl (fun ls hl => ?_)
    refine lv_iinc (v := (y4 + 1)) (lv' := [(4, .int (y4 + 1)), (3, .int (s0 ||| s1)), (0, .ref (ad 146)), (1, .int x1), (2, .int y2)]) hx hb dX8_look_111 hl (k := 4) rfl rfl (by decide) rfl (fun ls hl => ?_)
    refine lv_goto (tgt := 26) hx hb dX8_look_114 (by decide) ?_
    exact hq26 f y2 (s0 ||| s1) (y4 + 1) _ _ _ hw (lv_sub hl [2, 3, 4, 1, 0] rfl) h
  have J93 : ∀ (q26 : hF → Int32 → Int32 → Int32 → Option (Int32 × hF)) (hq26 : (∀ (f : hF) (y2 : Int32) (y3 : Int32) (y4 : Int32) (H : Heap) (locs : List Loc) (ls : Array Slot), hOk D ac ad S (hAd ad S.length) s.heap f H locs → lv_has ls 7 [(0, .ref (ad 146)), (1, .int x1), (2, .int y2), (3, .int y3), (4, .int y4)] → q26 f y2 y3 y4 = some (rv, gv) → W p l e ({ frames := 4, cells := 0, slots := 0, locals := 87 } : Room) s m ([.ref (ad 146), .int x1] : List Value).toArray below meth c H locs 0 0 (MQ below (hQi D ac ad S rv gv) ([.ref (ad 146), .int x1] : List Value).toArray s 0 0 (hAd ad S.length)) (F0 m 26 ls []))), (∀ (f : hF) (y3 : Int32) (y4 : Int32) (y5 : Int32) (s0 : Int32) (s1 : Int32) (H : Heap) (locs : List Loc) (ls : Array Slot), hOk D ac ad S (hAd ad S.length) s.heap f H locs → lv_has ls 7 [(0, .ref (ad 146)), (1, .int x1), (3, .int y3), (4, .int y4), (5, .int y5)] → fX8_look_93 x1 q26 f y3 y4 y5 s0 s1 = some (rv, gv) → W p l e ({ frames := 4, cells := 0, slots := 0, locals := 87 } : Room) s m ([.ref (ad 146), .int x1] : List Value).toArray below meth c H locs 0 0 (MQ below (hQi D ac ad S rv gv) ([.ref (ad 146), .int x1] : List Value).toArray s 0 0 (hAd ad S.length)) (F0 m 93 ls [.int s1, .int s0])) := by
    intro q26 hq26 f y3 y4 y5 s0 s1 H locs ls hw hl h
    unfold fX8_look_93 at h
    refine lv_iadd hx hb dX8_look_93 ?_
    refine lv_istore_n (lv' := [(2, .int (s0 + s1)), (0, .ref (ad 146)), (1, .int x1), (3, .int y3), (4, .int y4), (5, .int y5)]) hx hb dX8_look_94 rfl hl (by decide) rfl (fun ls hl => ?_)
    refine lv_iload_n hx hb dX8_look_95 rfl (lv_at hl 3 rfl) ?_
    refine lv_iload hx hb dX8_look_96 (lv_at hl 5 rfl) ?_
    refine lv_if_eq (tgt := 108) hx hb dX8_look_98 (by decide) (fun hc1 => ?_) (fun hc1 => ?_)
    · have h := it hc1 h
      refine lv_iconst (v := 0) hx hb dX8_look_108 (by decide) ?_
      exact J109 q26 hq26 f (s0 + s1) y4 y3 0 _ _ _ hw (lv_sub hl [1, 2, 0, 4] rfl) h
    · have h := ie hc1 h
      refine lv_iconst (v := 1) hx hb dX8_look_101 (by decide) ?_
      refine lv_iload hx hb dX8_look_102 (lv_at hl 4 rfl) ?_
      refine lv_ishl hx hb dX8_look_104 ?_
      refine lv_goto (tgt := 109) hx hb dX8_look_105 (by decide) ?_
      exact J109 q26 hq26 f (s0 + s1) y4 y3 (1 <<< (y4 &&& 31)) _ _ _ hw (lv_sub hl [1, 2, 0, 4] rfl) h
  have J41 : ∀ (q26 : hF → Int32 → Int32 → Int32 → Option (Int32 × hF)) (hq26 : (∀ (f : hF) (y2 : Int32) (y3 : Int32) (y4 : Int32) (H : Heap) (locs : List Loc) (ls : Array Slot), hOk D ac ad S (hAd ad S.length) s.heap f H locs → lv_has ls 7 [(0, .ref (ad 146)), (1, .int x1), (2, .int y2), (3, .int y3), (4, .int y4)] → q26 f y2 y3 y4 = some (rv, gv) → W p l e ({ frames := 4, cells := 0, slots := 0, locals := 87 } : Room) s m ([.ref (ad 146), .int x1] : List Value).toArray below meth c H locs 0 0 (MQ below (hQi D ac ad S rv gv) ([.ref (ad 146), .int x1] : List Value).toArray s 0 0 (hAd ad S.length)) (F0 m 26 ls []))) (n : Nat), (∀ (f : hF) (y2 : Int32) (y3 : Int32) (y4 : Int32) (y5 : Int32) (y6 : Int32) (H : Heap) (locs : List Loc) (ls : Array Slot), hOk D ac ad S (hAd ad S.length) s.heap f H locs → lv_has ls 7 [(0, .ref (ad 146)), (1, .int x1), (2, .int y2), (3, .int y3), (4, .int y4), (5, .int y5), (6, .int y6)] → fX8_look_41 x1 q26 n f y2 y3 y4 y5 y6 = some (rv, gv) → W p l e ({ frames := 4, cells := 0, slots := 0, locals := 87 } : Room) s m ([.ref (ad 146), .int x1] : List Value).toArray below meth c H locs 0 0 (MQ below (hQi D ac ad S rv gv) ([.ref (ad 146), .int x1] : List Value).toArray s 0 0 (hAd ad S.length)) (F0 m 41 ls [])) := by
    intro q26 hq26 n
    induction n with
    | zero =>
      intro f y2 y3 y4 y5 y6 H locs ls hw hl h
      rw [fX8_look_41] at h
      cases h
    | succ n ih =>
      intro f y2 y3 y4 y5 y6 H locs ls hw hl h
      rw [fX8_look_41] at h
      refine lv_iload hx hb dX8_look_41 (lv_at hl 6 rfl) ?_
      refine lv_bipush (v := 8) hx hb dX8_look_43 (by decide) ?_
      refine lv_icmp_ge (tgt := 82) hx hb dX8_look_45 (by decide) (fun hc1 => ?_) (fun hc1 => ?_)
      · have h := it hc1 h
        refine lv_iload_n hx hb dX8_look_82 rfl (lv_at hl 2 rfl) ?_
        refine lv_iload hx hb dX8_look_83 (lv_at hl 5 rfl) ?_
        refine lv_if_eq (tgt := 92) hx hb dX8_look_85 (by decide) (fun hc2 => ?_) (fun hc2 => ?_)
        · have h := it hc2 h
          refine lv_iconst (v := 0) hx hb dX8_look_92 (by decide) ?_
          exact J93 q26 hq26 f y3 y4 y5 y2 0 _ _ _ hw (lv_sub hl [0, 1, 3, 4, 5] rfl) h
        · have h := ie hc2 h
          refine lv_iconst (v := 1) hx hb dX8_look_88 (by decide) ?_
          refine lv_goto (tgt := 93) hx hb dX8_look_89 (by decide) ?_
          exact J93 q26 hq26 f y3 y4 y5 y2 1 _ _ _ hw (lv_sub hl [0, 1, 3, 4, 5] rfl) h
      · have h := ie hc1 h
        refine lv_iload hx hb dX8_look_48 (lv_at hl 5 rfl) ?_
        refine lv_if_ne (tgt := 69) hx hb dX8_look_50 (by decide) (fun hc3 => ?_) (fun hc3 => ?_)
        · have h := ie hc3 h
          exact J69 q26 hq26 (fX8_look_41 x1 q26 n) ih f y2 y3 y4 y6 _ _ _ hw (lv_sub hl [0, 1, 2, 3, 4, 6] rfl) h
        · have h := it hc3 h
          refine lv_aload_n hx hb dX8_look_53 rfl (lv_at hl 0 rfl) ?_
          refine h_getR hx hb hts hnX8_look_X8 hown hK hw hS.1 rfl 23 (by decide) rfl hkX8_look_46 dX8_look_54 ?_
          refine lv_bipush (v := 8) hx hb dX8_look_57 (by decide) ?_
          refine lv_iload hx hb dX8_look_59 (lv_at hl 4 rfl) ?_
          refine lv_imul hx hb dX8_look_61 ?_
          refine lv_iload hx hb dX8_look_62 (lv_at hl 6 rfl) ?_
          refine lv_iadd hx hb dX8_look_64 ?_
          obtain ⟨hi4, h⟩ := gd_s h
          refine h_zald hx hb hK hw hS.2.2.2.2.2.2.2.2.2.2.2.2.2.1 hi4 dX8_look_65 ?_
          refine lv_if_eq (tgt := 73) hx hb dX8_look_66 (by decide) (fun hc5 => ?_) (fun hc5 => ?_)
          · have h := it hc5 h
            refine lv_iconst (v := 0) hx hb dX8_look_73 (by decide) ?_
            refine lv_istore (lv' := [(5, .int 0), (0, .ref (ad 146)), (1, .int x1), (2, .int y2), (3, .int y3), (4, .int y4), (6, .int y6)]) hx hb dX8_look_74 hl (by decide) rfl (fun ls hl => ?_)
            refine lv_iinc (v := (y6 + 1)) (lv' := [(6, .int (y6 + 1)), (5, .int 0), (0, .ref (ad 146)), (1, .int x1), (2, .int y2), (3, .int y3), (4, .int y4)]) hx hb dX8_look_76 hl (k := 6) rfl rfl (by decide) rfl (fun ls hl => ?_)
            refine lv_goto (tgt := 41) hx hb dX8_look_79 (by decide) ?_
            exact ih f y2 y3 y4 0 (y6 + 1) _ _ _ hw (lv_sub hl [2, 3, 4, 5, 6, 1, 0] rfl) h
          · have h := ie hc5 h
            exact J69 q26 hq26 (fX8_look_41 x1 q26 n) ih f y2 y3 y4 y6 _ _ _ hw (lv_sub hl [0, 1, 2, 3, 4, 6] rfl) h
  have J26 : ∀ (n : Nat), (∀ (f : hF) (y2 : Int32) (y3 : Int32) (y4 : Int32) (H : Heap) (locs : List Loc) (ls : Array Slot), hOk D ac ad S (hAd ad S.length) s.heap f H locs → lv_has ls 7 [(0, .ref (ad 146)), (1, .int x1), (2, .int y2), (3, .int y3), (4, .int y4)] → fX8_look_26 x1 n f y2 y3 y4 = some (rv, gv) → W p l e ({ frames := 4, cells := 0, slots := 0, locals := 87 } : Room) s m ([.ref (ad 146), .int x1] : List Value).toArray below meth c H locs 0 0 (MQ below (hQi D ac ad S rv gv) ([.ref (ad 146), .int x1] : List Value).toArray s 0 0 (hAd ad S.length)) (F0 m 26 ls [])) := by
    intro n
    induction n with
    | zero =>
      intro f y2 y3 y4 H locs ls hw hl h
      rw [fX8_look_26] at h
      cases h
    | succ n ih =>
      intro f y2 y3 y4 H locs ls hw hl h
      rw [fX8_look_26] at h
      refine lv_iload hx hb dX8_look_26 (lv_at hl 4 rfl) ?_
      refine lv_aload_n hx hb dX8_look_28 rfl (lv_at hl 0 rfl) ?_
      refine h_getI hx hb hts hnX8_look_X8 hown hK hw hS.1 rfl 2 (by decide) rfl hkX8_look_87 dX8_look_29 ?_
      refine lv_icmp_ge (tgt := 117) hx hb dX8_look_32 (by decide) (fun hc1 => ?_) (fun hc1 => ?_)
      · have h := it hc1 h
        refine lv_iload_n hx hb dX8_look_117 rfl (lv_at hl 1 rfl) ?_
        refine lv_if_ne (tgt := 125) hx hb dX8_look_118 (by decide) (fun hc2 => ?_) (fun hc2 => ?_)
        · have h := ie hc2 h
          refine lv_iload_n hx hb dX8_look_125 rfl (lv_at hl 3 rfl) ?_
          exact h_retQ hx hb hr hlocks hw rfl (so2 h) dX8_look_126
        · have h := it hc2 h
          refine lv_iload_n hx hb dX8_look_121 rfl (lv_at hl 2 rfl) ?_
          refine lv_goto (tgt := 126) hx hb dX8_look_122 (by decide) ?_
          exact h_retQ hx hb hr hlocks hw rfl (so2 h) dX8_look_126
      · have h := ie hc1 h
        refine lv_iconst (v := 0) hx hb dX8_look_35 (by decide) ?_
        refine lv_istore (lv' := [(5, .int 0), (0, .ref (ad 146)), (1, .int x1), (2, .int y2), (3, .int y3), (4, .int y4)]) hx hb dX8_look_36 hl (by decide) rfl (fun ls hl => ?_)
        refine lv_iconst (v := 0) hx hb dX8_look_38 (by decide) ?_
        refine lv_istore (lv' := [(6, .int 0), (5, .int 0), (0, .ref (ad 146)), (1, .int x1), (2, .int y2), (3, .int y3), (4, .int y4)]) hx hb dX8_look_39 hl (by decide) rfl (fun ls hl => ?_)
        exact J41 (fX8_look_26 x1 n) ih _ f y2 y3 y4 0 0 _ _ _ hw (lv_sub hl [2, 3, 4, 5, 6, 1, 0] rfl) h
  unfold fX8_look at h
  refine lv_iload_n hx hb dX8_look_0 rfl (lv_at hl 1 rfl) ?_
  refine lv_iconst (v := 0) hx hb dX8_look_1 (by decide) ?_
  refine lv_iconst (v := 1) hx hb dX8_look_2 (by decide) ?_
  obtain ⟨r1, er1, h⟩ := b1_s h
  refine h_callR (va_runS (As := [.int x1, .int 0, .int 1]) (rest := []) ⟨hx, hb, hml, hown, hts⟩ (mX8_in l D ac ad S f x1 (0 : Int32) (1 : Int32) r1  er1) (va_cwS 3 hts gX8_look_X8_in rfl rfl rfl (by decide +kernel) ⟨Nat.le_of_ble_eq_true rfl, Nat.le_of_ble_eq_true rfl⟩) (h_preS hK hw _) rfl rfl hl.1 rfl (lv_room (Nat.le_of_ble_eq_true rfl)) dX8_look_3 ⟨Nat.le_of_ble_eq_true rfl, Nat.le_of_ble_eq_true rfl⟩) ?_
  refine lv_if_ne (tgt := 11) hx hb dX8_look_6 (by decide) (fun hc2 => ?_) (fun hc2 => ?_)
  · have h := ie hc2 h
    refine lv_aload_n hx hb dX8_look_11 rfl (lv_at hl 0 rfl) ?_
    obtain ⟨f3, ef3, h⟩ := b1_s h
    refine h_callV hw (va_runV (As := []) (rest := []) ⟨hx, hb, hml, hown, hts⟩ (mX8_asItIs l D ac ad S f f3 hS ef3) (cwV 0 hts gX8_look_X8_asItIs rfl rfl rfl (by decide +kernel) ⟨Nat.le_of_ble_eq_true rfl, Nat.le_of_ble_eq_true rfl⟩) (h_preV hK hw hS.1 rfl _) rfl rfl hl.1 rfl (lv_room (Nat.le_of_ble_eq_true rfl)) dX8_look_12 ⟨Nat.le_of_ble_eq_true rfl, Nat.le_of_ble_eq_true rfl⟩) (fun H locs hw => ?_)
    refine lv_aload_n hx hb dX8_look_15 rfl (lv_at hl 0 rfl) ?_
    obtain ⟨f4, ef4, h⟩ := b1_s h
    refine h_callV hw (va_runV (As := []) (rest := []) ⟨hx, hb, hml, hown, hts⟩ (mX8_findHolds l D ac ad S f3 f4 hS ef4) (cwV 0 hts gX8_look_X8_findHolds rfl rfl rfl (by decide +kernel) ⟨Nat.le_of_ble_eq_true rfl, Nat.le_of_ble_eq_true rfl⟩) (h_preV hK hw hS.1 rfl _) rfl rfl hl.1 rfl (lv_room (Nat.le_of_ble_eq_true rfl)) dX8_look_16 ⟨Nat.le_of_ble_eq_true rfl, Nat.le_of_ble_eq_true rfl⟩) (fun H locs hw => ?_)
    refine lv_iconst (v := 0) hx hb dX8_look_19 (by decide) ?_
    refine lv_istore_n (lv' := [(2, .int 0), (0, .ref (ad 146)), (1, .int x1)]) hx hb dX8_look_20 rfl hl (by decide) rfl (fun ls hl => ?_)
    refine lv_iconst (v := 0) hx hb dX8_look_21 (by decide) ?_
    refine lv_istore_n (lv' := [(3, .int 0), (2, .int 0), (0, .ref (ad 146)), (1, .int x1)]) hx hb dX8_look_22 rfl hl (by decide) rfl (fun ls hl => ?_)
    refine lv_iconst (v := 0) hx hb dX8_look_23 (by decide) ?_
    refine lv_istore (lv' := [(4, .int 0), (3, .int 0), (2, .int 0), (0, .ref (ad 146)), (1, .int x1)]) hx hb dX8_look_24 hl (by decide) rfl (fun ls hl => ?_)
    exact J26 _ f4 0 0 0 _ _ _ hw (lv_sub hl [3, 4, 2, 1, 0] rfl) h
  · have h := it hc2 h
    refine lv_iconst (v := (-1)) hx hb dX8_look_9 (by decide) ?_
    exact h_retQ hx hb hr hlocks hw rfl (so2 h) dX8_look_10

theorem hnX8_can_X8 : ∀ w ∈ wsX80, w ∈ wsX8_can := by decide +kernel
theorem hkX8_can_87 : Cond.fieldLink RX8 87 (TX8 2).1 (TX8 2).2.1 (TX8 2).2.2.1 ∈ wsX8_can := by decide +kernel
theorem hkX8_can_16 : Cond.fieldLink RX8 16 (TX8 5).1 (TX8 5).2.1 (TX8 5).2.2.1 ∈ wsX8_can := by decide +kernel
theorem hkX8_can_80 : Cond.fieldLink RX8 80 (TX8 0).1 (TX8 0).2.1 (TX8 0).2.2.1 ∈ wsX8_can := by decide +kernel
set_option maxHeartbeats 8000000 in
set_option maxRecDepth 100000 in
theorem mX8_can (l : Launch) (D : va_G) (ac : Nat → ClassId) (ad : Nat → Nat) (S : List hSh) (f : hF) (x1 : Int32) (rv : Int32) (gv : hF) (hS : isMo S) (h : fX8_can f x1 = some (rv, gv)) : Met l yX8_can wsX8_can ({ frames := 4, cells := 0, slots := 0, locals := 90 }) (hPc D ac ad S f [.ref (ad 146), .int x1]) (hQi D ac ad S rv gv) 0 0 (hAd ad S.length) := by
  refine h_enter (C := RX8) (cc := cX8_can) (maxL := 5) (ret := (some .int)) (lv := [(0, .ref (ad 146)), (1, .int x1)]) (by decide) rfl rfl (Nat.le_of_ble_eq_true rfl) rfl (fun p e s m below meth c ls hx hb hml hr hlocks hown hts hK hw hl => ?_)
  have J77 : ∀ (q18 : hF → Int32 → Int32 → Option (Int32 × hF)) (hq18 : (∀ (f : hF) (y2 : Int32) (y3 : Int32) (H : Heap) (locs : List Loc) (ls : Array Slot), hOk D ac ad S (hAd ad S.length) s.heap f H locs → lv_has ls 5 [(0, .ref (ad 146)), (1, .int x1), (2, .int y2), (3, .int y3)] → q18 f y2 y3 = some (rv, gv) → W p l e ({ frames := 4, cells := 0, slots := 0, locals := 90 } : Room) s m ([.ref (ad 146), .int x1] : List Value).toArray below meth c H locs 0 0 (MQ below (hQi D ac ad S rv gv) ([.ref (ad 146), .int x1] : List Value).toArray s 0 0 (hAd ad S.length)) (F0 m 18 ls []))) (q29 : hF → Int32 → Int32 → Int32 → Option (Int32 × hF)) (hq29 : (∀ (f : hF) (y2 : Int32) (y3 : Int32) (y4 : Int32) (H : Heap) (locs : List Loc) (ls : Array Slot), hOk D ac ad S (hAd ad S.length) s.heap f H locs → lv_has ls 5 [(0, .ref (ad 146)), (1, .int x1), (2, .int y2), (3, .int y3), (4, .int y4)] → q29 f y2 y3 y4 = some (rv, gv) → W p l e ({ frames := 4, cells := 0, slots := 0, locals := 90 } : Room) s m ([.ref (ad 146), .int x1] : List Value).toArray below meth c H locs 0 0 (MQ below (hQi D ac ad S rv gv) ([.ref (ad 146), .int x1] : List Value).toArray s 0 0 (hAd ad S.length)) (F0 m 29 ls []))), (∀ (f : hF) (y3 : Int32) (y4 : Int32) (s0 : Int32) (s1 : Int32) (H : Heap) (locs : List Loc) (ls : Array Slot), hOk D ac ad S (hAd ad S.length) s.heap f H locs → lv_has ls 5 [(0, .ref (ad 146)), (1, .int x1), (3, .int y3), (4, .int y4)] → fX8_can_77 x1 q18 q29 f y3 y4 s0 s1 = some (rv, gv) → W p l e ({ frames := 4, cells := 0, slots := 0, locals := 90 } : Room) s m ([.ref (ad 146), .int x1] : List Value).toArray below meth c H locs 0 0 (MQ below (hQi D ac ad S rv gv) ([.ref (ad 146), .int x1] : List Value).toArray s 0 0 (hAd ad S.length)) (F0 m 77 ls [.int s1, .int s0])) := by
    intro q18 hq18 q29 hq29 f y3 y4 s0 s1 H locs ls hw hl h
    unfold fX8_can_77 at h
    refine lv_ior hx hb dX8_can_77 ?_
    refine lv_istore_n (lv' := [(2, .int (s0 ||| s1)), (0, .ref (ad 146)), (1, .int x1), (3, .int y3), (4, .int y4)]) hx hb dX8_can_78 rfl hl (by decide) rfl (fun ls hl => ?_)
    refine lv_iinc (v := (y4 + 1)) (lv' := [(4, .int (y4 + 1)), (2, .int (s0 ||| s1)), (0, .ref (ad 146)), (1, .int x1), (3, .int y3)]) hx hb dX8_can_79 hl (k := 4) rfl rfl (by decide) rfl (fun ls hl => ?_)
    refine lv_goto (tgt := 29) hx hb dX8_can_82 (by decide) ?_
    exact hq29 f (s0 ||| s1) y3 (y4 + 1) _ _ _ hw (lv_sub hl [2, 3, 1, 4, 0] rfl) h
  have J76 : ∀ (q18 : hF → Int32 → Int32 → Option (Int32 × hF)) (hq18 : (∀ (f : hF) (y2 : Int32) (y3 : Int32) (H : Heap) (locs : List Loc) (ls : Array Slot), hOk D ac ad S (hAd ad S.length) s.heap f H locs → lv_has ls 5 [(0, .ref (ad 146)), (1, .int x1), (2, .int y2), (3, .int y3)] → q18 f y2 y3 = some (rv, gv) → W p l e ({ frames := 4, cells := 0, slots := 0, locals := 90 } : Room) s m ([.ref (ad 146), .int x1] : List Value).toArray below meth c H locs 0 0 (MQ below (hQi D ac ad S rv gv) ([.ref (ad 146), .int x1] : List Value).toArray s 0 0 (hAd ad S.length)) (F0 m 18 ls []))) (q29 : hF → Int32 → Int32 → Int32 → Option (Int32 × hF)) (hq29 : (∀ (f : hF) (y2 : Int32) (y3 : Int32) (y4 : Int32) (H : Heap) (locs : List Loc) (ls : Array Slot), hOk D ac ad S (hAd ad S.length) s.heap f H locs → lv_has ls 5 [(0, .ref (ad 146)), (1, .int x1), (2, .int y2), (3, .int y3), (4, .int y4)] → q29 f y2 y3 y4 = some (rv, gv) → W p l e ({ frames := 4, cells := 0, slots := 0, locals := 90 } : Room) s m ([.ref (ad 146), .int x1] : List Value).toArray below meth c H locs 0 0 (MQ below (hQi D ac ad S rv gv) ([.ref (ad 146), .int x1] : List Value).toArray s 0 0 (hAd ad S.length)) (F0 m 29 ls []))), (∀ (f : hF) (y3 : Int32) (y4 : Int32) (s0 : Int32) (H : Heap) (locs : List Loc) (ls : Array Slot), hOk D ac ad S (hAd ad S.length) s.heap f H locs → lv_has ls 5 [(0, .ref (ad 146)), (1, .int x1), (3, .int y3), (4, .int y4)] → fX8_can_76 x1 q18 q29 f y3 y4 s0 = some (rv, gv) → W p l e ({ frames := 4, cells := 0, slots := 0, locals := 90 } : Room) s m ([.ref (ad 146), .int x1] : List Value).toArray below meth c H locs 0 0 (MQ below (hQi D ac ad S rv gv) ([.ref (ad 146), .int x1] : List Value).toArray s 0 0 (hAd ad S.length)) (F0 m 76 ls [.int s0])) := by
    intro q18 hq18 q29 hq29 f y3 y4 s0 H locs ls hw hl h
    unfold fX8_can_76 at h
    refine lv_iconst (v := 0) hx hb dX8_can_76 (by decide) ?_
    exact J77 q18 hq18 q29 hq29 f y3 y4 s0 0 _ _ _ hw (lv_sub hl [0, 1, 2, 3] rfl) h
  have J29 : ∀ (q18 : hF → Int32 → Int32 → Option (Int32 × hF)) (hq18 : (∀ (f : hF) (y2 : Int32) (y3 : Int32) (H : Heap) (locs : List Loc) (ls : Array Slot), hOk D ac ad S (hAd ad S.length) s.heap f H locs → lv_has ls 5 [(0, .ref (ad 146)), (1, .int x1), (2, .int y2), (3, .int y3)] → q18 f y2 y3 = some (rv, gv) → W p l e ({ frames := 4, cells := 0, slots := 0, locals := 90 } : Room) s m ([.ref (ad 146), .int x1] : List Value).toArray below meth c H locs 0 0 (MQ below (hQi D ac ad S rv gv) ([.ref (ad 146), .int x1] : List Value).toArray s 0 0 (hAd ad S.length)) (F0 m 18 ls []))) (n : Nat), (∀ (f : hF) (y2 : Int32) (y3 : Int32) (y4 : Int32) (H : Heap) (locs : List Loc) (ls : Array Slot), hOk D ac ad S (hAd ad S.length) s.heap f H locs → lv_has ls 5 [(0, .ref (ad 146)), (1, .int x1), (2, .int y2), (3, .int y3), (4, .int y4)] → fX8_can_29 x1 q18 n f y2 y3 y4 = some (rv, gv) → W p l e ({ frames := 4, cells := 0, slots := 0, locals := 90 } : Room) s m ([.ref (ad 146), .int x1] : List Value).toArray below meth c H locs 0 0 (MQ below (hQi D ac ad S rv gv) ([.ref (ad 146), .int x1] : List Value).toArray s 0 0 (hAd ad S.length)) (F0 m 29 ls [])) := by
    intro q18 hq18 n
    induction n with
    | zero =>
      intro f y2 y3 y4 H locs ls hw hl h
      rw [fX8_can_29] at h
      cases h
    | succ n ih =>
      intro f y2 y3 y4 H locs ls hw hl h
      rw [fX8_can_29] at h
      refine lv_iload hx hb dX8_can_29 (lv_at hl 4 rfl) ?_
      refine lv_aload_n hx hb dX8_can_31 rfl (lv_at hl 0 rfl) ?_
      refine h_getI hx hb hts hnX8_can_X8 hown hK hw hS.1 rfl 2 (by decide) rfl hkX8_can_87 dX8_can_32 ?_
      refine lv_icmp_ge (tgt := 85) hx hb dX8_can_35 (by decide) (fun hc1 => ?_) (fun hc1 => ?_)
      · have h := it hc1 h
        refine lv_iinc (v := (y3 + 1)) (lv' := [(3, .int (y3 + 1)), (0, .ref (ad 146)), (1, .int x1), (2, .int y2), (4, .int y4)]) hx hb dX8_can_85 hl (k := 3) rfl rfl (by decide) rfl (fun ls hl => ?_)
        refine lv_goto (tgt := 18) hx hb dX8_can_88 (by decide) ?_
        exact hq18 f y2 (y3 + 1) _ _ _ hw (lv_sub hl [1, 2, 3, 0] rfl) h
      · have h := ie hc1 h
        refine lv_iload_n hx hb dX8_can_38 rfl (lv_at hl 2 rfl) ?_
        refine lv_iload_n hx hb dX8_can_39 rfl (lv_at hl 3 rfl) ?_
        refine lv_iload_n hx hb dX8_can_40 rfl (lv_at hl 1 rfl) ?_
        refine lv_icmp_eq (tgt := 76) hx hb dX8_can_41 (by decide) (fun hc2 => ?_) (fun hc2 => ?_)
        · have h := it hc2 h
          exact J76 q18 hq18 (fX8_can_29 x1 q18 n) ih f y3 y4 y2 _ _ _ hw (lv_sub hl [0, 1, 3, 4] rfl) h
        · have h := ie hc2 h
          refine lv_aload_n hx hb dX8_can_44 rfl (lv_at hl 0 rfl) ?_
          refine lv_iload hx hb dX8_can_45 (lv_at hl 4 rfl) ?_
          refine lv_iload_n hx hb dX8_can_47 rfl (lv_at hl 1 rfl) ?_
          refine lv_iload_n hx hb dX8_can_48 rfl (lv_at hl 3 rfl) ?_
          obtain ⟨r3, er3, h⟩ := b1_s h
          refine h_callR (va_runV (As := [.int y4, .int x1, .int y3]) (rest := [.int y2]) ⟨hx, hb, hml, hown, hts⟩ (mX8_canWed l D ac ad S f y4 x1 y3 r3 hS er3) (cwV 3 hts gX8_can_X8_canWed rfl rfl rfl (by decide +kernel) ⟨Nat.le_of_ble_eq_true rfl, Nat.le_of_ble_eq_true rfl⟩) (h_preV hK hw hS.1 rfl _) rfl rfl hl.1 rfl (lv_room (Nat.le_of_ble_eq_true rfl)) dX8_can_49 ⟨Nat.le_of_ble_eq_true rfl, Nat.le_of_ble_eq_true rfl⟩) ?_
          refine lv_if_eq (tgt := 76) hx hb dX8_can_52 (by decide) (fun hc4 => ?_) (fun hc4 => ?_)
          · have h := it hc4 h
            exact J76 q18 hq18 (fX8_can_29 x1 q18 n) ih f y3 y4 y2 _ _ _ hw (lv_sub hl [0, 1, 3, 4] rfl) h
          · have h := ie hc4 h
            refine lv_aload_n hx hb dX8_can_55 rfl (lv_at hl 0 rfl) ?_
            refine h_getR hx hb hts hnX8_can_X8 hown hK hw hS.1 rfl 5 (by decide) rfl hkX8_can_16 dX8_can_56 ?_
            refine lv_bipush (v := 12) hx hb dX8_can_59 (by decide) ?_
            refine lv_iload hx hb dX8_can_61 (lv_at hl 4 rfl) ?_
            refine lv_iadd hx hb dX8_can_63 ?_
            obtain ⟨hi5, h⟩ := gd_s h
            refine h_iald hx hb hK hw hS.2.2.2.1 hi5 dX8_can_64 ?_
            refine lv_bipush (v := 8) hx hb dX8_can_65 (by decide) ?_
            refine lv_icmp_ge (tgt := 76) hx hb dX8_can_67 (by decide) (fun hc6 => ?_) (fun hc6 => ?_)
            · have h := it hc6 h
              exact J76 q18 hq18 (fX8_can_29 x1 q18 n) ih f y3 y4 y2 _ _ _ hw (lv_sub hl [0, 1, 3, 4] rfl) h
            · have h := ie hc6 h
              refine lv_iconst (v := 1) hx hb dX8_can_70 (by decide) ?_
              refine lv_iload_n hx hb dX8_can_71 rfl (lv_at hl 3 rfl) ?_
              refine lv_ishl hx hb dX8_can_72 ?_
              refine lv_goto (tgt := 77) hx hb dX8_can_73 (by decide) ?_
              exact J77 q18 hq18 (fX8_can_29 x1 q18 n) ih f y3 y4 y2 (1 <<< (y3 &&& 31)) _ _ _ hw (lv_sub hl [0, 1, 3, 4] rfl) h
  have J18 : ∀ (n : Nat), (∀ (f : hF) (y2 : Int32) (y3 : Int32) (H : Heap) (locs : List Loc) (ls : Array Slot), hOk D ac ad S (hAd ad S.length) s.heap f H locs → lv_has ls 5 [(0, .ref (ad 146)), (1, .int x1), (2, .int y2), (3, .int y3)] → fX8_can_18 x1 n f y2 y3 = some (rv, gv) → W p l e ({ frames := 4, cells := 0, slots := 0, locals := 90 } : Room) s m ([.ref (ad 146), .int x1] : List Value).toArray below meth c H locs 0 0 (MQ below (hQi D ac ad S rv gv) ([.ref (ad 146), .int x1] : List Value).toArray s 0 0 (hAd ad S.length)) (F0 m 18 ls [])) := by
    intro n
    induction n with
    | zero =>
      intro f y2 y3 H locs ls hw hl h
      rw [fX8_can_18] at h
      cases h
    | succ n ih =>
      intro f y2 y3 H locs ls hw hl h
      rw [fX8_can_18] at h
      refine lv_iload_n hx hb dX8_can_18 rfl (lv_at hl 3 rfl) ?_
      refine lv_aload_n hx hb dX8_can_19 rfl (lv_at hl 0 rfl) ?_
      refine h_getI hx hb hts hnX8_can_X8 hown hK hw hS.1 rfl 0 (by decide) rfl hkX8_can_80 dX8_can_20 ?_
      refine lv_icmp_ge (tgt := 91) hx hb dX8_can_23 (by decide) (fun hc1 => ?_) (fun hc1 => ?_)
      · have h := it hc1 h
        refine lv_iload_n hx hb dX8_can_91 rfl (lv_at hl 2 rfl) ?_
        exact h_retQ hx hb hr hlocks hw rfl (so2 h) dX8_can_92
      · have h := ie hc1 h
        refine lv_iconst (v := 0) hx hb dX8_can_26 (by decide) ?_
        refine lv_istore (lv' := [(4, .int 0), (0, .ref (ad 146)), (1, .int x1), (2, .int y2), (3, .int y3)]) hx hb dX8_can_27 hl (by decide) rfl (fun ls hl => ?_)
        exact J29 (fX8_can_18 x1 n) ih _ f y2 y3 0 _ _ _ hw (lv_sub hl [1, 2, 3, 4, 0] rfl) h
  unfold fX8_can at h
  refine lv_aload_n hx hb dX8_can_0 rfl (lv_at hl 0 rfl) ?_
  refine lv_iload_n hx hb dX8_can_1 rfl (lv_at hl 1 rfl) ?_
  obtain ⟨r1, er1, h⟩ := b1_s h
  refine h_callR (va_runV (As := [.int x1]) (rest := []) ⟨hx, hb, hml, hown, hts⟩ (mX8_isPerson l D ac ad S f x1 r1 hS er1) (cwV 1 hts gX8_can_X8_isPerson rfl rfl rfl (by decide +kernel) ⟨Nat.le_of_ble_eq_true rfl, Nat.le_of_ble_eq_true rfl⟩) (h_preV hK hw hS.1 rfl _) rfl rfl hl.1 rfl (lv_room (Nat.le_of_ble_eq_true rfl)) dX8_can_2 ⟨Nat.le_of_ble_eq_true rfl, Nat.le_of_ble_eq_true rfl⟩) ?_
  refine lv_if_ne (tgt := 10) hx hb dX8_can_5 (by decide) (fun hc2 => ?_) (fun hc2 => ?_)
  · have h := ie hc2 h
    refine lv_aload_n hx hb dX8_can_10 rfl (lv_at hl 0 rfl) ?_
    obtain ⟨f3, ef3, h⟩ := b1_s h
    refine h_callV hw (va_runV (As := []) (rest := []) ⟨hx, hb, hml, hown, hts⟩ (mX8_asItIs l D ac ad S f f3 hS ef3) (cwV 0 hts gX8_can_X8_asItIs rfl rfl rfl (by decide +kernel) ⟨Nat.le_of_ble_eq_true rfl, Nat.le_of_ble_eq_true rfl⟩) (h_preV hK hw hS.1 rfl _) rfl rfl hl.1 rfl (lv_room (Nat.le_of_ble_eq_true rfl)) dX8_can_11 ⟨Nat.le_of_ble_eq_true rfl, Nat.le_of_ble_eq_true rfl⟩) (fun H locs hw => ?_)
    refine lv_iconst (v := 0) hx hb dX8_can_14 (by decide) ?_
    refine lv_istore_n (lv' := [(2, .int 0), (0, .ref (ad 146)), (1, .int x1)]) hx hb dX8_can_15 rfl hl (by decide) rfl (fun ls hl => ?_)
    refine lv_iconst (v := 0) hx hb dX8_can_16 (by decide) ?_
    refine lv_istore_n (lv' := [(3, .int 0), (2, .int 0), (0, .ref (ad 146)), (1, .int x1)]) hx hb dX8_can_17 rfl hl (by decide) rfl (fun ls hl => ?_)
    exact J18 _ f3 0 0 _ _ _ hw (lv_sub hl [2, 3, 1, 0] rfl) h
  · have h := it hc2 h
    refine lv_iconst (v := (-1)) hx hb dX8_can_8 (by decide) ?_
    exact h_retQ hx hb hr hlocks hw rfl (so2 h) dX8_can_9

theorem hnX8_see_X8 : ∀ w ∈ wsX80, w ∈ wsX8_see := by decide +kernel
theorem hkX8_see_143 : Cond.fieldLink RX8 143 (TX8 10).1 (TX8 10).2.1 (TX8 10).2.2.1 ∈ wsX8_see := by decide +kernel
theorem hkX8_see_25 : Cond.fieldLink RX8 25 (TX8 11).1 (TX8 11).2.1 (TX8 11).2.2.1 ∈ wsX8_see := by decide +kernel
set_option maxHeartbeats 8000000 in
set_option maxRecDepth 100000 in
theorem mX8_see (l : Launch) (D : va_G) (ac : Nat → ClassId) (ad : Nat → Nat) (S : List hSh) (f : hF) (x1 : Int32) (x2 : Int32) (x3 : Int32) (x4 : Int32) (rv : Int32) (gv : hF) (hS : isMo S) (h : fX8_see f x1 x2 x3 x4 = some (rv, gv)) : Met l yX8_see wsX8_see ({ frames := 2, cells := 0, slots := 0, locals := 43 }) (hPc D ac ad S f [.ref (ad 146), .int x1, .int x2, .int x3, .int x4]) (hQi D ac ad S rv gv) 0 0 (hAd ad S.length) := by
  refine h_enter (C := RX8) (cc := cX8_see) (maxL := 5) (ret := (some .int)) (lv := [(0, .ref (ad 146)), (1, .int x1), (2, .int x2), (3, .int x3), (4, .int x4)]) (by decide) rfl rfl (Nat.le_of_ble_eq_true rfl) rfl (fun p e s m below meth c ls hx hb hml hr hlocks hown hts hK hw hl => ?_)
  have J107 : ∀ (_ : Unit), (∀ (f : hF) (s1 : Int32) (s2 : Int32) (H : Heap) (locs : List Loc) (ls : Array Slot), hOk D ac ad S (hAd ad S.length) s.heap f H locs → lv_has ls 5 [(0, .ref (ad 146))] → fX8_see_107 x1 x2 x3 x4 f s1 s2 = some (rv, gv) → W p l e ({ frames := 2, cells := 0, slots := 0, locals := 43 } : Room) s m ([.ref (ad 146), .int x1, .int x2, .int x3, .int x4] : List Value).toArray below meth c H locs 0 0 (MQ below (hQi D ac ad S rv gv) ([.ref (ad 146), .int x1, .int x2, .int x3, .int x4] : List Value).toArray s 0 0 (hAd ad S.length)) (F0 m 107 ls [.int s2, .int s1, .ref (ad 152)])) := by
    intro _ f s1 s2 H locs ls hw hl h
    unfold fX8_see_107 at h
    obtain ⟨hi1, h⟩ := gd_s h
    obtain ⟨f2, ef2, h⟩ := lt_s2 h
    refine h_iast (g := f2) ef2 hx hb hK hw hS.2.2.2.2.2.2.1 hi1 dX8_see_107 (fun H locs hw => ?_)
    refine lv_aload_n hx hb dX8_see_108 rfl (lv_at hl 0 rfl) ?_
    refine lv_dup hx hb dX8_see_109 rfl ?_
    refine h_getI hx hb hts hnX8_see_X8 hown hK hw hS.1 rfl 10 (by decide) rfl hkX8_see_143 dX8_see_110 ?_
    refine lv_iconst (v := 1) hx hb dX8_see_113 (by decide) ?_
    refine lv_iadd hx hb dX8_see_114 ?_
    obtain ⟨f3, ef3, h⟩ := lt_s2 h
    refine h_putI (g := f3) ef3 hx hb hts hnX8_see_X8 tyX8 tyX8_ok nmX8 hown hK hw hS.1 rfl 10 rfl (by decide) rfl hkX8_see_143 rfl (by decide +kernel) dX8_see_115 (fun H locs hw => ?_)
    refine lv_aload_n hx hb dX8_see_118 rfl (lv_at hl 0 rfl) ?_
    refine h_getI hx hb hts hnX8_see_X8 hown hK hw hS.1 rfl 10 (by decide) rfl hkX8_see_143 dX8_see_119 ?_
    exact h_retQ hx hb hr hlocks hw rfl (so2 h) dX8_see_122
  unfold fX8_see at h
  refine lv_aload_n hx hb dX8_see_0 rfl (lv_at hl 0 rfl) ?_
  refine lv_iload_n hx hb dX8_see_1 rfl (lv_at hl 1 rfl) ?_
  obtain ⟨r1, er1, h⟩ := b1_s h
  refine h_callR (va_runV (As := [.int x1]) (rest := []) ⟨hx, hb, hml, hown, hts⟩ (mX8_isPerson l D ac ad S f x1 r1 hS er1) (cwV 1 hts gX8_see_X8_isPerson rfl rfl rfl (by decide +kernel) ⟨Nat.le_of_ble_eq_true rfl, Nat.le_of_ble_eq_true rfl⟩) (h_preV hK hw hS.1 rfl _) rfl rfl hl.1 rfl (lv_room (Nat.le_of_ble_eq_true rfl)) dX8_see_2 ⟨Nat.le_of_ble_eq_true rfl, Nat.le_of_ble_eq_true rfl⟩) ?_
  refine lv_if_eq (tgt := 31) hx hb dX8_see_5 (by decide) (fun hc2 => ?_) (fun hc2 => ?_)
  · have h := it hc2 h
    refine lv_iconst (v := (-1)) hx hb dX8_see_31 (by decide) ?_
    exact h_retQ hx hb hr hlocks hw rfl (so2 h) dX8_see_32
  · have h := ie hc2 h
    refine lv_aload_n hx hb dX8_see_8 rfl (lv_at hl 0 rfl) ?_
    refine lv_iload_n hx hb dX8_see_9 rfl (lv_at hl 2 rfl) ?_
    obtain ⟨r3, er3, h⟩ := b1_s h
    refine h_callR (va_runV (As := [.int x2]) (rest := []) ⟨hx, hb, hml, hown, hts⟩ (mX8_isPerson l D ac ad S f x2 r3 hS er3) (cwV 1 hts gX8_see_X8_isPerson rfl rfl rfl (by decide +kernel) ⟨Nat.le_of_ble_eq_true rfl, Nat.le_of_ble_eq_true rfl⟩) (h_preV hK hw hS.1 rfl _) rfl rfl hl.1 rfl (lv_room (Nat.le_of_ble_eq_true rfl)) dX8_see_10 ⟨Nat.le_of_ble_eq_true rfl, Nat.le_of_ble_eq_true rfl⟩) ?_
    refine lv_if_eq (tgt := 31) hx hb dX8_see_13 (by decide) (fun hc4 => ?_) (fun hc4 => ?_)
    · have h := it hc4 h
      refine lv_iconst (v := (-1)) hx hb dX8_see_31 (by decide) ?_
      exact h_retQ hx hb hr hlocks hw rfl (so2 h) dX8_see_32
    · have h := ie hc4 h
      refine lv_iload_n hx hb dX8_see_16 rfl (lv_at hl 1 rfl) ?_
      refine lv_iload_n hx hb dX8_see_17 rfl (lv_at hl 2 rfl) ?_
      refine lv_icmp_eq (tgt := 31) hx hb dX8_see_18 (by decide) (fun hc5 => ?_) (fun hc5 => ?_)
      · have h := it hc5 h
        refine lv_iconst (v := (-1)) hx hb dX8_see_31 (by decide) ?_
        exact h_retQ hx hb hr hlocks hw rfl (so2 h) dX8_see_32
      · have h := ie hc5 h
        refine lv_iload_n hx hb dX8_see_21 rfl (lv_at hl 3 rfl) ?_
        refine lv_iconst (v := 0) hx hb dX8_see_22 (by decide) ?_
        refine lv_bipush (v := 99) hx hb dX8_see_23 (by decide) ?_
        obtain ⟨r6, er6, h⟩ := b1_s h
        refine h_callR (va_runS (As := [.int x3, .int 0, .int 99]) (rest := []) ⟨hx, hb, hml, hown, hts⟩ (mX8_in l D ac ad S f x3 (0 : Int32) (99 : Int32) r6  er6) (va_cwS 3 hts gX8_see_X8_in rfl rfl rfl (by decide +kernel) ⟨Nat.le_of_ble_eq_true rfl, Nat.le_of_ble_eq_true rfl⟩) (h_preS hK hw _) rfl rfl hl.1 rfl (lv_room (Nat.le_of_ble_eq_true rfl)) dX8_see_25 ⟨Nat.le_of_ble_eq_true rfl, Nat.le_of_ble_eq_true rfl⟩) ?_
        refine lv_if_ne (tgt := 33) hx hb dX8_see_28 (by decide) (fun hc7 => ?_) (fun hc7 => ?_)
        · have h := ie hc7 h
          refine lv_aload_n hx hb dX8_see_33 rfl (lv_at hl 0 rfl) ?_
          refine h_getI hx hb hts hnX8_see_X8 hown hK hw hS.1 rfl 10 (by decide) rfl hkX8_see_143 dX8_see_34 ?_
          refine lv_bipush (v := 6) hx hb dX8_see_37 (by decide) ?_
          refine lv_icmp_ne (tgt := 45) hx hb dX8_see_39 (by decide) (fun hc8 => ?_) (fun hc8 => ?_)
          · have h := ie hc8 h
            refine lv_aload_n hx hb dX8_see_45 rfl (lv_at hl 0 rfl) ?_
            refine h_getR hx hb hts hnX8_see_X8 hown hK hw hS.1 rfl 11 (by decide) rfl hkX8_see_25 dX8_see_46 ?_
            refine lv_iconst (v := 4) hx hb dX8_see_49 (by decide) ?_
            refine lv_aload_n hx hb dX8_see_50 rfl (lv_at hl 0 rfl) ?_
            refine h_getI hx hb hts hnX8_see_X8 hown hK hw hS.1 rfl 10 (by decide) rfl hkX8_see_143 dX8_see_51 ?_
            refine lv_imul hx hb dX8_see_54 ?_
            refine lv_iload_n hx hb dX8_see_55 rfl (lv_at hl 1 rfl) ?_
            obtain ⟨hi9, h⟩ := gd_s h
            obtain ⟨f10, ef10, h⟩ := lt_s2 h
            refine h_iast (g := f10) ef10 hx hb hK hw hS.2.2.2.2.2.2.1 hi9 dX8_see_56 (fun H locs hw => ?_)
            refine lv_aload_n hx hb dX8_see_57 rfl (lv_at hl 0 rfl) ?_
            refine h_getR hx hb hts hnX8_see_X8 hown hK hw hS.1 rfl 11 (by decide) rfl hkX8_see_25 dX8_see_58 ?_
            refine lv_iconst (v := 4) hx hb dX8_see_61 (by decide) ?_
            refine lv_aload_n hx hb dX8_see_62 rfl (lv_at hl 0 rfl) ?_
            refine h_getI hx hb hts hnX8_see_X8 hown hK hw hS.1 rfl 10 (by decide) rfl hkX8_see_143 dX8_see_63 ?_
            refine lv_imul hx hb dX8_see_66 ?_
            refine lv_iconst (v := 1) hx hb dX8_see_67 (by decide) ?_
            refine lv_iadd hx hb dX8_see_68 ?_
            refine lv_iload_n hx hb dX8_see_69 rfl (lv_at hl 2 rfl) ?_
            obtain ⟨hi11, h⟩ := gd_s h
            obtain ⟨f12, ef12, h⟩ := lt_s2 h
            refine h_iast (g := f12) ef12 hx hb hK hw hS.2.2.2.2.2.2.1 hi11 dX8_see_70 (fun H locs hw => ?_)
            refine lv_aload_n hx hb dX8_see_71 rfl (lv_at hl 0 rfl) ?_
            refine h_getR hx hb hts hnX8_see_X8 hown hK hw hS.1 rfl 11 (by decide) rfl hkX8_see_25 dX8_see_72 ?_
            refine lv_iconst (v := 4) hx hb dX8_see_75 (by decide) ?_
            refine lv_aload_n hx hb dX8_see_76 rfl (lv_at hl 0 rfl) ?_
            refine h_getI hx hb hts hnX8_see_X8 hown hK hw hS.1 rfl 10 (by decide) rfl hkX8_see_143 dX8_see_77 ?_
            refine lv_imul hx hb dX8_see_80 ?_
            refine lv_iconst (v := 2) hx hb dX8_see_81 (by decide) ?_
            refine lv_iadd hx hb dX8_see_82 ?_
            refine lv_iload_n hx hb dX8_see_83 rfl (lv_at hl 3 rfl) ?_
            obtain ⟨hi13, h⟩ := gd_s h
            obtain ⟨f14, ef14, h⟩ := lt_s2 h
            refine h_iast (g := f14) ef14 hx hb hK hw hS.2.2.2.2.2.2.1 hi13 dX8_see_84 (fun H locs hw => ?_)
            refine lv_aload_n hx hb dX8_see_85 rfl (lv_at hl 0 rfl) ?_
            refine h_getR hx hb hts hnX8_see_X8 hown hK hw hS.1 rfl 11 (by decide) rfl hkX8_see_25 dX8_see_86 ?_
            refine lv_iconst (v := 4) hx hb dX8_see_89 (by decide) ?_
            refine lv_aload_n hx hb dX8_see_90 rfl (lv_at hl 0 rfl) ?_
            refine h_getI hx hb hts hnX8_see_X8 hown hK hw hS.1 rfl 10 (by decide) rfl hkX8_see_143 dX8_see_91 ?_
            refine lv_imul hx hb dX8_see_94 ?_
            refine lv_iconst (v := 3) hx hb dX8_see_95 (by decide) ?_
            refine lv_iadd hx hb dX8_see_96 ?_
            refine lv_iload hx hb dX8_see_97 (lv_at hl 4 rfl) ?_
            refine lv_if_eq (tgt := 106) hx hb dX8_see_99 (by decide) (fun hc15 => ?_) (fun hc15 => ?_)
            · have h := it hc15 h
              refine lv_iconst (v := 0) hx hb dX8_see_106 (by decide) ?_
              exact J107 () f14 ((4 * (f14 146 10)) + 3) 0 _ _ _ hw (lv_sub hl [0] rfl) h
            · have h := ie hc15 h
              refine lv_iconst (v := 1) hx hb dX8_see_102 (by decide) ?_
              refine lv_goto (tgt := 107) hx hb dX8_see_103 (by decide) ?_
              exact J107 () f14 ((4 * (f14 146 10)) + 3) 1 _ _ _ hw (lv_sub hl [0] rfl) h
          · have h := it hc8 h
            refine lv_bipush (v := (-3)) hx hb dX8_see_42 (by decide) ?_
            exact h_retQ hx hb hr hlocks hw rfl (so2 h) dX8_see_44
        · have h := it hc7 h
          refine lv_iconst (v := (-1)) hx hb dX8_see_31 (by decide) ?_
          exact h_retQ hx hb hr hlocks hw rfl (so2 h) dX8_see_32

theorem hnX8_forget_X8 : ∀ w ∈ wsX80, w ∈ wsX8_forget := by decide +kernel
theorem hkX8_forget_143 : Cond.fieldLink RX8 143 (TX8 10).1 (TX8 10).2.1 (TX8 10).2.2.1 ∈ wsX8_forget := by decide +kernel
set_option maxHeartbeats 8000000 in
set_option maxRecDepth 100000 in
theorem mX8_forget (l : Launch) (D : va_G) (ac : Nat → ClassId) (ad : Nat → Nat) (S : List hSh) (f : hF) (rv : Int32) (gv : hF) (hS : isMo S) (h : fX8_forget f = some (rv, gv)) : Met l yX8_forget wsX8_forget ({ frames := 0, cells := 0, slots := 0, locals := 0 }) (hPc D ac ad S f [.ref (ad 146)]) (hQi D ac ad S rv gv) 0 0 (hAd ad S.length) := by
  refine h_enter (C := RX8) (cc := cX8_forget) (maxL := 2) (ret := (some .int)) (lv := [(0, .ref (ad 146))]) (by decide) rfl rfl (Nat.le_of_ble_eq_true rfl) rfl (fun p e s m below meth c ls hx hb hml hr hlocks hown hts hK hw hl => ?_)
  unfold fX8_forget at h
  refine lv_aload_n hx hb dX8_forget_0 rfl (lv_at hl 0 rfl) ?_
  refine h_getI hx hb hts hnX8_forget_X8 hown hK hw hS.1 rfl 10 (by decide) rfl hkX8_forget_143 dX8_forget_1 ?_
  refine lv_istore_n (lv' := [(1, .int (f 146 10)), (0, .ref (ad 146))]) hx hb dX8_forget_4 rfl hl (by decide) rfl (fun ls hl => ?_)
  refine lv_aload_n hx hb dX8_forget_5 rfl (lv_at hl 1 rfl) ?_
  refine lv_iconst (v := 0) hx hb dX8_forget_6 (by decide) ?_
  obtain ⟨f1, ef1, h⟩ := lt_s2 h
  refine h_putI (g := f1) ef1 hx hb hts hnX8_forget_X8 tyX8 tyX8_ok nmX8 hown hK hw hS.1 rfl 10 rfl (by decide) rfl hkX8_forget_143 rfl (by decide +kernel) dX8_forget_7 (fun H locs hw => ?_)
  refine lv_iload_n hx hb dX8_forget_10 rfl (lv_at hl 0 rfl) ?_
  exact h_retQ hx hb hr hlocks hw rfl (so2 h) dX8_forget_11
