set_option maxHeartbeats 32000000 in
set_option maxRecDepth 100000 in
theorem law_J732 {p : Program} {e : Env} {s : State} {m : MethodId} {below : List Frame} {meth : Method} {c : Code} (l : Launch) {b L : Nat} {xs : Nat → Int32} {D : va_G} {ac : Nat → ClassId} (hx : p.tables.exec = Jvm.exec) (hb : c.code = code) (hr : meth.sig.returnType = ret) (hml : c.maxLocals = 4) (hown : s.vm.findClass RL = some m.cls) (hts : ∀ w ∈ lw_tbl, w.before #[Value.ref b] s = true) (hX : va_X b L xs s s.heap) (hbl : b < s.heap.size) (hbA : ¬ hU s.heap.size b) (hlocks : meth.locks = false) (hK : va_K D vwCl (hT ac) s) : ∀ (q18 : hF → Int32 → Option Int32) (hq18 : (∀ (f : hF) (y3 : Int32) (H : Heap) (locs : List Loc) (ls : Array Slot), hOk D ac (hB s.heap.size) shAll (hU s.heap.size) s.heap f H locs → lv_has ls 4 [(0, .ref b), (1, .ref (hB s.heap.size 0)), (2, .ref (hB s.heap.size 146)), (3, .int y3)] → q18 f y3 = some 1 → W p l e room_1 s m #[Value.ref b] below meth c H locs 162 4081 (lw_Z below #[Value.ref b] s) (F0 m 18 ls []))), (∀ (f : hF) (y3 : Int32) (s0 : Int32) (s2 : Int32) (s3 : Int32) (s4 : Int32) (s5 : Int32) (H : Heap) (locs : List Loc) (ls : Array Slot), hOk D ac (hB s.heap.size) shAll (hU s.heap.size) s.heap f H locs → lv_has ls 4 [(0, .ref b), (1, .ref (hB s.heap.size 0)), (2, .ref (hB s.heap.size 146)), (3, .int y3)] → fL_law_732 xs L q18 f y3 s0 s2 s3 s4 s5 = some 1 → W p l e room_1 s m #[Value.ref b] below meth c H locs 162 4081 (lw_Z below #[Value.ref b] s) (F0 m 732 ls [.int s5, .int s4, .int s3, .int s2, .ref (hB s.heap.size 146), .int s0])) := by
    intro q18 hq18 f y3 s0 s2 s3 s4 s5 H locs ls hw hl h
    unfold fL_law_732 at h
    obtain ⟨r1, f2, ef2, h⟩ := b2_s h
    refine h_callQ hw (va_runV (As := [.int s2, .int s3, .int s4, .int s5]) (rest := [.int s0]) ⟨hx, hb, hml, hown, hts⟩ (mX8_see l D ac (hB s.heap.size) shAll f s2 s3 s4 s5 r1 f2 mo_ok ef2) (cwV 4 hts gl_X8_see rfl rfl rfl (by decide +kernel) ⟨Nat.le_of_ble_eq_true rfl, Nat.le_of_ble_eq_true rfl⟩) (h_preV hK hw mo_ok.1 rfl _) rfl rfl hl.1 rfl (lv_room (Nat.le_of_ble_eq_true rfl)) dL_law_732 ⟨Nat.le_of_ble_eq_true rfl, Nat.le_of_ble_eq_true rfl⟩) (fun H locs hw => ?_)
    refine lv_icmp_eq (tgt := 977) hx hb dL_law_735 (by decide) (fun hc3 => ?_) (fun hc3 => ?_)
    · have h := it hc3 h
      refine lv_iinc (v := (y3 + 5)) (lv' := [(3, .int (y3 + 5)), (0, .ref b), (1, .ref (hB s.heap.size 0)), (2, .ref (hB s.heap.size 146))]) hx hb dL_law_977 hl (k := 3) rfl rfl (by decide) rfl (fun ls hl => ?_)
      refine lv_goto (tgt := 18) hx hb dL_law_980 (by decide) ?_
      exact hq18 f2 (y3 + 5) _ _ _ hw (lv_sub hl [1, 2, 3, 0] rfl) h
    · have h := ie hc3 h
      refine lv_iconst (v := 0) hx hb dL_law_738 (by decide) ?_
      exact absurd (Option.some.inj h) (by decide)
set_option maxHeartbeats 32000000 in
set_option maxRecDepth 100000 in
theorem law_J700 {p : Program} {e : Env} {s : State} {m : MethodId} {below : List Frame} {meth : Method} {c : Code} (l : Launch) {b L : Nat} {xs : Nat → Int32} {D : va_G} {ac : Nat → ClassId} (hx : p.tables.exec = Jvm.exec) (hb : c.code = code) (hr : meth.sig.returnType = ret) (hml : c.maxLocals = 4) (hown : s.vm.findClass RL = some m.cls) (hts : ∀ w ∈ lw_tbl, w.before #[Value.ref b] s = true) (hX : va_X b L xs s s.heap) (hbl : b < s.heap.size) (hbA : ¬ hU s.heap.size b) (hlocks : meth.locks = false) (hK : va_K D vwCl (hT ac) s) : ∀ (q18 : hF → Int32 → Option Int32) (hq18 : (∀ (f : hF) (y3 : Int32) (H : Heap) (locs : List Loc) (ls : Array Slot), hOk D ac (hB s.heap.size) shAll (hU s.heap.size) s.heap f H locs → lv_has ls 4 [(0, .ref b), (1, .ref (hB s.heap.size 0)), (2, .ref (hB s.heap.size 146)), (3, .int y3)] → q18 f y3 = some 1 → W p l e room_1 s m #[Value.ref b] below meth c H locs 162 4081 (lw_Z below #[Value.ref b] s) (F0 m 18 ls []))), (∀ (f : hF) (y3 : Int32) (s1 : Int32) (s2 : Int32) (s3 : Int32) (s4 : Int32) (H : Heap) (locs : List Loc) (ls : Array Slot), hOk D ac (hB s.heap.size) shAll (hU s.heap.size) s.heap f H locs → lv_has ls 4 [(0, .ref b), (1, .ref (hB s.heap.size 0)), (2, .ref (hB s.heap.size 146)), (3, .int y3)] → fL_law_700 xs L q18 f y3 s1 s2 s3 s4 = some 1 → W p l e room_1 s m #[Value.ref b] below meth c H locs 162 4081 (lw_Z below #[Value.ref b] s) (F0 m 700 ls [.int s4, .int s3, .int s2, .int s1, .ref (hB s.heap.size 0)])) := by
    have J732 := law_J732 (xs := xs) (L := L) (e := e) (below := below) l hx hb hr hml hown hts hX hbl hbA hlocks hK
    intro q18 hq18 f y3 s1 s2 s3 s4 H locs ls hw hl h
    unfold fL_law_700 at h
    obtain ⟨r1, f2, ef2, h⟩ := b2_s h
    refine h_callQ hw (va_runV (As := [.int s1, .int s2, .int s3, .int s4]) (rest := []) ⟨hx, hb, hml, hown, hts⟩ (mX7_see l D ac (hB s.heap.size) shAll f s1 s2 s3 s4 r1 f2 pw2_ok ef2) (cwV 4 hts gl_X7_see rfl rfl rfl (by decide +kernel) ⟨Nat.le_of_ble_eq_true rfl, Nat.le_of_ble_eq_true rfl⟩) (h_preV hK hw pw2_ok.1 rfl _) rfl rfl hl.1 rfl (lv_room (Nat.le_of_ble_eq_true rfl)) dL_law_700 ⟨Nat.le_of_ble_eq_true rfl, Nat.le_of_ble_eq_true rfl⟩) (fun H locs hw => ?_)
    refine lv_aload_n hx hb dL_law_703 rfl (lv_at hl 2 rfl) ?_
    refine lv_aload_n hx hb dL_law_704 rfl (lv_at hl 0 rfl) ?_
    refine lv_iload_n hx hb dL_law_705 rfl (lv_at hl 3 rfl) ?_
    refine lv_iconst (v := 1) hx hb dL_law_706 (by decide) ?_
    refine lv_iadd hx hb dL_law_707 ?_
    obtain ⟨hi3, h⟩ := gd_s h
    refine va_sld hx hb hX hbl hbA hw.2.2 hi3 dL_law_708 ?_
    refine lv_aload_n hx hb dL_law_709 rfl (lv_at hl 0 rfl) ?_
    refine lv_iload_n hx hb dL_law_710 rfl (lv_at hl 3 rfl) ?_
    refine lv_iconst (v := 2) hx hb dL_law_711 (by decide) ?_
    refine lv_iadd hx hb dL_law_712 ?_
    obtain ⟨hi4, h⟩ := gd_s h
    refine va_sld hx hb hX hbl hbA hw.2.2 hi4 dL_law_713 ?_
    refine lv_aload_n hx hb dL_law_714 rfl (lv_at hl 0 rfl) ?_
    refine lv_iload_n hx hb dL_law_715 rfl (lv_at hl 3 rfl) ?_
    refine lv_iconst (v := 3) hx hb dL_law_716 (by decide) ?_
    refine lv_iadd hx hb dL_law_717 ?_
    obtain ⟨hi5, h⟩ := gd_s h
    refine va_sld hx hb hX hbl hbA hw.2.2 hi5 dL_law_718 ?_
    refine lv_aload_n hx hb dL_law_719 rfl (lv_at hl 0 rfl) ?_
    refine lv_iload_n hx hb dL_law_720 rfl (lv_at hl 3 rfl) ?_
    refine lv_iconst (v := 4) hx hb dL_law_721 (by decide) ?_
    refine lv_iadd hx hb dL_law_722 ?_
    obtain ⟨hi6, h⟩ := gd_s h
    refine va_sld hx hb hX hbl hbA hw.2.2 hi6 dL_law_723 ?_
    refine lv_if_eq (tgt := 731) hx hb dL_law_724 (by decide) (fun hc7 => ?_) (fun hc7 => ?_)
    · have h := it hc7 h
      refine lv_iconst (v := 0) hx hb dL_law_731 (by decide) ?_
      exact J732 q18 hq18 f2 y3 r1 (xs (y3 + 1).toNatClampNeg) (xs (y3 + 2).toNatClampNeg) (xs (y3 + 3).toNatClampNeg) 0 _ _ _ hw (lv_sub hl [0, 1, 2, 3] rfl) h
    · have h := ie hc7 h
      refine lv_iconst (v := 1) hx hb dL_law_727 (by decide) ?_
      refine lv_goto (tgt := 732) hx hb dL_law_728 (by decide) ?_
      exact J732 q18 hq18 f2 y3 r1 (xs (y3 + 1).toNatClampNeg) (xs (y3 + 2).toNatClampNeg) (xs (y3 + 3).toNatClampNeg) 1 _ _ _ hw (lv_sub hl [0, 1, 2, 3] rfl) h
set_option maxHeartbeats 32000000 in
set_option maxRecDepth 100000 in
theorem law_J18 {p : Program} {e : Env} {s : State} {m : MethodId} {below : List Frame} {meth : Method} {c : Code} (l : Launch) {b L : Nat} {xs : Nat → Int32} {D : va_G} {ac : Nat → ClassId} (hx : p.tables.exec = Jvm.exec) (hb : c.code = code) (hr : meth.sig.returnType = ret) (hml : c.maxLocals = 4) (hown : s.vm.findClass RL = some m.cls) (hts : ∀ w ∈ lw_tbl, w.before #[Value.ref b] s = true) (hX : va_X b L xs s s.heap) (hbl : b < s.heap.size) (hbA : ¬ hU s.heap.size b) (hlocks : meth.locks = false) (hK : va_K D vwCl (hT ac) s) : ∀ (n : Nat), (∀ (f : hF) (y3 : Int32) (H : Heap) (locs : List Loc) (ls : Array Slot), hOk D ac (hB s.heap.size) shAll (hU s.heap.size) s.heap f H locs → lv_has ls 4 [(0, .ref b), (1, .ref (hB s.heap.size 0)), (2, .ref (hB s.heap.size 146)), (3, .int y3)] → fL_law_18 xs L n f y3 = some 1 → W p l e room_1 s m #[Value.ref b] below meth c H locs 162 4081 (lw_Z below #[Value.ref b] s) (F0 m 18 ls [])) := by
    have J732 := law_J732 (xs := xs) (L := L) (e := e) (below := below) l hx hb hr hml hown hts hX hbl hbA hlocks hK
    have J700 := law_J700 (xs := xs) (L := L) (e := e) (below := below) l hx hb hr hml hown hts hX hbl hbA hlocks hK
    intro n
    induction n with
    | zero =>
      intro f y3 H locs ls hw hl h
      rw [fL_law_18] at h
      cases h
    | succ n ih =>
      intro f y3 H locs ls hw hl h
      rw [fL_law_18] at h
      refine lv_iload_n hx hb dL_law_18 rfl (lv_at hl 3 rfl) ?_
      refine lv_aload_n hx hb dL_law_19 rfl (lv_at hl 0 rfl) ?_
      refine va_slen hx hb hX hbl hbA hw.2.2 dL_law_20 ?_
      refine lv_iconst (v := 5) hx hb dL_law_21 (by decide) ?_
      refine lv_isub hx hb dL_law_22 ?_
      refine lv_icmp_gt (tgt := 983) hx hb dL_law_23 (by decide) (fun hc1 => ?_) (fun hc1 => ?_)
      · have h := it hc1 h
        refine lv_iconst (v := 1) hx hb dL_law_983 (by decide) ?_
        refine va_forget hw.2.2.2.2 ?_
        refine W.widen (k := 600000) (n := 7302250) (Nat.le_of_ble_eq_true rfl) (Nat.le_of_ble_eq_true rfl) ?_
        exact lw_ret hx hb hr hlocks dL_law_984
      · have h := ie hc1 h
        refine lv_aload_n hx hb dL_law_26 rfl (lv_at hl 0 rfl) ?_
        refine lv_iload_n hx hb dL_law_27 rfl (lv_at hl 3 rfl) ?_
        obtain ⟨hi2, h⟩ := gd_s h
        refine va_sld hx hb hX hbl hbA hw.2.2 hi2 dL_law_28 ?_
        refine lv_bipush (v := 31) hx hb dL_law_29 (by decide) ?_
        refine lv_iand hx hb dL_law_31 ?_
        by_cases hc219 : ((xs y3.toNatClampNeg) &&& 31) = 0
        · have h := it hc219 h
          refine lv_tableIn (off := 132) (tgt := 164) hx hb dL_law_32 (by rw [hc219]; decide) (by rw [hc219]; decide) (by rw [hc219]; rfl) (by decide) ?_
          refine lv_aload_n hx hb dL_law_164 rfl (lv_at hl 1 rfl) ?_
          refine lv_aload_n hx hb dL_law_165 rfl (lv_at hl 0 rfl) ?_
          refine lv_iload_n hx hb dL_law_166 rfl (lv_at hl 3 rfl) ?_
          refine lv_iconst (v := 1) hx hb dL_law_167 (by decide) ?_
          refine lv_iadd hx hb dL_law_168 ?_
          obtain ⟨hi3, h⟩ := gd_s h
          refine va_sld hx hb hX hbl hbA hw.2.2 hi3 dL_law_169 ?_
          obtain ⟨r4, f5, ef5, h⟩ := b2_s h
          refine h_callQ hw (va_runV (As := [.int (xs (y3 + 1).toNatClampNeg)]) (rest := []) ⟨hx, hb, hml, hown, hts⟩ (mX7_write l D ac (hB s.heap.size) shAll f (xs (y3 + 1).toNatClampNeg) r4 f5 pw2_ok ef5) (cwV 1 hts gl_X7_write rfl rfl rfl (by decide +kernel) ⟨Nat.le_of_ble_eq_true rfl, Nat.le_of_ble_eq_true rfl⟩) (h_preV hK hw pw2_ok.1 rfl _) rfl rfl hl.1 rfl (lv_room (Nat.le_of_ble_eq_true rfl)) dL_law_170 ⟨Nat.le_of_ble_eq_true rfl, Nat.le_of_ble_eq_true rfl⟩) (fun H locs hw => ?_)
          refine lv_aload_n hx hb dL_law_173 rfl (lv_at hl 2 rfl) ?_
          refine lv_aload_n hx hb dL_law_174 rfl (lv_at hl 0 rfl) ?_
          refine lv_iload_n hx hb dL_law_175 rfl (lv_at hl 3 rfl) ?_
          refine lv_iconst (v := 1) hx hb dL_law_176 (by decide) ?_
          refine lv_iadd hx hb dL_law_177 ?_
          obtain ⟨hi6, h⟩ := gd_s h
          refine va_sld hx hb hX hbl hbA hw.2.2 hi6 dL_law_178 ?_
          obtain ⟨r7, f8, ef8, h⟩ := b2_s h
          refine h_callQ hw (va_runV (As := [.int (xs (y3 + 1).toNatClampNeg)]) (rest := [.int r4]) ⟨hx, hb, hml, hown, hts⟩ (mX8_write l D ac (hB s.heap.size) shAll f5 (xs (y3 + 1).toNatClampNeg) r7 f8 mo_ok ef8) (cwV 1 hts gl_X8_write rfl rfl rfl (by decide +kernel) ⟨Nat.le_of_ble_eq_true rfl, Nat.le_of_ble_eq_true rfl⟩) (h_preV hK hw mo_ok.1 rfl _) rfl rfl hl.1 rfl (lv_room (Nat.le_of_ble_eq_true rfl)) dL_law_179 ⟨Nat.le_of_ble_eq_true rfl, Nat.le_of_ble_eq_true rfl⟩) (fun H locs hw => ?_)
          refine lv_icmp_eq (tgt := 977) hx hb dL_law_182 (by decide) (fun hc9 => ?_) (fun hc9 => ?_)
          · have h := it hc9 h
            refine lv_iinc (v := (y3 + 5)) (lv' := [(3, .int (y3 + 5)), (0, .ref b), (1, .ref (hB s.heap.size 0)), (2, .ref (hB s.heap.size 146))]) hx hb dL_law_977 hl (k := 3) rfl rfl (by decide) rfl (fun ls hl => ?_)
            refine lv_goto (tgt := 18) hx hb dL_law_980 (by decide) ?_
            exact ih f8 (y3 + 5) _ _ _ hw (lv_sub hl [1, 2, 3, 0] rfl) h
          · have h := ie hc9 h
            refine lv_iconst (v := 0) hx hb dL_law_185 (by decide) ?_
            exact absurd (Option.some.inj h) (by decide)
        · have h := ie hc219 h
          by_cases hc220 : ((xs y3.toNatClampNeg) &&& 31) = 1
          · have h := it hc220 h
            refine lv_tableIn (off := 155) (tgt := 187) hx hb dL_law_32 (by rw [hc220]; decide) (by rw [hc220]; decide) (by rw [hc220]; rfl) (by decide) ?_
            refine lv_aload_n hx hb dL_law_187 rfl (lv_at hl 1 rfl) ?_
            obtain ⟨r10, f11, ef11, h⟩ := b2_s h
            refine h_callQ hw (va_runV (As := []) (rest := []) ⟨hx, hb, hml, hown, hts⟩ (mX7_wipe l D ac (hB s.heap.size) shAll f r10 f11 pw2_ok ef11) (cwV 0 hts gl_X7_wipe rfl rfl rfl (by decide +kernel) ⟨Nat.le_of_ble_eq_true rfl, Nat.le_of_ble_eq_true rfl⟩) (h_preV hK hw pw2_ok.1 rfl _) rfl rfl hl.1 rfl (lv_room (Nat.le_of_ble_eq_true rfl)) dL_law_188 ⟨Nat.le_of_ble_eq_true rfl, Nat.le_of_ble_eq_true rfl⟩) (fun H locs hw => ?_)
            refine lv_aload_n hx hb dL_law_191 rfl (lv_at hl 2 rfl) ?_
            obtain ⟨r12, f13, ef13, h⟩ := b2_s h
            refine h_callQ hw (va_runV (As := []) (rest := [.int r10]) ⟨hx, hb, hml, hown, hts⟩ (mX8_wipe l D ac (hB s.heap.size) shAll f11 r12 f13 mo_ok ef13) (cwV 0 hts gl_X8_wipe rfl rfl rfl (by decide +kernel) ⟨Nat.le_of_ble_eq_true rfl, Nat.le_of_ble_eq_true rfl⟩) (h_preV hK hw mo_ok.1 rfl _) rfl rfl hl.1 rfl (lv_room (Nat.le_of_ble_eq_true rfl)) dL_law_192 ⟨Nat.le_of_ble_eq_true rfl, Nat.le_of_ble_eq_true rfl⟩) (fun H locs hw => ?_)
            refine lv_icmp_eq (tgt := 977) hx hb dL_law_195 (by decide) (fun hc14 => ?_) (fun hc14 => ?_)
            · have h := it hc14 h
              refine lv_iinc (v := (y3 + 5)) (lv' := [(3, .int (y3 + 5)), (0, .ref b), (1, .ref (hB s.heap.size 0)), (2, .ref (hB s.heap.size 146))]) hx hb dL_law_977 hl (k := 3) rfl rfl (by decide) rfl (fun ls hl => ?_)
              refine lv_goto (tgt := 18) hx hb dL_law_980 (by decide) ?_
              exact ih f13 (y3 + 5) _ _ _ hw (lv_sub hl [1, 2, 3, 0] rfl) h
            · have h := ie hc14 h
              refine lv_iconst (v := 0) hx hb dL_law_198 (by decide) ?_
              exact absurd (Option.some.inj h) (by decide)
          · have h := ie hc220 h
            by_cases hc221 : ((xs y3.toNatClampNeg) &&& 31) = 2
            · have h := it hc221 h
              refine lv_tableIn (off := 168) (tgt := 200) hx hb dL_law_32 (by rw [hc221]; decide) (by rw [hc221]; decide) (by rw [hc221]; rfl) (by decide) ?_
              refine lv_aload_n hx hb dL_law_200 rfl (lv_at hl 1 rfl) ?_
              obtain ⟨r15, f16, ef16, h⟩ := b2_s h
              refine h_callQ hw (va_runV (As := []) (rest := []) ⟨hx, hb, hml, hown, hts⟩ (mX7_fault l D ac (hB s.heap.size) shAll f r15 f16 pw2_ok ef16) (cwV 0 hts gl_X7_fault rfl rfl rfl (by decide +kernel) ⟨Nat.le_of_ble_eq_true rfl, Nat.le_of_ble_eq_true rfl⟩) (h_preV hK hw pw2_ok.1 rfl _) rfl rfl hl.1 rfl (lv_room (Nat.le_of_ble_eq_true rfl)) dL_law_201 ⟨Nat.le_of_ble_eq_true rfl, Nat.le_of_ble_eq_true rfl⟩) (fun H locs hw => ?_)
              refine lv_aload_n hx hb dL_law_204 rfl (lv_at hl 2 rfl) ?_
              obtain ⟨r17, f18, ef18, h⟩ := b2_s h
              refine h_callQ hw (va_runV (As := []) (rest := [.int r15]) ⟨hx, hb, hml, hown, hts⟩ (mX8_fault l D ac (hB s.heap.size) shAll f16 r17 f18 mo_ok ef18) (cwV 0 hts gl_X8_fault rfl rfl rfl (by decide +kernel) ⟨Nat.le_of_ble_eq_true rfl, Nat.le_of_ble_eq_true rfl⟩) (h_preV hK hw mo_ok.1 rfl _) rfl rfl hl.1 rfl (lv_room (Nat.le_of_ble_eq_true rfl)) dL_law_205 ⟨Nat.le_of_ble_eq_true rfl, Nat.le_of_ble_eq_true rfl⟩) (fun H locs hw => ?_)
              refine lv_icmp_eq (tgt := 977) hx hb dL_law_208 (by decide) (fun hc19 => ?_) (fun hc19 => ?_)
              · have h := it hc19 h
                refine lv_iinc (v := (y3 + 5)) (lv' := [(3, .int (y3 + 5)), (0, .ref b), (1, .ref (hB s.heap.size 0)), (2, .ref (hB s.heap.size 146))]) hx hb dL_law_977 hl (k := 3) rfl rfl (by decide) rfl (fun ls hl => ?_)
                refine lv_goto (tgt := 18) hx hb dL_law_980 (by decide) ?_
                exact ih f18 (y3 + 5) _ _ _ hw (lv_sub hl [1, 2, 3, 0] rfl) h
              · have h := ie hc19 h
                refine lv_iconst (v := 0) hx hb dL_law_211 (by decide) ?_
                exact absurd (Option.some.inj h) (by decide)
            · have h := ie hc221 h
              by_cases hc222 : ((xs y3.toNatClampNeg) &&& 31) = 3
              · have h := it hc222 h
                refine lv_tableIn (off := 181) (tgt := 213) hx hb dL_law_32 (by rw [hc222]; decide) (by rw [hc222]; decide) (by rw [hc222]; rfl) (by decide) ?_
                refine lv_aload_n hx hb dL_law_213 rfl (lv_at hl 1 rfl) ?_
                obtain ⟨r20, f21, ef21, h⟩ := b2_s h
                refine h_callQ hw (va_runV (As := []) (rest := []) ⟨hx, hb, hml, hown, hts⟩ (mX7_lay l D ac (hB s.heap.size) shAll f r20 f21 pw2_ok ef21) (cwV 0 hts gl_X7_lay rfl rfl rfl (by decide +kernel) ⟨Nat.le_of_ble_eq_true rfl, Nat.le_of_ble_eq_true rfl⟩) (h_preV hK hw pw2_ok.1 rfl _) rfl rfl hl.1 rfl (lv_room (Nat.le_of_ble_eq_true rfl)) dL_law_214 ⟨Nat.le_of_ble_eq_true rfl, Nat.le_of_ble_eq_true rfl⟩) (fun H locs hw => ?_)
                refine lv_aload_n hx hb dL_law_217 rfl (lv_at hl 2 rfl) ?_
                obtain ⟨r22, f23, ef23, h⟩ := b2_s h
                refine h_callQ hw (va_runV (As := []) (rest := [.int r20]) ⟨hx, hb, hml, hown, hts⟩ (mX8_lay l D ac (hB s.heap.size) shAll f21 r22 f23 mo_ok ef23) (cwV 0 hts gl_X8_lay rfl rfl rfl (by decide +kernel) ⟨Nat.le_of_ble_eq_true rfl, Nat.le_of_ble_eq_true rfl⟩) (h_preV hK hw mo_ok.1 rfl _) rfl rfl hl.1 rfl (lv_room (Nat.le_of_ble_eq_true rfl)) dL_law_218 ⟨Nat.le_of_ble_eq_true rfl, Nat.le_of_ble_eq_true rfl⟩) (fun H locs hw => ?_)
                refine lv_icmp_eq (tgt := 977) hx hb dL_law_221 (by decide) (fun hc24 => ?_) (fun hc24 => ?_)
                · have h := it hc24 h
                  refine lv_iinc (v := (y3 + 5)) (lv' := [(3, .int (y3 + 5)), (0, .ref b), (1, .ref (hB s.heap.size 0)), (2, .ref (hB s.heap.size 146))]) hx hb dL_law_977 hl (k := 3) rfl rfl (by decide) rfl (fun ls hl => ?_)
                  refine lv_goto (tgt := 18) hx hb dL_law_980 (by decide) ?_
                  exact ih f23 (y3 + 5) _ _ _ hw (lv_sub hl [1, 2, 3, 0] rfl) h
                · have h := ie hc24 h
                  refine lv_iconst (v := 0) hx hb dL_law_224 (by decide) ?_
                  exact absurd (Option.some.inj h) (by decide)
              · have h := ie hc222 h
                by_cases hc223 : ((xs y3.toNatClampNeg) &&& 31) = 4
                · have h := it hc223 h
                  refine lv_tableIn (off := 194) (tgt := 226) hx hb dL_law_32 (by rw [hc223]; decide) (by rw [hc223]; decide) (by rw [hc223]; rfl) (by decide) ?_
                  refine lv_aload_n hx hb dL_law_226 rfl (lv_at hl 1 rfl) ?_
                  refine lv_aload_n hx hb dL_law_227 rfl (lv_at hl 0 rfl) ?_
                  refine lv_iload_n hx hb dL_law_228 rfl (lv_at hl 3 rfl) ?_
                  refine lv_iconst (v := 1) hx hb dL_law_229 (by decide) ?_
                  refine lv_iadd hx hb dL_law_230 ?_
                  obtain ⟨hi25, h⟩ := gd_s h
                  refine va_sld hx hb hX hbl hbA hw.2.2 hi25 dL_law_231 ?_
                  refine lv_aload_n hx hb dL_law_232 rfl (lv_at hl 0 rfl) ?_
                  refine lv_iload_n hx hb dL_law_233 rfl (lv_at hl 3 rfl) ?_
                  refine lv_iconst (v := 2) hx hb dL_law_234 (by decide) ?_
                  refine lv_iadd hx hb dL_law_235 ?_
                  obtain ⟨hi26, h⟩ := gd_s h
                  refine va_sld hx hb hX hbl hbA hw.2.2 hi26 dL_law_236 ?_
                  obtain ⟨r27, f28, ef28, h⟩ := b2_s h
                  refine h_callQ hw (va_runV (As := [.int (xs (y3 + 1).toNatClampNeg), .int (xs (y3 + 2).toNatClampNeg)]) (rest := []) ⟨hx, hb, hml, hown, hts⟩ (mX7_person l D ac (hB s.heap.size) shAll f (xs (y3 + 1).toNatClampNeg) (xs (y3 + 2).toNatClampNeg) r27 f28 pw2_ok ef28) (cwV 2 hts gl_X7_person rfl rfl rfl (by decide +kernel) ⟨Nat.le_of_ble_eq_true rfl, Nat.le_of_ble_eq_true rfl⟩) (h_preV hK hw pw2_ok.1 rfl _) rfl rfl hl.1 rfl (lv_room (Nat.le_of_ble_eq_true rfl)) dL_law_237 ⟨Nat.le_of_ble_eq_true rfl, Nat.le_of_ble_eq_true rfl⟩) (fun H locs hw => ?_)
                  refine lv_aload_n hx hb dL_law_240 rfl (lv_at hl 2 rfl) ?_
                  refine lv_aload_n hx hb dL_law_241 rfl (lv_at hl 0 rfl) ?_
                  refine lv_iload_n hx hb dL_law_242 rfl (lv_at hl 3 rfl) ?_
                  refine lv_iconst (v := 1) hx hb dL_law_243 (by decide) ?_
                  refine lv_iadd hx hb dL_law_244 ?_
                  obtain ⟨hi29, h⟩ := gd_s h
                  refine va_sld hx hb hX hbl hbA hw.2.2 hi29 dL_law_245 ?_
                  refine lv_aload_n hx hb dL_law_246 rfl (lv_at hl 0 rfl) ?_
                  refine lv_iload_n hx hb dL_law_247 rfl (lv_at hl 3 rfl) ?_
                  refine lv_iconst (v := 2) hx hb dL_law_248 (by decide) ?_
                  refine lv_iadd hx hb dL_law_249 ?_
                  obtain ⟨hi30, h⟩ := gd_s h
                  refine va_sld hx hb hX hbl hbA hw.2.2 hi30 dL_law_250 ?_
                  obtain ⟨r31, f32, ef32, h⟩ := b2_s h
                  refine h_callQ hw (va_runV (As := [.int (xs (y3 + 1).toNatClampNeg), .int (xs (y3 + 2).toNatClampNeg)]) (rest := [.int r27]) ⟨hx, hb, hml, hown, hts⟩ (mX8_person l D ac (hB s.heap.size) shAll f28 (xs (y3 + 1).toNatClampNeg) (xs (y3 + 2).toNatClampNeg) r31 f32 mo_ok ef32) (cwV 2 hts gl_X8_person rfl rfl rfl (by decide +kernel) ⟨Nat.le_of_ble_eq_true rfl, Nat.le_of_ble_eq_true rfl⟩) (h_preV hK hw mo_ok.1 rfl _) rfl rfl hl.1 rfl (lv_room (Nat.le_of_ble_eq_true rfl)) dL_law_251 ⟨Nat.le_of_ble_eq_true rfl, Nat.le_of_ble_eq_true rfl⟩) (fun H locs hw => ?_)
                  refine lv_icmp_eq (tgt := 977) hx hb dL_law_254 (by decide) (fun hc33 => ?_) (fun hc33 => ?_)
                  · have h := it hc33 h
                    refine lv_iinc (v := (y3 + 5)) (lv' := [(3, .int (y3 + 5)), (0, .ref b), (1, .ref (hB s.heap.size 0)), (2, .ref (hB s.heap.size 146))]) hx hb dL_law_977 hl (k := 3) rfl rfl (by decide) rfl (fun ls hl => ?_)
                    refine lv_goto (tgt := 18) hx hb dL_law_980 (by decide) ?_
                    exact ih f32 (y3 + 5) _ _ _ hw (lv_sub hl [1, 2, 3, 0] rfl) h
                  · have h := ie hc33 h
                    refine lv_iconst (v := 0) hx hb dL_law_257 (by decide) ?_
                    exact absurd (Option.some.inj h) (by decide)
                · have h := ie hc223 h
                  by_cases hc224 : ((xs y3.toNatClampNeg) &&& 31) = 5
                  · have h := it hc224 h
                    refine lv_tableIn (off := 227) (tgt := 259) hx hb dL_law_32 (by rw [hc224]; decide) (by rw [hc224]; decide) (by rw [hc224]; rfl) (by decide) ?_
                    refine lv_aload_n hx hb dL_law_259 rfl (lv_at hl 1 rfl) ?_
                    refine lv_aload_n hx hb dL_law_260 rfl (lv_at hl 0 rfl) ?_
                    refine lv_iload_n hx hb dL_law_261 rfl (lv_at hl 3 rfl) ?_
                    refine lv_iconst (v := 1) hx hb dL_law_262 (by decide) ?_
                    refine lv_iadd hx hb dL_law_263 ?_
                    obtain ⟨hi34, h⟩ := gd_s h
                    refine va_sld hx hb hX hbl hbA hw.2.2 hi34 dL_law_264 ?_
                    refine lv_aload_n hx hb dL_law_265 rfl (lv_at hl 0 rfl) ?_
                    refine lv_iload_n hx hb dL_law_266 rfl (lv_at hl 3 rfl) ?_
                    refine lv_iconst (v := 2) hx hb dL_law_267 (by decide) ?_
                    refine lv_iadd hx hb dL_law_268 ?_
                    obtain ⟨hi35, h⟩ := gd_s h
                    refine va_sld hx hb hX hbl hbA hw.2.2 hi35 dL_law_269 ?_
                    obtain ⟨r36, er36, h⟩ := b1_s h
                    refine h_callR (va_runV (As := [.int (xs (y3 + 1).toNatClampNeg), .int (xs (y3 + 2).toNatClampNeg)]) (rest := []) ⟨hx, hb, hml, hown, hts⟩ (mX7_parson l D ac (hB s.heap.size) shAll f (xs (y3 + 1).toNatClampNeg) (xs (y3 + 2).toNatClampNeg) r36 pw2_ok er36) (cwV 2 hts gl_X7_parson rfl rfl rfl (by decide +kernel) ⟨Nat.le_of_ble_eq_true rfl, Nat.le_of_ble_eq_true rfl⟩) (h_preV hK hw pw2_ok.1 rfl _) rfl rfl hl.1 rfl (lv_room (Nat.le_of_ble_eq_true rfl)) dL_law_270 ⟨Nat.le_of_ble_eq_true rfl, Nat.le_of_ble_eq_true rfl⟩) ?_
                    refine lv_aload_n hx hb dL_law_273 rfl (lv_at hl 2 rfl) ?_
                    refine lv_aload_n hx hb dL_law_274 rfl (lv_at hl 0 rfl) ?_
                    refine lv_iload_n hx hb dL_law_275 rfl (lv_at hl 3 rfl) ?_
                    refine lv_iconst (v := 1) hx hb dL_law_276 (by decide) ?_
                    refine lv_iadd hx hb dL_law_277 ?_
                    obtain ⟨hi37, h⟩ := gd_s h
                    refine va_sld hx hb hX hbl hbA hw.2.2 hi37 dL_law_278 ?_
                    refine lv_aload_n hx hb dL_law_279 rfl (lv_at hl 0 rfl) ?_
                    refine lv_iload_n hx hb dL_law_280 rfl (lv_at hl 3 rfl) ?_
                    refine lv_iconst (v := 2) hx hb dL_law_281 (by decide) ?_
                    refine lv_iadd hx hb dL_law_282 ?_
                    obtain ⟨hi38, h⟩ := gd_s h
                    refine va_sld hx hb hX hbl hbA hw.2.2 hi38 dL_law_283 ?_
                    obtain ⟨r39, f40, ef40, h⟩ := b2_s h
                    refine h_callQ hw (va_runV (As := [.int (xs (y3 + 1).toNatClampNeg), .int (xs (y3 + 2).toNatClampNeg)]) (rest := [.int r36]) ⟨hx, hb, hml, hown, hts⟩ (mX8_parson l D ac (hB s.heap.size) shAll f (xs (y3 + 1).toNatClampNeg) (xs (y3 + 2).toNatClampNeg) r39 f40 mo_ok ef40) (cwV 2 hts gl_X8_parson rfl rfl rfl (by decide +kernel) ⟨Nat.le_of_ble_eq_true rfl, Nat.le_of_ble_eq_true rfl⟩) (h_preV hK hw mo_ok.1 rfl _) rfl rfl hl.1 rfl (lv_room (Nat.le_of_ble_eq_true rfl)) dL_law_284 ⟨Nat.le_of_ble_eq_true rfl, Nat.le_of_ble_eq_true rfl⟩) (fun H locs hw => ?_)
                    refine lv_icmp_eq (tgt := 977) hx hb dL_law_287 (by decide) (fun hc41 => ?_) (fun hc41 => ?_)
                    · have h := it hc41 h
                      refine lv_iinc (v := (y3 + 5)) (lv' := [(3, .int (y3 + 5)), (0, .ref b), (1, .ref (hB s.heap.size 0)), (2, .ref (hB s.heap.size 146))]) hx hb dL_law_977 hl (k := 3) rfl rfl (by decide) rfl (fun ls hl => ?_)
                      refine lv_goto (tgt := 18) hx hb dL_law_980 (by decide) ?_
                      exact ih f40 (y3 + 5) _ _ _ hw (lv_sub hl [1, 2, 3, 0] rfl) h
                    · have h := ie hc41 h
                      refine lv_iconst (v := 0) hx hb dL_law_290 (by decide) ?_
                      exact absurd (Option.some.inj h) (by decide)
                  · have h := ie hc224 h
                    by_cases hc225 : ((xs y3.toNatClampNeg) &&& 31) = 6
                    · have h := it hc225 h
                      refine lv_tableIn (off := 260) (tgt := 292) hx hb dL_law_32 (by rw [hc225]; decide) (by rw [hc225]; decide) (by rw [hc225]; rfl) (by decide) ?_
                      refine lv_aload_n hx hb dL_law_292 rfl (lv_at hl 1 rfl) ?_
                      refine lv_aload_n hx hb dL_law_293 rfl (lv_at hl 0 rfl) ?_
                      refine lv_iload_n hx hb dL_law_294 rfl (lv_at hl 3 rfl) ?_
                      refine lv_iconst (v := 1) hx hb dL_law_295 (by decide) ?_
                      refine lv_iadd hx hb dL_law_296 ?_
                      obtain ⟨hi42, h⟩ := gd_s h
                      refine va_sld hx hb hX hbl hbA hw.2.2 hi42 dL_law_297 ?_
                      refine lv_aload_n hx hb dL_law_298 rfl (lv_at hl 0 rfl) ?_
                      refine lv_iload_n hx hb dL_law_299 rfl (lv_at hl 3 rfl) ?_
                      refine lv_iconst (v := 2) hx hb dL_law_300 (by decide) ?_
                      refine lv_iadd hx hb dL_law_301 ?_
                      obtain ⟨hi43, h⟩ := gd_s h
                      refine va_sld hx hb hX hbl hbA hw.2.2 hi43 dL_law_302 ?_
                      refine lv_aload_n hx hb dL_law_303 rfl (lv_at hl 0 rfl) ?_
                      refine lv_iload_n hx hb dL_law_304 rfl (lv_at hl 3 rfl) ?_
                      refine lv_iconst (v := 3) hx hb dL_law_305 (by decide) ?_
                      refine lv_iadd hx hb dL_law_306 ?_
                      obtain ⟨hi44, h⟩ := gd_s h
                      refine va_sld hx hb hX hbl hbA hw.2.2 hi44 dL_law_307 ?_
                      obtain ⟨r45, f46, ef46, h⟩ := b2_s h
                      refine h_callQ hw (va_runV (As := [.int (xs (y3 + 1).toNatClampNeg), .int (xs (y3 + 2).toNatClampNeg), .int (xs (y3 + 3).toNatClampNeg)]) (rest := []) ⟨hx, hb, hml, hown, hts⟩ (mX7_line l D ac (hB s.heap.size) shAll f (xs (y3 + 1).toNatClampNeg) (xs (y3 + 2).toNatClampNeg) (xs (y3 + 3).toNatClampNeg) r45 f46 pw2_ok ef46) (cwV 3 hts gl_X7_line rfl rfl rfl (by decide +kernel) ⟨Nat.le_of_ble_eq_true rfl, Nat.le_of_ble_eq_true rfl⟩) (h_preV hK hw pw2_ok.1 rfl _) rfl rfl hl.1 rfl (lv_room (Nat.le_of_ble_eq_true rfl)) dL_law_308 ⟨Nat.le_of_ble_eq_true rfl, Nat.le_of_ble_eq_true rfl⟩) (fun H locs hw => ?_)
                      refine lv_aload_n hx hb dL_law_311 rfl (lv_at hl 2 rfl) ?_
                      refine lv_aload_n hx hb dL_law_312 rfl (lv_at hl 0 rfl) ?_
                      refine lv_iload_n hx hb dL_law_313 rfl (lv_at hl 3 rfl) ?_
                      refine lv_iconst (v := 1) hx hb dL_law_314 (by decide) ?_
                      refine lv_iadd hx hb dL_law_315 ?_
                      obtain ⟨hi47, h⟩ := gd_s h
                      refine va_sld hx hb hX hbl hbA hw.2.2 hi47 dL_law_316 ?_
                      refine lv_aload_n hx hb dL_law_317 rfl (lv_at hl 0 rfl) ?_
                      refine lv_iload_n hx hb dL_law_318 rfl (lv_at hl 3 rfl) ?_
                      refine lv_iconst (v := 2) hx hb dL_law_319 (by decide) ?_
                      refine lv_iadd hx hb dL_law_320 ?_
                      obtain ⟨hi48, h⟩ := gd_s h
                      refine va_sld hx hb hX hbl hbA hw.2.2 hi48 dL_law_321 ?_
                      refine lv_aload_n hx hb dL_law_322 rfl (lv_at hl 0 rfl) ?_
                      refine lv_iload_n hx hb dL_law_323 rfl (lv_at hl 3 rfl) ?_
                      refine lv_iconst (v := 3) hx hb dL_law_324 (by decide) ?_
                      refine lv_iadd hx hb dL_law_325 ?_
                      obtain ⟨hi49, h⟩ := gd_s h
                      refine va_sld hx hb hX hbl hbA hw.2.2 hi49 dL_law_326 ?_
                      obtain ⟨r50, f51, ef51, h⟩ := b2_s h
                      refine h_callQ hw (va_runV (As := [.int (xs (y3 + 1).toNatClampNeg), .int (xs (y3 + 2).toNatClampNeg), .int (xs (y3 + 3).toNatClampNeg)]) (rest := [.int r45]) ⟨hx, hb, hml, hown, hts⟩ (mX8_line l D ac (hB s.heap.size) shAll f46 (xs (y3 + 1).toNatClampNeg) (xs (y3 + 2).toNatClampNeg) (xs (y3 + 3).toNatClampNeg) r50 f51 mo_ok ef51) (cwV 3 hts gl_X8_line rfl rfl rfl (by decide +kernel) ⟨Nat.le_of_ble_eq_true rfl, Nat.le_of_ble_eq_true rfl⟩) (h_preV hK hw mo_ok.1 rfl _) rfl rfl hl.1 rfl (lv_room (Nat.le_of_ble_eq_true rfl)) dL_law_327 ⟨Nat.le_of_ble_eq_true rfl, Nat.le_of_ble_eq_true rfl⟩) (fun H locs hw => ?_)
                      refine lv_icmp_eq (tgt := 977) hx hb dL_law_330 (by decide) (fun hc52 => ?_) (fun hc52 => ?_)
                      · have h := it hc52 h
                        refine lv_iinc (v := (y3 + 5)) (lv' := [(3, .int (y3 + 5)), (0, .ref b), (1, .ref (hB s.heap.size 0)), (2, .ref (hB s.heap.size 146))]) hx hb dL_law_977 hl (k := 3) rfl rfl (by decide) rfl (fun ls hl => ?_)
                        refine lv_goto (tgt := 18) hx hb dL_law_980 (by decide) ?_
                        exact ih f51 (y3 + 5) _ _ _ hw (lv_sub hl [1, 2, 3, 0] rfl) h
                      · have h := ie hc52 h
                        refine lv_iconst (v := 0) hx hb dL_law_333 (by decide) ?_
                        exact absurd (Option.some.inj h) (by decide)
                    · have h := ie hc225 h
                      by_cases hc226 : ((xs y3.toNatClampNeg) &&& 31) = 7
                      · have h := it hc226 h
                        refine lv_tableIn (off := 303) (tgt := 335) hx hb dL_law_32 (by rw [hc226]; decide) (by rw [hc226]; decide) (by rw [hc226]; rfl) (by decide) ?_
                        refine lv_aload_n hx hb dL_law_335 rfl (lv_at hl 1 rfl) ?_
                        refine lv_aload_n hx hb dL_law_336 rfl (lv_at hl 0 rfl) ?_
                        refine lv_iload_n hx hb dL_law_337 rfl (lv_at hl 3 rfl) ?_
                        refine lv_iconst (v := 1) hx hb dL_law_338 (by decide) ?_
                        refine lv_iadd hx hb dL_law_339 ?_
                        obtain ⟨hi53, h⟩ := gd_s h
                        refine va_sld hx hb hX hbl hbA hw.2.2 hi53 dL_law_340 ?_
                        refine lv_aload_n hx hb dL_law_341 rfl (lv_at hl 0 rfl) ?_
                        refine lv_iload_n hx hb dL_law_342 rfl (lv_at hl 3 rfl) ?_
                        refine lv_iconst (v := 2) hx hb dL_law_343 (by decide) ?_
                        refine lv_iadd hx hb dL_law_344 ?_
                        obtain ⟨hi54, h⟩ := gd_s h
                        refine va_sld hx hb hX hbl hbA hw.2.2 hi54 dL_law_345 ?_
                        refine lv_aload_n hx hb dL_law_346 rfl (lv_at hl 0 rfl) ?_
                        refine lv_iload_n hx hb dL_law_347 rfl (lv_at hl 3 rfl) ?_
                        refine lv_iconst (v := 3) hx hb dL_law_348 (by decide) ?_
                        refine lv_iadd hx hb dL_law_349 ?_
                        obtain ⟨hi55, h⟩ := gd_s h
                        refine va_sld hx hb hX hbl hbA hw.2.2 hi55 dL_law_350 ?_
                        obtain ⟨r56, f57, ef57, h⟩ := b2_s h
                        refine h_callQ hw (va_runV (As := [.int (xs (y3 + 1).toNatClampNeg), .int (xs (y3 + 2).toNatClampNeg), .int (xs (y3 + 3).toNatClampNeg)]) (rest := []) ⟨hx, hb, hml, hown, hts⟩ (mX7_wed l D ac (hB s.heap.size) shAll f (xs (y3 + 1).toNatClampNeg) (xs (y3 + 2).toNatClampNeg) (xs (y3 + 3).toNatClampNeg) r56 f57 pw2_ok ef57) (cwV 3 hts gl_X7_wed rfl rfl rfl (by decide +kernel) ⟨Nat.le_of_ble_eq_true rfl, Nat.le_of_ble_eq_true rfl⟩) (h_preV hK hw pw2_ok.1 rfl _) rfl rfl hl.1 rfl (lv_room (Nat.le_of_ble_eq_true rfl)) dL_law_351 ⟨Nat.le_of_ble_eq_true rfl, Nat.le_of_ble_eq_true rfl⟩) (fun H locs hw => ?_)
                        refine lv_aload_n hx hb dL_law_354 rfl (lv_at hl 2 rfl) ?_
                        refine lv_aload_n hx hb dL_law_355 rfl (lv_at hl 0 rfl) ?_
                        refine lv_iload_n hx hb dL_law_356 rfl (lv_at hl 3 rfl) ?_
                        refine lv_iconst (v := 1) hx hb dL_law_357 (by decide) ?_
                        refine lv_iadd hx hb dL_law_358 ?_
                        obtain ⟨hi58, h⟩ := gd_s h
                        refine va_sld hx hb hX hbl hbA hw.2.2 hi58 dL_law_359 ?_
                        refine lv_aload_n hx hb dL_law_360 rfl (lv_at hl 0 rfl) ?_
                        refine lv_iload_n hx hb dL_law_361 rfl (lv_at hl 3 rfl) ?_
                        refine lv_iconst (v := 2) hx hb dL_law_362 (by decide) ?_
                        refine lv_iadd hx hb dL_law_363 ?_
                        obtain ⟨hi59, h⟩ := gd_s h
                        refine va_sld hx hb hX hbl hbA hw.2.2 hi59 dL_law_364 ?_
                        refine lv_aload_n hx hb dL_law_365 rfl (lv_at hl 0 rfl) ?_
                        refine lv_iload_n hx hb dL_law_366 rfl (lv_at hl 3 rfl) ?_
                        refine lv_iconst (v := 3) hx hb dL_law_367 (by decide) ?_
                        refine lv_iadd hx hb dL_law_368 ?_
                        obtain ⟨hi60, h⟩ := gd_s h
                        refine va_sld hx hb hX hbl hbA hw.2.2 hi60 dL_law_369 ?_
                        obtain ⟨r61, f62, ef62, h⟩ := b2_s h
                        refine h_callQ hw (va_runV (As := [.int (xs (y3 + 1).toNatClampNeg), .int (xs (y3 + 2).toNatClampNeg), .int (xs (y3 + 3).toNatClampNeg)]) (rest := [.int r56]) ⟨hx, hb, hml, hown, hts⟩ (mX8_wed l D ac (hB s.heap.size) shAll f57 (xs (y3 + 1).toNatClampNeg) (xs (y3 + 2).toNatClampNeg) (xs (y3 + 3).toNatClampNeg) r61 f62 mo_ok ef62) (cwV 3 hts gl_X8_wed rfl rfl rfl (by decide +kernel) ⟨Nat.le_of_ble_eq_true rfl, Nat.le_of_ble_eq_true rfl⟩) (h_preV hK hw mo_ok.1 rfl _) rfl rfl hl.1 rfl (lv_room (Nat.le_of_ble_eq_true rfl)) dL_law_370 ⟨Nat.le_of_ble_eq_true rfl, Nat.le_of_ble_eq_true rfl⟩) (fun H locs hw => ?_)
                        refine lv_icmp_eq (tgt := 977) hx hb dL_law_373 (by decide) (fun hc63 => ?_) (fun hc63 => ?_)
                        · have h := it hc63 h
                          refine lv_iinc (v := (y3 + 5)) (lv' := [(3, .int (y3 + 5)), (0, .ref b), (1, .ref (hB s.heap.size 0)), (2, .ref (hB s.heap.size 146))]) hx hb dL_law_977 hl (k := 3) rfl rfl (by decide) rfl (fun ls hl => ?_)
                          refine lv_goto (tgt := 18) hx hb dL_law_980 (by decide) ?_
                          exact ih f62 (y3 + 5) _ _ _ hw (lv_sub hl [1, 2, 3, 0] rfl) h
                        · have h := ie hc63 h
                          refine lv_iconst (v := 0) hx hb dL_law_376 (by decide) ?_
                          exact absurd (Option.some.inj h) (by decide)
                      · have h := ie hc226 h
                        by_cases hc227 : ((xs y3.toNatClampNeg) &&& 31) = 8
                        · have h := it hc227 h
                          refine lv_tableIn (off := 346) (tgt := 378) hx hb dL_law_32 (by rw [hc227]; decide) (by rw [hc227]; decide) (by rw [hc227]; rfl) (by decide) ?_
                          refine lv_aload_n hx hb dL_law_378 rfl (lv_at hl 1 rfl) ?_
                          refine lv_aload_n hx hb dL_law_379 rfl (lv_at hl 0 rfl) ?_
                          refine lv_iload_n hx hb dL_law_380 rfl (lv_at hl 3 rfl) ?_
                          refine lv_iconst (v := 1) hx hb dL_law_381 (by decide) ?_
                          refine lv_iadd hx hb dL_law_382 ?_
                          obtain ⟨hi64, h⟩ := gd_s h
                          refine va_sld hx hb hX hbl hbA hw.2.2 hi64 dL_law_383 ?_
                          obtain ⟨r65, f66, ef66, h⟩ := b2_s h
                          refine h_callQ hw (va_runV (As := [.int (xs (y3 + 1).toNatClampNeg)]) (rest := []) ⟨hx, hb, hml, hown, hts⟩ (mX7_leave l D ac (hB s.heap.size) shAll f (xs (y3 + 1).toNatClampNeg) r65 f66 pw2_ok ef66) (cwV 1 hts gl_X7_leave rfl rfl rfl (by decide +kernel) ⟨Nat.le_of_ble_eq_true rfl, Nat.le_of_ble_eq_true rfl⟩) (h_preV hK hw pw2_ok.1 rfl _) rfl rfl hl.1 rfl (lv_room (Nat.le_of_ble_eq_true rfl)) dL_law_384 ⟨Nat.le_of_ble_eq_true rfl, Nat.le_of_ble_eq_true rfl⟩) (fun H locs hw => ?_)
                          refine lv_aload_n hx hb dL_law_387 rfl (lv_at hl 2 rfl) ?_
                          refine lv_aload_n hx hb dL_law_388 rfl (lv_at hl 0 rfl) ?_
                          refine lv_iload_n hx hb dL_law_389 rfl (lv_at hl 3 rfl) ?_
                          refine lv_iconst (v := 1) hx hb dL_law_390 (by decide) ?_
                          refine lv_iadd hx hb dL_law_391 ?_
                          obtain ⟨hi67, h⟩ := gd_s h
                          refine va_sld hx hb hX hbl hbA hw.2.2 hi67 dL_law_392 ?_
                          obtain ⟨r68, f69, ef69, h⟩ := b2_s h
                          refine h_callQ hw (va_runV (As := [.int (xs (y3 + 1).toNatClampNeg)]) (rest := [.int r65]) ⟨hx, hb, hml, hown, hts⟩ (mX8_leave l D ac (hB s.heap.size) shAll f66 (xs (y3 + 1).toNatClampNeg) r68 f69 mo_ok ef69) (cwV 1 hts gl_X8_leave rfl rfl rfl (by decide +kernel) ⟨Nat.le_of_ble_eq_true rfl, Nat.le_of_ble_eq_true rfl⟩) (h_preV hK hw mo_ok.1 rfl _) rfl rfl hl.1 rfl (lv_room (Nat.le_of_ble_eq_true rfl)) dL_law_393 ⟨Nat.le_of_ble_eq_true rfl, Nat.le_of_ble_eq_true rfl⟩) (fun H locs hw => ?_)
                          refine lv_icmp_eq (tgt := 977) hx hb dL_law_396 (by decide) (fun hc70 => ?_) (fun hc70 => ?_)
                          · have h := it hc70 h
                            refine lv_iinc (v := (y3 + 5)) (lv' := [(3, .int (y3 + 5)), (0, .ref b), (1, .ref (hB s.heap.size 0)), (2, .ref (hB s.heap.size 146))]) hx hb dL_law_977 hl (k := 3) rfl rfl (by decide) rfl (fun ls hl => ?_)
                            refine lv_goto (tgt := 18) hx hb dL_law_980 (by decide) ?_
                            exact ih f69 (y3 + 5) _ _ _ hw (lv_sub hl [1, 2, 3, 0] rfl) h
                          · have h := ie hc70 h
                            refine lv_iconst (v := 0) hx hb dL_law_399 (by decide) ?_
                            exact absurd (Option.some.inj h) (by decide)
                        · have h := ie hc227 h
                          by_cases hc228 : ((xs y3.toNatClampNeg) &&& 31) = 9
                          · have h := it hc228 h
                            refine lv_tableIn (off := 369) (tgt := 401) hx hb dL_law_32 (by rw [hc228]; decide) (by rw [hc228]; decide) (by rw [hc228]; rfl) (by decide) ?_
                            refine lv_aload_n hx hb dL_law_401 rfl (lv_at hl 1 rfl) ?_
                            refine lv_aload_n hx hb dL_law_402 rfl (lv_at hl 0 rfl) ?_
                            refine lv_iload_n hx hb dL_law_403 rfl (lv_at hl 3 rfl) ?_
                            refine lv_iconst (v := 1) hx hb dL_law_404 (by decide) ?_
                            refine lv_iadd hx hb dL_law_405 ?_
                            obtain ⟨hi71, h⟩ := gd_s h
                            refine va_sld hx hb hX hbl hbA hw.2.2 hi71 dL_law_406 ?_
                            refine lv_aload_n hx hb dL_law_407 rfl (lv_at hl 0 rfl) ?_
                            refine lv_iload_n hx hb dL_law_408 rfl (lv_at hl 3 rfl) ?_
                            refine lv_iconst (v := 2) hx hb dL_law_409 (by decide) ?_
                            refine lv_iadd hx hb dL_law_410 ?_
                            obtain ⟨hi72, h⟩ := gd_s h
                            refine va_sld hx hb hX hbl hbA hw.2.2 hi72 dL_law_411 ?_
                            refine lv_aload_n hx hb dL_law_412 rfl (lv_at hl 0 rfl) ?_
                            refine lv_iload_n hx hb dL_law_413 rfl (lv_at hl 3 rfl) ?_
                            refine lv_iconst (v := 3) hx hb dL_law_414 (by decide) ?_
                            refine lv_iadd hx hb dL_law_415 ?_
                            obtain ⟨hi73, h⟩ := gd_s h
                            refine va_sld hx hb hX hbl hbA hw.2.2 hi73 dL_law_416 ?_
                            refine lv_aload_n hx hb dL_law_417 rfl (lv_at hl 0 rfl) ?_
                            refine lv_iload_n hx hb dL_law_418 rfl (lv_at hl 3 rfl) ?_
                            refine lv_iconst (v := 4) hx hb dL_law_419 (by decide) ?_
                            refine lv_iadd hx hb dL_law_420 ?_
                            obtain ⟨hi74, h⟩ := gd_s h
                            refine va_sld hx hb hX hbl hbA hw.2.2 hi74 dL_law_421 ?_
                            obtain ⟨r75, f76, ef76, h⟩ := b2_s h
                            refine h_callQ hw (va_runV (As := [.int (xs (y3 + 1).toNatClampNeg), .int (xs (y3 + 2).toNatClampNeg), .int (xs (y3 + 3).toNatClampNeg), .int (xs (y3 + 4).toNatClampNeg)]) (rest := []) ⟨hx, hb, hml, hown, hts⟩ (mX7_fill l D ac (hB s.heap.size) shAll f (xs (y3 + 1).toNatClampNeg) (xs (y3 + 2).toNatClampNeg) (xs (y3 + 3).toNatClampNeg) (xs (y3 + 4).toNatClampNeg) r75 f76 pw2_ok ef76) (cwV 4 hts gl_X7_fill rfl rfl rfl (by decide +kernel) ⟨Nat.le_of_ble_eq_true rfl, Nat.le_of_ble_eq_true rfl⟩) (h_preV hK hw pw2_ok.1 rfl _) rfl rfl hl.1 rfl (lv_room (Nat.le_of_ble_eq_true rfl)) dL_law_422 ⟨Nat.le_of_ble_eq_true rfl, Nat.le_of_ble_eq_true rfl⟩) (fun H locs hw => ?_)
                            refine lv_aload_n hx hb dL_law_425 rfl (lv_at hl 2 rfl) ?_
                            refine lv_aload_n hx hb dL_law_426 rfl (lv_at hl 0 rfl) ?_
                            refine lv_iload_n hx hb dL_law_427 rfl (lv_at hl 3 rfl) ?_
                            refine lv_iconst (v := 1) hx hb dL_law_428 (by decide) ?_
                            refine lv_iadd hx hb dL_law_429 ?_
                            obtain ⟨hi77, h⟩ := gd_s h
                            refine va_sld hx hb hX hbl hbA hw.2.2 hi77 dL_law_430 ?_
                            refine lv_aload_n hx hb dL_law_431 rfl (lv_at hl 0 rfl) ?_
                            refine lv_iload_n hx hb dL_law_432 rfl (lv_at hl 3 rfl) ?_
                            refine lv_iconst (v := 2) hx hb dL_law_433 (by decide) ?_
                            refine lv_iadd hx hb dL_law_434 ?_
                            obtain ⟨hi78, h⟩ := gd_s h
                            refine va_sld hx hb hX hbl hbA hw.2.2 hi78 dL_law_435 ?_
                            refine lv_aload_n hx hb dL_law_436 rfl (lv_at hl 0 rfl) ?_
                            refine lv_iload_n hx hb dL_law_437 rfl (lv_at hl 3 rfl) ?_
                            refine lv_iconst (v := 3) hx hb dL_law_438 (by decide) ?_
                            refine lv_iadd hx hb dL_law_439 ?_
                            obtain ⟨hi79, h⟩ := gd_s h
                            refine va_sld hx hb hX hbl hbA hw.2.2 hi79 dL_law_440 ?_
                            refine lv_aload_n hx hb dL_law_441 rfl (lv_at hl 0 rfl) ?_
                            refine lv_iload_n hx hb dL_law_442 rfl (lv_at hl 3 rfl) ?_
                            refine lv_iconst (v := 4) hx hb dL_law_443 (by decide) ?_
                            refine lv_iadd hx hb dL_law_444 ?_
                            obtain ⟨hi80, h⟩ := gd_s h
                            refine va_sld hx hb hX hbl hbA hw.2.2 hi80 dL_law_445 ?_
                            obtain ⟨r81, f82, ef82, h⟩ := b2_s h
                            refine h_callQ hw (va_runV (As := [.int (xs (y3 + 1).toNatClampNeg), .int (xs (y3 + 2).toNatClampNeg), .int (xs (y3 + 3).toNatClampNeg), .int (xs (y3 + 4).toNatClampNeg)]) (rest := [.int r75]) ⟨hx, hb, hml, hown, hts⟩ (mX8_fill l D ac (hB s.heap.size) shAll f76 (xs (y3 + 1).toNatClampNeg) (xs (y3 + 2).toNatClampNeg) (xs (y3 + 3).toNatClampNeg) (xs (y3 + 4).toNatClampNeg) r81 f82 mo_ok ef82) (cwV 4 hts gl_X8_fill rfl rfl rfl (by decide +kernel) ⟨Nat.le_of_ble_eq_true rfl, Nat.le_of_ble_eq_true rfl⟩) (h_preV hK hw mo_ok.1 rfl _) rfl rfl hl.1 rfl (lv_room (Nat.le_of_ble_eq_true rfl)) dL_law_446 ⟨Nat.le_of_ble_eq_true rfl, Nat.le_of_ble_eq_true rfl⟩) (fun H locs hw => ?_)
                            refine lv_icmp_eq (tgt := 977) hx hb dL_law_449 (by decide) (fun hc83 => ?_) (fun hc83 => ?_)
                            · have h := it hc83 h
                              refine lv_iinc (v := (y3 + 5)) (lv' := [(3, .int (y3 + 5)), (0, .ref b), (1, .ref (hB s.heap.size 0)), (2, .ref (hB s.heap.size 146))]) hx hb dL_law_977 hl (k := 3) rfl rfl (by decide) rfl (fun ls hl => ?_)
                              refine lv_goto (tgt := 18) hx hb dL_law_980 (by decide) ?_
                              exact ih f82 (y3 + 5) _ _ _ hw (lv_sub hl [1, 2, 3, 0] rfl) h
                            · have h := ie hc83 h
                              refine lv_iconst (v := 0) hx hb dL_law_452 (by decide) ?_
                              exact absurd (Option.some.inj h) (by decide)
                          · have h := ie hc228 h
                            by_cases hc229 : ((xs y3.toNatClampNeg) &&& 31) = 10
                            · have h := it hc229 h
                              refine lv_tableIn (off := 422) (tgt := 454) hx hb dL_law_32 (by rw [hc229]; decide) (by rw [hc229]; decide) (by rw [hc229]; rfl) (by decide) ?_
                              refine lv_aload_n hx hb dL_law_454 rfl (lv_at hl 1 rfl) ?_
                              refine lv_aload_n hx hb dL_law_455 rfl (lv_at hl 0 rfl) ?_
                              refine lv_iload_n hx hb dL_law_456 rfl (lv_at hl 3 rfl) ?_
                              refine lv_iconst (v := 1) hx hb dL_law_457 (by decide) ?_
                              refine lv_iadd hx hb dL_law_458 ?_
                              obtain ⟨hi84, h⟩ := gd_s h
                              refine va_sld hx hb hX hbl hbA hw.2.2 hi84 dL_law_459 ?_
                              refine lv_aload_n hx hb dL_law_460 rfl (lv_at hl 0 rfl) ?_
                              refine lv_iload_n hx hb dL_law_461 rfl (lv_at hl 3 rfl) ?_
                              refine lv_iconst (v := 2) hx hb dL_law_462 (by decide) ?_
                              refine lv_iadd hx hb dL_law_463 ?_
                              obtain ⟨hi85, h⟩ := gd_s h
                              refine va_sld hx hb hX hbl hbA hw.2.2 hi85 dL_law_464 ?_
                              obtain ⟨r86, f87, ef87, h⟩ := b2_s h
                              refine h_callQ hw (va_runV (As := [.int (xs (y3 + 1).toNatClampNeg), .int (xs (y3 + 2).toNatClampNeg)]) (rest := []) ⟨hx, hb, hml, hown, hts⟩ (mX7_strike l D ac (hB s.heap.size) shAll f (xs (y3 + 1).toNatClampNeg) (xs (y3 + 2).toNatClampNeg) r86 f87 pw2_ok ef87) (cwV 2 hts gl_X7_strike rfl rfl rfl (by decide +kernel) ⟨Nat.le_of_ble_eq_true rfl, Nat.le_of_ble_eq_true rfl⟩) (h_preV hK hw pw2_ok.1 rfl _) rfl rfl hl.1 rfl (lv_room (Nat.le_of_ble_eq_true rfl)) dL_law_465 ⟨Nat.le_of_ble_eq_true rfl, Nat.le_of_ble_eq_true rfl⟩) (fun H locs hw => ?_)
                              refine lv_aload_n hx hb dL_law_468 rfl (lv_at hl 2 rfl) ?_
                              refine lv_aload_n hx hb dL_law_469 rfl (lv_at hl 0 rfl) ?_
                              refine lv_iload_n hx hb dL_law_470 rfl (lv_at hl 3 rfl) ?_
                              refine lv_iconst (v := 1) hx hb dL_law_471 (by decide) ?_
                              refine lv_iadd hx hb dL_law_472 ?_
                              obtain ⟨hi88, h⟩ := gd_s h
                              refine va_sld hx hb hX hbl hbA hw.2.2 hi88 dL_law_473 ?_
                              refine lv_aload_n hx hb dL_law_474 rfl (lv_at hl 0 rfl) ?_
                              refine lv_iload_n hx hb dL_law_475 rfl (lv_at hl 3 rfl) ?_
                              refine lv_iconst (v := 2) hx hb dL_law_476 (by decide) ?_
                              refine lv_iadd hx hb dL_law_477 ?_
                              obtain ⟨hi89, h⟩ := gd_s h
                              refine va_sld hx hb hX hbl hbA hw.2.2 hi89 dL_law_478 ?_
                              obtain ⟨r90, f91, ef91, h⟩ := b2_s h
                              refine h_callQ hw (va_runV (As := [.int (xs (y3 + 1).toNatClampNeg), .int (xs (y3 + 2).toNatClampNeg)]) (rest := [.int r86]) ⟨hx, hb, hml, hown, hts⟩ (mX8_strike l D ac (hB s.heap.size) shAll f87 (xs (y3 + 1).toNatClampNeg) (xs (y3 + 2).toNatClampNeg) r90 f91 mo_ok ef91) (cwV 2 hts gl_X8_strike rfl rfl rfl (by decide +kernel) ⟨Nat.le_of_ble_eq_true rfl, Nat.le_of_ble_eq_true rfl⟩) (h_preV hK hw mo_ok.1 rfl _) rfl rfl hl.1 rfl (lv_room (Nat.le_of_ble_eq_true rfl)) dL_law_479 ⟨Nat.le_of_ble_eq_true rfl, Nat.le_of_ble_eq_true rfl⟩) (fun H locs hw => ?_)
                              refine lv_icmp_eq (tgt := 977) hx hb dL_law_482 (by decide) (fun hc92 => ?_) (fun hc92 => ?_)
                              · have h := it hc92 h
                                refine lv_iinc (v := (y3 + 5)) (lv' := [(3, .int (y3 + 5)), (0, .ref b), (1, .ref (hB s.heap.size 0)), (2, .ref (hB s.heap.size 146))]) hx hb dL_law_977 hl (k := 3) rfl rfl (by decide) rfl (fun ls hl => ?_)
                                refine lv_goto (tgt := 18) hx hb dL_law_980 (by decide) ?_
                                exact ih f91 (y3 + 5) _ _ _ hw (lv_sub hl [1, 2, 3, 0] rfl) h
                              · have h := ie hc92 h
                                refine lv_iconst (v := 0) hx hb dL_law_485 (by decide) ?_
                                exact absurd (Option.some.inj h) (by decide)
                            · have h := ie hc229 h
                              by_cases hc230 : ((xs y3.toNatClampNeg) &&& 31) = 11
                              · have h := it hc230 h
                                refine lv_tableIn (off := 455) (tgt := 487) hx hb dL_law_32 (by rw [hc230]; decide) (by rw [hc230]; decide) (by rw [hc230]; rfl) (by decide) ?_
                                refine lv_aload_n hx hb dL_law_487 rfl (lv_at hl 1 rfl) ?_
                                refine lv_aload_n hx hb dL_law_488 rfl (lv_at hl 0 rfl) ?_
                                refine lv_iload_n hx hb dL_law_489 rfl (lv_at hl 3 rfl) ?_
                                refine lv_iconst (v := 1) hx hb dL_law_490 (by decide) ?_
                                refine lv_iadd hx hb dL_law_491 ?_
                                obtain ⟨hi93, h⟩ := gd_s h
                                refine va_sld hx hb hX hbl hbA hw.2.2 hi93 dL_law_492 ?_
                                obtain ⟨r94, f95, ef95, h⟩ := b2_s h
                                refine h_callQ hw (va_runV (As := [.int (xs (y3 + 1).toNatClampNeg)]) (rest := []) ⟨hx, hb, hml, hown, hts⟩ (mX7_pass l D ac (hB s.heap.size) shAll f (xs (y3 + 1).toNatClampNeg) r94 f95 pw2_ok ef95) (cwV 1 hts gl_X7_pass rfl rfl rfl (by decide +kernel) ⟨Nat.le_of_ble_eq_true rfl, Nat.le_of_ble_eq_true rfl⟩) (h_preV hK hw pw2_ok.1 rfl _) rfl rfl hl.1 rfl (lv_room (Nat.le_of_ble_eq_true rfl)) dL_law_493 ⟨Nat.le_of_ble_eq_true rfl, Nat.le_of_ble_eq_true rfl⟩) (fun H locs hw => ?_)
                                refine lv_aload_n hx hb dL_law_496 rfl (lv_at hl 2 rfl) ?_
                                refine lv_aload_n hx hb dL_law_497 rfl (lv_at hl 0 rfl) ?_
                                refine lv_iload_n hx hb dL_law_498 rfl (lv_at hl 3 rfl) ?_
                                refine lv_iconst (v := 1) hx hb dL_law_499 (by decide) ?_
                                refine lv_iadd hx hb dL_law_500 ?_
                                obtain ⟨hi96, h⟩ := gd_s h
                                refine va_sld hx hb hX hbl hbA hw.2.2 hi96 dL_law_501 ?_
                                obtain ⟨r97, f98, ef98, h⟩ := b2_s h
                                refine h_callQ hw (va_runV (As := [.int (xs (y3 + 1).toNatClampNeg)]) (rest := [.int r94]) ⟨hx, hb, hml, hown, hts⟩ (mX8_pass l D ac (hB s.heap.size) shAll f95 (xs (y3 + 1).toNatClampNeg) r97 f98 mo_ok ef98) (cwV 1 hts gl_X8_pass rfl rfl rfl (by decide +kernel) ⟨Nat.le_of_ble_eq_true rfl, Nat.le_of_ble_eq_true rfl⟩) (h_preV hK hw mo_ok.1 rfl _) rfl rfl hl.1 rfl (lv_room (Nat.le_of_ble_eq_true rfl)) dL_law_502 ⟨Nat.le_of_ble_eq_true rfl, Nat.le_of_ble_eq_true rfl⟩) (fun H locs hw => ?_)
                                refine lv_icmp_eq (tgt := 977) hx hb dL_law_505 (by decide) (fun hc99 => ?_) (fun hc99 => ?_)
                                · have h := it hc99 h
                                  refine lv_iinc (v := (y3 + 5)) (lv' := [(3, .int (y3 + 5)), (0, .ref b), (1, .ref (hB s.heap.size 0)), (2, .ref (hB s.heap.size 146))]) hx hb dL_law_977 hl (k := 3) rfl rfl (by decide) rfl (fun ls hl => ?_)
                                  refine lv_goto (tgt := 18) hx hb dL_law_980 (by decide) ?_
                                  exact ih f98 (y3 + 5) _ _ _ hw (lv_sub hl [1, 2, 3, 0] rfl) h
                                · have h := ie hc99 h
                                  refine lv_iconst (v := 0) hx hb dL_law_508 (by decide) ?_
                                  exact absurd (Option.some.inj h) (by decide)
                              · have h := ie hc230 h
                                by_cases hc231 : ((xs y3.toNatClampNeg) &&& 31) = 12
                                · have h := it hc231 h
                                  refine lv_tableIn (off := 478) (tgt := 510) hx hb dL_law_32 (by rw [hc231]; decide) (by rw [hc231]; decide) (by rw [hc231]; rfl) (by decide) ?_
                                  refine lv_aload_n hx hb dL_law_510 rfl (lv_at hl 1 rfl) ?_
                                  obtain ⟨r100, f101, ef101, h⟩ := b2_s h
                                  refine h_callQ hw (va_runV (As := []) (rest := []) ⟨hx, hb, hml, hown, hts⟩ (mX7_undo l D ac (hB s.heap.size) shAll f r100 f101 pw2_ok ef101) (cwV 0 hts gl_X7_undo rfl rfl rfl (by decide +kernel) ⟨Nat.le_of_ble_eq_true rfl, Nat.le_of_ble_eq_true rfl⟩) (h_preV hK hw pw2_ok.1 rfl _) rfl rfl hl.1 rfl (lv_room (Nat.le_of_ble_eq_true rfl)) dL_law_511 ⟨Nat.le_of_ble_eq_true rfl, Nat.le_of_ble_eq_true rfl⟩) (fun H locs hw => ?_)
                                  refine lv_aload_n hx hb dL_law_514 rfl (lv_at hl 2 rfl) ?_
                                  obtain ⟨r102, f103, ef103, h⟩ := b2_s h
                                  refine h_callQ hw (va_runV (As := []) (rest := [.int r100]) ⟨hx, hb, hml, hown, hts⟩ (mX8_undo l D ac (hB s.heap.size) shAll f101 r102 f103 mo_ok ef103) (cwV 0 hts gl_X8_undo rfl rfl rfl (by decide +kernel) ⟨Nat.le_of_ble_eq_true rfl, Nat.le_of_ble_eq_true rfl⟩) (h_preV hK hw mo_ok.1 rfl _) rfl rfl hl.1 rfl (lv_room (Nat.le_of_ble_eq_true rfl)) dL_law_515 ⟨Nat.le_of_ble_eq_true rfl, Nat.le_of_ble_eq_true rfl⟩) (fun H locs hw => ?_)
                                  refine lv_icmp_eq (tgt := 977) hx hb dL_law_518 (by decide) (fun hc104 => ?_) (fun hc104 => ?_)
                                  · have h := it hc104 h
                                    refine lv_iinc (v := (y3 + 5)) (lv' := [(3, .int (y3 + 5)), (0, .ref b), (1, .ref (hB s.heap.size 0)), (2, .ref (hB s.heap.size 146))]) hx hb dL_law_977 hl (k := 3) rfl rfl (by decide) rfl (fun ls hl => ?_)
                                    refine lv_goto (tgt := 18) hx hb dL_law_980 (by decide) ?_
                                    exact ih f103 (y3 + 5) _ _ _ hw (lv_sub hl [1, 2, 3, 0] rfl) h
                                  · have h := ie hc104 h
                                    refine lv_iconst (v := 0) hx hb dL_law_521 (by decide) ?_
                                    exact absurd (Option.some.inj h) (by decide)
                                · have h := ie hc231 h
                                  by_cases hc232 : ((xs y3.toNatClampNeg) &&& 31) = 13
                                  · have h := it hc232 h
                                    refine lv_tableIn (off := 491) (tgt := 523) hx hb dL_law_32 (by rw [hc232]; decide) (by rw [hc232]; decide) (by rw [hc232]; rfl) (by decide) ?_
                                    refine lv_aload_n hx hb dL_law_523 rfl (lv_at hl 1 rfl) ?_
                                    refine lv_aload_n hx hb dL_law_524 rfl (lv_at hl 0 rfl) ?_
                                    refine lv_iload_n hx hb dL_law_525 rfl (lv_at hl 3 rfl) ?_
                                    refine lv_iconst (v := 1) hx hb dL_law_526 (by decide) ?_
                                    refine lv_iadd hx hb dL_law_527 ?_
                                    obtain ⟨hi105, h⟩ := gd_s h
                                    refine va_sld hx hb hX hbl hbA hw.2.2 hi105 dL_law_528 ?_
                                    refine lv_aload_n hx hb dL_law_529 rfl (lv_at hl 0 rfl) ?_
                                    refine lv_iload_n hx hb dL_law_530 rfl (lv_at hl 3 rfl) ?_
                                    refine lv_iconst (v := 2) hx hb dL_law_531 (by decide) ?_
                                    refine lv_iadd hx hb dL_law_532 ?_
                                    obtain ⟨hi106, h⟩ := gd_s h
                                    refine va_sld hx hb hX hbl hbA hw.2.2 hi106 dL_law_533 ?_
                                    obtain ⟨r107, f108, ef108, h⟩ := b2_s h
                                    refine h_callQ hw (va_runV (As := [.int (xs (y3 + 1).toNatClampNeg), .int (xs (y3 + 2).toNatClampNeg)]) (rest := []) ⟨hx, hb, hml, hown, hts⟩ (mX7_mate l D ac (hB s.heap.size) shAll f (xs (y3 + 1).toNatClampNeg) (xs (y3 + 2).toNatClampNeg) r107 f108 pw2_ok ef108) (cwV 2 hts gl_X7_mate rfl rfl rfl (by decide +kernel) ⟨Nat.le_of_ble_eq_true rfl, Nat.le_of_ble_eq_true rfl⟩) (h_preV hK hw pw2_ok.1 rfl _) rfl rfl hl.1 rfl (lv_room (Nat.le_of_ble_eq_true rfl)) dL_law_534 ⟨Nat.le_of_ble_eq_true rfl, Nat.le_of_ble_eq_true rfl⟩) (fun H locs hw => ?_)
                                    refine lv_aload_n hx hb dL_law_537 rfl (lv_at hl 2 rfl) ?_
                                    refine lv_aload_n hx hb dL_law_538 rfl (lv_at hl 0 rfl) ?_
                                    refine lv_iload_n hx hb dL_law_539 rfl (lv_at hl 3 rfl) ?_
                                    refine lv_iconst (v := 1) hx hb dL_law_540 (by decide) ?_
                                    refine lv_iadd hx hb dL_law_541 ?_
                                    obtain ⟨hi109, h⟩ := gd_s h
                                    refine va_sld hx hb hX hbl hbA hw.2.2 hi109 dL_law_542 ?_
                                    refine lv_aload_n hx hb dL_law_543 rfl (lv_at hl 0 rfl) ?_
                                    refine lv_iload_n hx hb dL_law_544 rfl (lv_at hl 3 rfl) ?_
                                    refine lv_iconst (v := 2) hx hb dL_law_545 (by decide) ?_
                                    refine lv_iadd hx hb dL_law_546 ?_
                                    obtain ⟨hi110, h⟩ := gd_s h
                                    refine va_sld hx hb hX hbl hbA hw.2.2 hi110 dL_law_547 ?_
                                    obtain ⟨r111, f112, ef112, h⟩ := b2_s h
                                    refine h_callQ hw (va_runV (As := [.int (xs (y3 + 1).toNatClampNeg), .int (xs (y3 + 2).toNatClampNeg)]) (rest := [.int r107]) ⟨hx, hb, hml, hown, hts⟩ (mX8_mate l D ac (hB s.heap.size) shAll f108 (xs (y3 + 1).toNatClampNeg) (xs (y3 + 2).toNatClampNeg) r111 f112 mo_ok ef112) (cwV 2 hts gl_X8_mate rfl rfl rfl (by decide +kernel) ⟨Nat.le_of_ble_eq_true rfl, Nat.le_of_ble_eq_true rfl⟩) (h_preV hK hw mo_ok.1 rfl _) rfl rfl hl.1 rfl (lv_room (Nat.le_of_ble_eq_true rfl)) dL_law_548 ⟨Nat.le_of_ble_eq_true rfl, Nat.le_of_ble_eq_true rfl⟩) (fun H locs hw => ?_)
                                    refine lv_icmp_eq (tgt := 977) hx hb dL_law_551 (by decide) (fun hc113 => ?_) (fun hc113 => ?_)
                                    · have h := it hc113 h
                                      refine lv_iinc (v := (y3 + 5)) (lv' := [(3, .int (y3 + 5)), (0, .ref b), (1, .ref (hB s.heap.size 0)), (2, .ref (hB s.heap.size 146))]) hx hb dL_law_977 hl (k := 3) rfl rfl (by decide) rfl (fun ls hl => ?_)
                                      refine lv_goto (tgt := 18) hx hb dL_law_980 (by decide) ?_
                                      exact ih f112 (y3 + 5) _ _ _ hw (lv_sub hl [1, 2, 3, 0] rfl) h
                                    · have h := ie hc113 h
                                      refine lv_iconst (v := 0) hx hb dL_law_554 (by decide) ?_
                                      exact absurd (Option.some.inj h) (by decide)
                                  · have h := ie hc232 h
                                    by_cases hc233 : ((xs y3.toNatClampNeg) &&& 31) = 14
                                    · have h := it hc233 h
                                      refine lv_tableIn (off := 524) (tgt := 556) hx hb dL_law_32 (by rw [hc233]; decide) (by rw [hc233]; decide) (by rw [hc233]; rfl) (by decide) ?_
                                      refine lv_aload_n hx hb dL_law_556 rfl (lv_at hl 1 rfl) ?_
                                      obtain ⟨r114, er114, h⟩ := b1_s h
                                      refine h_callR (va_runV (As := []) (rest := []) ⟨hx, hb, hml, hown, hts⟩ (mX7_twice l D ac (hB s.heap.size) shAll f r114 pw2_ok er114) (cwV 0 hts gl_X7_twice rfl rfl rfl (by decide +kernel) ⟨Nat.le_of_ble_eq_true rfl, Nat.le_of_ble_eq_true rfl⟩) (h_preV hK hw pw2_ok.1 rfl _) rfl rfl hl.1 rfl (lv_room (Nat.le_of_ble_eq_true rfl)) dL_law_557 ⟨Nat.le_of_ble_eq_true rfl, Nat.le_of_ble_eq_true rfl⟩) ?_
                                      refine lv_aload_n hx hb dL_law_560 rfl (lv_at hl 2 rfl) ?_
                                      obtain ⟨r115, f116, ef116, h⟩ := b2_s h
                                      refine h_callQ hw (va_runV (As := []) (rest := [.int r114]) ⟨hx, hb, hml, hown, hts⟩ (mX8_twice l D ac (hB s.heap.size) shAll f r115 f116 mo_ok ef116) (cwV 0 hts gl_X8_twice rfl rfl rfl (by decide +kernel) ⟨Nat.le_of_ble_eq_true rfl, Nat.le_of_ble_eq_true rfl⟩) (h_preV hK hw mo_ok.1 rfl _) rfl rfl hl.1 rfl (lv_room (Nat.le_of_ble_eq_true rfl)) dL_law_561 ⟨Nat.le_of_ble_eq_true rfl, Nat.le_of_ble_eq_true rfl⟩) (fun H locs hw => ?_)
                                      refine lv_icmp_eq (tgt := 977) hx hb dL_law_564 (by decide) (fun hc117 => ?_) (fun hc117 => ?_)
                                      · have h := it hc117 h
                                        refine lv_iinc (v := (y3 + 5)) (lv' := [(3, .int (y3 + 5)), (0, .ref b), (1, .ref (hB s.heap.size 0)), (2, .ref (hB s.heap.size 146))]) hx hb dL_law_977 hl (k := 3) rfl rfl (by decide) rfl (fun ls hl => ?_)
                                        refine lv_goto (tgt := 18) hx hb dL_law_980 (by decide) ?_
                                        exact ih f116 (y3 + 5) _ _ _ hw (lv_sub hl [1, 2, 3, 0] rfl) h
                                      · have h := ie hc117 h
                                        refine lv_iconst (v := 0) hx hb dL_law_567 (by decide) ?_
                                        exact absurd (Option.some.inj h) (by decide)
                                    · have h := ie hc233 h
                                      by_cases hc234 : ((xs y3.toNatClampNeg) &&& 31) = 15
                                      · have h := it hc234 h
                                        refine lv_tableIn (off := 537) (tgt := 569) hx hb dL_law_32 (by rw [hc234]; decide) (by rw [hc234]; decide) (by rw [hc234]; rfl) (by decide) ?_
                                        refine lv_aload_n hx hb dL_law_569 rfl (lv_at hl 1 rfl) ?_
                                        obtain ⟨r118, f119, ef119, h⟩ := b2_s h
                                        refine h_callQ hw (va_runV (As := []) (rest := []) ⟨hx, hb, hml, hown, hts⟩ (mX7_falseOnes l D ac (hB s.heap.size) shAll f r118 f119 pw2_ok ef119) (cwV 0 hts gl_X7_falseOnes rfl rfl rfl (by decide +kernel) ⟨Nat.le_of_ble_eq_true rfl, Nat.le_of_ble_eq_true rfl⟩) (h_preV hK hw pw2_ok.1 rfl _) rfl rfl hl.1 rfl (lv_room (Nat.le_of_ble_eq_true rfl)) dL_law_570 ⟨Nat.le_of_ble_eq_true rfl, Nat.le_of_ble_eq_true rfl⟩) (fun H locs hw => ?_)
                                        refine lv_aload_n hx hb dL_law_573 rfl (lv_at hl 2 rfl) ?_
                                        obtain ⟨r120, f121, ef121, h⟩ := b2_s h
                                        refine h_callQ hw (va_runV (As := []) (rest := [.int r118]) ⟨hx, hb, hml, hown, hts⟩ (mX8_falseOnes l D ac (hB s.heap.size) shAll f119 r120 f121 mo_ok ef121) (cwV 0 hts gl_X8_falseOnes rfl rfl rfl (by decide +kernel) ⟨Nat.le_of_ble_eq_true rfl, Nat.le_of_ble_eq_true rfl⟩) (h_preV hK hw mo_ok.1 rfl _) rfl rfl hl.1 rfl (lv_room (Nat.le_of_ble_eq_true rfl)) dL_law_574 ⟨Nat.le_of_ble_eq_true rfl, Nat.le_of_ble_eq_true rfl⟩) (fun H locs hw => ?_)
                                        refine lv_icmp_eq (tgt := 977) hx hb dL_law_577 (by decide) (fun hc122 => ?_) (fun hc122 => ?_)
                                        · have h := it hc122 h
                                          refine lv_iinc (v := (y3 + 5)) (lv' := [(3, .int (y3 + 5)), (0, .ref b), (1, .ref (hB s.heap.size 0)), (2, .ref (hB s.heap.size 146))]) hx hb dL_law_977 hl (k := 3) rfl rfl (by decide) rfl (fun ls hl => ?_)
                                          refine lv_goto (tgt := 18) hx hb dL_law_980 (by decide) ?_
                                          exact ih f121 (y3 + 5) _ _ _ hw (lv_sub hl [1, 2, 3, 0] rfl) h
                                        · have h := ie hc122 h
                                          refine lv_iconst (v := 0) hx hb dL_law_580 (by decide) ?_
                                          exact absurd (Option.some.inj h) (by decide)
                                      · have h := ie hc234 h
                                        by_cases hc235 : ((xs y3.toNatClampNeg) &&& 31) = 16
                                        · have h := it hc235 h
                                          refine lv_tableIn (off := 550) (tgt := 582) hx hb dL_law_32 (by rw [hc235]; decide) (by rw [hc235]; decide) (by rw [hc235]; rfl) (by decide) ?_
                                          refine lv_aload_n hx hb dL_law_582 rfl (lv_at hl 1 rfl) ?_
                                          refine lv_aload_n hx hb dL_law_583 rfl (lv_at hl 0 rfl) ?_
                                          refine lv_iload_n hx hb dL_law_584 rfl (lv_at hl 3 rfl) ?_
                                          refine lv_iconst (v := 1) hx hb dL_law_585 (by decide) ?_
                                          refine lv_iadd hx hb dL_law_586 ?_
                                          obtain ⟨hi123, h⟩ := gd_s h
                                          refine va_sld hx hb hX hbl hbA hw.2.2 hi123 dL_law_587 ?_
                                          refine lv_aload_n hx hb dL_law_588 rfl (lv_at hl 0 rfl) ?_
                                          refine lv_iload_n hx hb dL_law_589 rfl (lv_at hl 3 rfl) ?_
                                          refine lv_iconst (v := 2) hx hb dL_law_590 (by decide) ?_
                                          refine lv_iadd hx hb dL_law_591 ?_
                                          obtain ⟨hi124, h⟩ := gd_s h
                                          refine va_sld hx hb hX hbl hbA hw.2.2 hi124 dL_law_592 ?_
                                          refine lv_aload_n hx hb dL_law_593 rfl (lv_at hl 0 rfl) ?_
                                          refine lv_iload_n hx hb dL_law_594 rfl (lv_at hl 3 rfl) ?_
                                          refine lv_iconst (v := 3) hx hb dL_law_595 (by decide) ?_
                                          refine lv_iadd hx hb dL_law_596 ?_
                                          obtain ⟨hi125, h⟩ := gd_s h
                                          refine va_sld hx hb hX hbl hbA hw.2.2 hi125 dL_law_597 ?_
                                          obtain ⟨r126, er126, h⟩ := b1_s h
                                          refine h_callR (va_runV (As := [.int (xs (y3 + 1).toNatClampNeg), .int (xs (y3 + 2).toNatClampNeg), .int (xs (y3 + 3).toNatClampNeg)]) (rest := []) ⟨hx, hb, hml, hown, hts⟩ (mX7_date l D ac (hB s.heap.size) shAll f (xs (y3 + 1).toNatClampNeg) (xs (y3 + 2).toNatClampNeg) (xs (y3 + 3).toNatClampNeg) r126 pw2_ok er126) (cwV 3 hts gl_X7_date rfl rfl rfl (by decide +kernel) ⟨Nat.le_of_ble_eq_true rfl, Nat.le_of_ble_eq_true rfl⟩) (h_preV hK hw pw2_ok.1 rfl _) rfl rfl hl.1 rfl (lv_room (Nat.le_of_ble_eq_true rfl)) dL_law_598 ⟨Nat.le_of_ble_eq_true rfl, Nat.le_of_ble_eq_true rfl⟩) ?_
                                          refine lv_aload_n hx hb dL_law_601 rfl (lv_at hl 2 rfl) ?_
                                          refine lv_aload_n hx hb dL_law_602 rfl (lv_at hl 0 rfl) ?_
                                          refine lv_iload_n hx hb dL_law_603 rfl (lv_at hl 3 rfl) ?_
                                          refine lv_iconst (v := 1) hx hb dL_law_604 (by decide) ?_
                                          refine lv_iadd hx hb dL_law_605 ?_
                                          obtain ⟨hi127, h⟩ := gd_s h
                                          refine va_sld hx hb hX hbl hbA hw.2.2 hi127 dL_law_606 ?_
                                          refine lv_aload_n hx hb dL_law_607 rfl (lv_at hl 0 rfl) ?_
                                          refine lv_iload_n hx hb dL_law_608 rfl (lv_at hl 3 rfl) ?_
                                          refine lv_iconst (v := 2) hx hb dL_law_609 (by decide) ?_
                                          refine lv_iadd hx hb dL_law_610 ?_
                                          obtain ⟨hi128, h⟩ := gd_s h
                                          refine va_sld hx hb hX hbl hbA hw.2.2 hi128 dL_law_611 ?_
                                          refine lv_aload_n hx hb dL_law_612 rfl (lv_at hl 0 rfl) ?_
                                          refine lv_iload_n hx hb dL_law_613 rfl (lv_at hl 3 rfl) ?_
                                          refine lv_iconst (v := 3) hx hb dL_law_614 (by decide) ?_
                                          refine lv_iadd hx hb dL_law_615 ?_
                                          obtain ⟨hi129, h⟩ := gd_s h
                                          refine va_sld hx hb hX hbl hbA hw.2.2 hi129 dL_law_616 ?_
                                          obtain ⟨r130, f131, ef131, h⟩ := b2_s h
                                          refine h_callQ hw (va_runV (As := [.int (xs (y3 + 1).toNatClampNeg), .int (xs (y3 + 2).toNatClampNeg), .int (xs (y3 + 3).toNatClampNeg)]) (rest := [.int r126]) ⟨hx, hb, hml, hown, hts⟩ (mX8_date l D ac (hB s.heap.size) shAll f (xs (y3 + 1).toNatClampNeg) (xs (y3 + 2).toNatClampNeg) (xs (y3 + 3).toNatClampNeg) r130 f131 mo_ok ef131) (cwV 3 hts gl_X8_date rfl rfl rfl (by decide +kernel) ⟨Nat.le_of_ble_eq_true rfl, Nat.le_of_ble_eq_true rfl⟩) (h_preV hK hw mo_ok.1 rfl _) rfl rfl hl.1 rfl (lv_room (Nat.le_of_ble_eq_true rfl)) dL_law_617 ⟨Nat.le_of_ble_eq_true rfl, Nat.le_of_ble_eq_true rfl⟩) (fun H locs hw => ?_)
                                          refine lv_icmp_eq (tgt := 977) hx hb dL_law_620 (by decide) (fun hc132 => ?_) (fun hc132 => ?_)
                                          · have h := it hc132 h
                                            refine lv_iinc (v := (y3 + 5)) (lv' := [(3, .int (y3 + 5)), (0, .ref b), (1, .ref (hB s.heap.size 0)), (2, .ref (hB s.heap.size 146))]) hx hb dL_law_977 hl (k := 3) rfl rfl (by decide) rfl (fun ls hl => ?_)
                                            refine lv_goto (tgt := 18) hx hb dL_law_980 (by decide) ?_
                                            exact ih f131 (y3 + 5) _ _ _ hw (lv_sub hl [1, 2, 3, 0] rfl) h
                                          · have h := ie hc132 h
                                            refine lv_iconst (v := 0) hx hb dL_law_623 (by decide) ?_
                                            exact absurd (Option.some.inj h) (by decide)
                                        · have h := ie hc235 h
                                          by_cases hc236 : ((xs y3.toNatClampNeg) &&& 31) = 17
                                          · have h := it hc236 h
                                            refine lv_tableIn (off := 593) (tgt := 625) hx hb dL_law_32 (by rw [hc236]; decide) (by rw [hc236]; decide) (by rw [hc236]; rfl) (by decide) ?_
                                            refine lv_aload_n hx hb dL_law_625 rfl (lv_at hl 1 rfl) ?_
                                            refine lv_aload_n hx hb dL_law_626 rfl (lv_at hl 0 rfl) ?_
                                            refine lv_iload_n hx hb dL_law_627 rfl (lv_at hl 3 rfl) ?_
                                            refine lv_iconst (v := 1) hx hb dL_law_628 (by decide) ?_
                                            refine lv_iadd hx hb dL_law_629 ?_
                                            obtain ⟨hi133, h⟩ := gd_s h
                                            refine va_sld hx hb hX hbl hbA hw.2.2 hi133 dL_law_630 ?_
                                            obtain ⟨r134, f135, ef135, h⟩ := b2_s h
                                            refine h_callQ hw (va_runV (As := [.int (xs (y3 + 1).toNatClampNeg)]) (rest := []) ⟨hx, hb, hml, hown, hts⟩ (mX7_look l D ac (hB s.heap.size) shAll f (xs (y3 + 1).toNatClampNeg) r134 f135 pw2_ok ef135) (cwV 1 hts gl_X7_look rfl rfl rfl (by decide +kernel) ⟨Nat.le_of_ble_eq_true rfl, Nat.le_of_ble_eq_true rfl⟩) (h_preV hK hw pw2_ok.1 rfl _) rfl rfl hl.1 rfl (lv_room (Nat.le_of_ble_eq_true rfl)) dL_law_631 ⟨Nat.le_of_ble_eq_true rfl, Nat.le_of_ble_eq_true rfl⟩) (fun H locs hw => ?_)
                                            refine lv_aload_n hx hb dL_law_634 rfl (lv_at hl 2 rfl) ?_
                                            refine lv_aload_n hx hb dL_law_635 rfl (lv_at hl 0 rfl) ?_
                                            refine lv_iload_n hx hb dL_law_636 rfl (lv_at hl 3 rfl) ?_
                                            refine lv_iconst (v := 1) hx hb dL_law_637 (by decide) ?_
                                            refine lv_iadd hx hb dL_law_638 ?_
                                            obtain ⟨hi136, h⟩ := gd_s h
                                            refine va_sld hx hb hX hbl hbA hw.2.2 hi136 dL_law_639 ?_
                                            obtain ⟨r137, f138, ef138, h⟩ := b2_s h
                                            refine h_callQ hw (va_runV (As := [.int (xs (y3 + 1).toNatClampNeg)]) (rest := [.int r134]) ⟨hx, hb, hml, hown, hts⟩ (mX8_look l D ac (hB s.heap.size) shAll f135 (xs (y3 + 1).toNatClampNeg) r137 f138 mo_ok ef138) (cwV 1 hts gl_X8_look rfl rfl rfl (by decide +kernel) ⟨Nat.le_of_ble_eq_true rfl, Nat.le_of_ble_eq_true rfl⟩) (h_preV hK hw mo_ok.1 rfl _) rfl rfl hl.1 rfl (lv_room (Nat.le_of_ble_eq_true rfl)) dL_law_640 ⟨Nat.le_of_ble_eq_true rfl, Nat.le_of_ble_eq_true rfl⟩) (fun H locs hw => ?_)
                                            refine lv_icmp_eq (tgt := 977) hx hb dL_law_643 (by decide) (fun hc139 => ?_) (fun hc139 => ?_)
                                            · have h := it hc139 h
                                              refine lv_iinc (v := (y3 + 5)) (lv' := [(3, .int (y3 + 5)), (0, .ref b), (1, .ref (hB s.heap.size 0)), (2, .ref (hB s.heap.size 146))]) hx hb dL_law_977 hl (k := 3) rfl rfl (by decide) rfl (fun ls hl => ?_)
                                              refine lv_goto (tgt := 18) hx hb dL_law_980 (by decide) ?_
                                              exact ih f138 (y3 + 5) _ _ _ hw (lv_sub hl [1, 2, 3, 0] rfl) h
                                            · have h := ie hc139 h
                                              refine lv_iconst (v := 0) hx hb dL_law_646 (by decide) ?_
                                              exact absurd (Option.some.inj h) (by decide)
                                          · have h := ie hc236 h
                                            by_cases hc237 : ((xs y3.toNatClampNeg) &&& 31) = 18
                                            · have h := it hc237 h
                                              refine lv_tableIn (off := 616) (tgt := 648) hx hb dL_law_32 (by rw [hc237]; decide) (by rw [hc237]; decide) (by rw [hc237]; rfl) (by decide) ?_
                                              refine lv_aload_n hx hb dL_law_648 rfl (lv_at hl 1 rfl) ?_
                                              refine lv_aload_n hx hb dL_law_649 rfl (lv_at hl 0 rfl) ?_
                                              refine lv_iload_n hx hb dL_law_650 rfl (lv_at hl 3 rfl) ?_
                                              refine lv_iconst (v := 1) hx hb dL_law_651 (by decide) ?_
                                              refine lv_iadd hx hb dL_law_652 ?_
                                              obtain ⟨hi140, h⟩ := gd_s h
                                              refine va_sld hx hb hX hbl hbA hw.2.2 hi140 dL_law_653 ?_
                                              obtain ⟨r141, er141, h⟩ := b1_s h
                                              refine h_callR (va_runV (As := [.int (xs (y3 + 1).toNatClampNeg)]) (rest := []) ⟨hx, hb, hml, hown, hts⟩ (mX7_can l D ac (hB s.heap.size) shAll f (xs (y3 + 1).toNatClampNeg) r141 pw2_ok er141) (cwV 1 hts gl_X7_can rfl rfl rfl (by decide +kernel) ⟨Nat.le_of_ble_eq_true rfl, Nat.le_of_ble_eq_true rfl⟩) (h_preV hK hw pw2_ok.1 rfl _) rfl rfl hl.1 rfl (lv_room (Nat.le_of_ble_eq_true rfl)) dL_law_654 ⟨Nat.le_of_ble_eq_true rfl, Nat.le_of_ble_eq_true rfl⟩) ?_
                                              refine lv_aload_n hx hb dL_law_657 rfl (lv_at hl 2 rfl) ?_
                                              refine lv_aload_n hx hb dL_law_658 rfl (lv_at hl 0 rfl) ?_
                                              refine lv_iload_n hx hb dL_law_659 rfl (lv_at hl 3 rfl) ?_
                                              refine lv_iconst (v := 1) hx hb dL_law_660 (by decide) ?_
                                              refine lv_iadd hx hb dL_law_661 ?_
                                              obtain ⟨hi142, h⟩ := gd_s h
                                              refine va_sld hx hb hX hbl hbA hw.2.2 hi142 dL_law_662 ?_
                                              obtain ⟨r143, f144, ef144, h⟩ := b2_s h
                                              refine h_callQ hw (va_runV (As := [.int (xs (y3 + 1).toNatClampNeg)]) (rest := [.int r141]) ⟨hx, hb, hml, hown, hts⟩ (mX8_can l D ac (hB s.heap.size) shAll f (xs (y3 + 1).toNatClampNeg) r143 f144 mo_ok ef144) (cwV 1 hts gl_X8_can rfl rfl rfl (by decide +kernel) ⟨Nat.le_of_ble_eq_true rfl, Nat.le_of_ble_eq_true rfl⟩) (h_preV hK hw mo_ok.1 rfl _) rfl rfl hl.1 rfl (lv_room (Nat.le_of_ble_eq_true rfl)) dL_law_663 ⟨Nat.le_of_ble_eq_true rfl, Nat.le_of_ble_eq_true rfl⟩) (fun H locs hw => ?_)
                                              refine lv_icmp_eq (tgt := 977) hx hb dL_law_666 (by decide) (fun hc145 => ?_) (fun hc145 => ?_)
                                              · have h := it hc145 h
                                                refine lv_iinc (v := (y3 + 5)) (lv' := [(3, .int (y3 + 5)), (0, .ref b), (1, .ref (hB s.heap.size 0)), (2, .ref (hB s.heap.size 146))]) hx hb dL_law_977 hl (k := 3) rfl rfl (by decide) rfl (fun ls hl => ?_)
                                                refine lv_goto (tgt := 18) hx hb dL_law_980 (by decide) ?_
                                                exact ih f144 (y3 + 5) _ _ _ hw (lv_sub hl [1, 2, 3, 0] rfl) h
                                              · have h := ie hc145 h
                                                refine lv_iconst (v := 0) hx hb dL_law_669 (by decide) ?_
                                                exact absurd (Option.some.inj h) (by decide)
                                            · have h := ie hc237 h
                                              by_cases hc238 : ((xs y3.toNatClampNeg) &&& 31) = 19
                                              · have h := it hc238 h
                                                refine lv_tableIn (off := 639) (tgt := 671) hx hb dL_law_32 (by rw [hc238]; decide) (by rw [hc238]; decide) (by rw [hc238]; rfl) (by decide) ?_
                                                refine lv_aload_n hx hb dL_law_671 rfl (lv_at hl 1 rfl) ?_
                                                refine lv_aload_n hx hb dL_law_672 rfl (lv_at hl 0 rfl) ?_
                                                refine lv_iload_n hx hb dL_law_673 rfl (lv_at hl 3 rfl) ?_
                                                refine lv_iconst (v := 1) hx hb dL_law_674 (by decide) ?_
                                                refine lv_iadd hx hb dL_law_675 ?_
                                                obtain ⟨hi146, h⟩ := gd_s h
                                                refine va_sld hx hb hX hbl hbA hw.2.2 hi146 dL_law_676 ?_
                                                refine lv_aload_n hx hb dL_law_677 rfl (lv_at hl 0 rfl) ?_
                                                refine lv_iload_n hx hb dL_law_678 rfl (lv_at hl 3 rfl) ?_
                                                refine lv_iconst (v := 2) hx hb dL_law_679 (by decide) ?_
                                                refine lv_iadd hx hb dL_law_680 ?_
                                                obtain ⟨hi147, h⟩ := gd_s h
                                                refine va_sld hx hb hX hbl hbA hw.2.2 hi147 dL_law_681 ?_
                                                refine lv_aload_n hx hb dL_law_682 rfl (lv_at hl 0 rfl) ?_
                                                refine lv_iload_n hx hb dL_law_683 rfl (lv_at hl 3 rfl) ?_
                                                refine lv_iconst (v := 3) hx hb dL_law_684 (by decide) ?_
                                                refine lv_iadd hx hb dL_law_685 ?_
                                                obtain ⟨hi148, h⟩ := gd_s h
                                                refine va_sld hx hb hX hbl hbA hw.2.2 hi148 dL_law_686 ?_
                                                refine lv_aload_n hx hb dL_law_687 rfl (lv_at hl 0 rfl) ?_
                                                refine lv_iload_n hx hb dL_law_688 rfl (lv_at hl 3 rfl) ?_
                                                refine lv_iconst (v := 4) hx hb dL_law_689 (by decide) ?_
                                                refine lv_iadd hx hb dL_law_690 ?_
                                                obtain ⟨hi149, h⟩ := gd_s h
                                                refine va_sld hx hb hX hbl hbA hw.2.2 hi149 dL_law_691 ?_
                                                refine lv_if_eq (tgt := 699) hx hb dL_law_692 (by decide) (fun hc150 => ?_) (fun hc150 => ?_)
                                                · have h := it hc150 h
                                                  refine lv_iconst (v := 0) hx hb dL_law_699 (by decide) ?_
                                                  exact J700 (fL_law_18 xs L n) ih f y3 (xs (y3 + 1).toNatClampNeg) (xs (y3 + 2).toNatClampNeg) (xs (y3 + 3).toNatClampNeg) 0 _ _ _ hw (lv_sub hl [0, 1, 2, 3] rfl) h
                                                · have h := ie hc150 h
                                                  refine lv_iconst (v := 1) hx hb dL_law_695 (by decide) ?_
                                                  refine lv_goto (tgt := 700) hx hb dL_law_696 (by decide) ?_
                                                  exact J700 (fL_law_18 xs L n) ih f y3 (xs (y3 + 1).toNatClampNeg) (xs (y3 + 2).toNatClampNeg) (xs (y3 + 3).toNatClampNeg) 1 _ _ _ hw (lv_sub hl [0, 1, 2, 3] rfl) h
                                              · have h := ie hc238 h
                                                by_cases hc239 : ((xs y3.toNatClampNeg) &&& 31) = 20
                                                · have h := it hc239 h
                                                  refine lv_tableIn (off := 708) (tgt := 740) hx hb dL_law_32 (by rw [hc239]; decide) (by rw [hc239]; decide) (by rw [hc239]; rfl) (by decide) ?_
                                                  refine lv_aload_n hx hb dL_law_740 rfl (lv_at hl 1 rfl) ?_
                                                  obtain ⟨r151, f152, ef152, h⟩ := b2_s h
                                                  refine h_callQ hw (va_runV (As := []) (rest := []) ⟨hx, hb, hml, hown, hts⟩ (mX7_forget l D ac (hB s.heap.size) shAll f r151 f152 pw2_ok ef152) (cwV 0 hts gl_X7_forget rfl rfl rfl (by decide +kernel) ⟨Nat.le_of_ble_eq_true rfl, Nat.le_of_ble_eq_true rfl⟩) (h_preV hK hw pw2_ok.1 rfl _) rfl rfl hl.1 rfl (lv_room (Nat.le_of_ble_eq_true rfl)) dL_law_741 ⟨Nat.le_of_ble_eq_true rfl, Nat.le_of_ble_eq_true rfl⟩) (fun H locs hw => ?_)
                                                  refine lv_aload_n hx hb dL_law_744 rfl (lv_at hl 2 rfl) ?_
                                                  obtain ⟨r153, f154, ef154, h⟩ := b2_s h
                                                  refine h_callQ hw (va_runV (As := []) (rest := [.int r151]) ⟨hx, hb, hml, hown, hts⟩ (mX8_forget l D ac (hB s.heap.size) shAll f152 r153 f154 mo_ok ef154) (cwV 0 hts gl_X8_forget rfl rfl rfl (by decide +kernel) ⟨Nat.le_of_ble_eq_true rfl, Nat.le_of_ble_eq_true rfl⟩) (h_preV hK hw mo_ok.1 rfl _) rfl rfl hl.1 rfl (lv_room (Nat.le_of_ble_eq_true rfl)) dL_law_745 ⟨Nat.le_of_ble_eq_true rfl, Nat.le_of_ble_eq_true rfl⟩) (fun H locs hw => ?_)
                                                  refine lv_icmp_eq (tgt := 977) hx hb dL_law_748 (by decide) (fun hc155 => ?_) (fun hc155 => ?_)
                                                  · have h := it hc155 h
                                                    refine lv_iinc (v := (y3 + 5)) (lv' := [(3, .int (y3 + 5)), (0, .ref b), (1, .ref (hB s.heap.size 0)), (2, .ref (hB s.heap.size 146))]) hx hb dL_law_977 hl (k := 3) rfl rfl (by decide) rfl (fun ls hl => ?_)
                                                    refine lv_goto (tgt := 18) hx hb dL_law_980 (by decide) ?_
                                                    exact ih f154 (y3 + 5) _ _ _ hw (lv_sub hl [1, 2, 3, 0] rfl) h
                                                  · have h := ie hc155 h
                                                    refine lv_iconst (v := 0) hx hb dL_law_751 (by decide) ?_
                                                    exact absurd (Option.some.inj h) (by decide)
                                                · have h := ie hc239 h
                                                  by_cases hc240 : ((xs y3.toNatClampNeg) &&& 31) = 21
                                                  · have h := it hc240 h
                                                    refine lv_tableIn (off := 721) (tgt := 753) hx hb dL_law_32 (by rw [hc240]; decide) (by rw [hc240]; decide) (by rw [hc240]; rfl) (by decide) ?_
                                                    refine lv_aload_n hx hb dL_law_753 rfl (lv_at hl 1 rfl) ?_
                                                    refine lv_aload_n hx hb dL_law_754 rfl (lv_at hl 0 rfl) ?_
                                                    refine lv_iload_n hx hb dL_law_755 rfl (lv_at hl 3 rfl) ?_
                                                    refine lv_iconst (v := 1) hx hb dL_law_756 (by decide) ?_
                                                    refine lv_iadd hx hb dL_law_757 ?_
                                                    obtain ⟨hi156, h⟩ := gd_s h
                                                    refine va_sld hx hb hX hbl hbA hw.2.2 hi156 dL_law_758 ?_
                                                    obtain ⟨r157, f158, ef158, h⟩ := b2_s h
                                                    refine h_callQ hw (va_runV (As := [.int (xs (y3 + 1).toNatClampNeg)]) (rest := []) ⟨hx, hb, hml, hown, hts⟩ (mX7_trueBy l D ac (hB s.heap.size) shAll f (xs (y3 + 1).toNatClampNeg) r157 f158 pw2_ok ef158) (cwV 1 hts gl_X7_trueBy rfl rfl rfl (by decide +kernel) ⟨Nat.le_of_ble_eq_true rfl, Nat.le_of_ble_eq_true rfl⟩) (h_preV hK hw pw2_ok.1 rfl _) rfl rfl hl.1 rfl (lv_room (Nat.le_of_ble_eq_true rfl)) dL_law_759 ⟨Nat.le_of_ble_eq_true rfl, Nat.le_of_ble_eq_true rfl⟩) (fun H locs hw => ?_)
                                                    refine lv_aload_n hx hb dL_law_762 rfl (lv_at hl 2 rfl) ?_
                                                    refine lv_aload_n hx hb dL_law_763 rfl (lv_at hl 0 rfl) ?_
                                                    refine lv_iload_n hx hb dL_law_764 rfl (lv_at hl 3 rfl) ?_
                                                    refine lv_iconst (v := 1) hx hb dL_law_765 (by decide) ?_
                                                    refine lv_iadd hx hb dL_law_766 ?_
                                                    obtain ⟨hi159, h⟩ := gd_s h
                                                    refine va_sld hx hb hX hbl hbA hw.2.2 hi159 dL_law_767 ?_
                                                    obtain ⟨r160, f161, ef161, h⟩ := b2_s h
                                                    refine h_callQ hw (va_runV (As := [.int (xs (y3 + 1).toNatClampNeg)]) (rest := [.int r157]) ⟨hx, hb, hml, hown, hts⟩ (mX8_trueBy l D ac (hB s.heap.size) shAll f158 (xs (y3 + 1).toNatClampNeg) r160 f161 mo_ok ef161) (cwV 1 hts gl_X8_trueBy rfl rfl rfl (by decide +kernel) ⟨Nat.le_of_ble_eq_true rfl, Nat.le_of_ble_eq_true rfl⟩) (h_preV hK hw mo_ok.1 rfl _) rfl rfl hl.1 rfl (lv_room (Nat.le_of_ble_eq_true rfl)) dL_law_768 ⟨Nat.le_of_ble_eq_true rfl, Nat.le_of_ble_eq_true rfl⟩) (fun H locs hw => ?_)
                                                    refine lv_icmp_eq (tgt := 977) hx hb dL_law_771 (by decide) (fun hc162 => ?_) (fun hc162 => ?_)
                                                    · have h := it hc162 h
                                                      refine lv_iinc (v := (y3 + 5)) (lv' := [(3, .int (y3 + 5)), (0, .ref b), (1, .ref (hB s.heap.size 0)), (2, .ref (hB s.heap.size 146))]) hx hb dL_law_977 hl (k := 3) rfl rfl (by decide) rfl (fun ls hl => ?_)
                                                      refine lv_goto (tgt := 18) hx hb dL_law_980 (by decide) ?_
                                                      exact ih f161 (y3 + 5) _ _ _ hw (lv_sub hl [1, 2, 3, 0] rfl) h
                                                    · have h := ie hc162 h
                                                      refine lv_iconst (v := 0) hx hb dL_law_774 (by decide) ?_
                                                      exact absurd (Option.some.inj h) (by decide)
                                                  · have h := ie hc240 h
                                                    by_cases hc241 : ((xs y3.toNatClampNeg) &&& 31) = 22
                                                    · have h := it hc241 h
                                                      refine lv_tableIn (off := 744) (tgt := 776) hx hb dL_law_32 (by rw [hc241]; decide) (by rw [hc241]; decide) (by rw [hc241]; rfl) (by decide) ?_
                                                      refine lv_aload_n hx hb dL_law_776 rfl (lv_at hl 1 rfl) ?_
                                                      refine lv_aload_n hx hb dL_law_777 rfl (lv_at hl 0 rfl) ?_
                                                      refine lv_iload_n hx hb dL_law_778 rfl (lv_at hl 3 rfl) ?_
                                                      refine lv_iconst (v := 1) hx hb dL_law_779 (by decide) ?_
                                                      refine lv_iadd hx hb dL_law_780 ?_
                                                      obtain ⟨hi163, h⟩ := gd_s h
                                                      refine va_sld hx hb hX hbl hbA hw.2.2 hi163 dL_law_781 ?_
                                                      refine lv_aload_n hx hb dL_law_782 rfl (lv_at hl 0 rfl) ?_
                                                      refine lv_iload_n hx hb dL_law_783 rfl (lv_at hl 3 rfl) ?_
                                                      refine lv_iconst (v := 2) hx hb dL_law_784 (by decide) ?_
                                                      refine lv_iadd hx hb dL_law_785 ?_
                                                      obtain ⟨hi164, h⟩ := gd_s h
                                                      refine va_sld hx hb hX hbl hbA hw.2.2 hi164 dL_law_786 ?_
                                                      obtain ⟨r165, er165, h⟩ := b1_s h
                                                      refine h_callR (va_runV (As := [.int (xs (y3 + 1).toNatClampNeg), .int (xs (y3 + 2).toNatClampNeg)]) (rest := []) ⟨hx, hb, hml, hown, hts⟩ (mX7_hand l D ac (hB s.heap.size) shAll f (xs (y3 + 1).toNatClampNeg) (xs (y3 + 2).toNatClampNeg) r165 pw2_ok er165) (cwV 2 hts gl_X7_hand rfl rfl rfl (by decide +kernel) ⟨Nat.le_of_ble_eq_true rfl, Nat.le_of_ble_eq_true rfl⟩) (h_preV hK hw pw2_ok.1 rfl _) rfl rfl hl.1 rfl (lv_room (Nat.le_of_ble_eq_true rfl)) dL_law_787 ⟨Nat.le_of_ble_eq_true rfl, Nat.le_of_ble_eq_true rfl⟩) ?_
                                                      refine lv_aload_n hx hb dL_law_790 rfl (lv_at hl 2 rfl) ?_
                                                      refine lv_aload_n hx hb dL_law_791 rfl (lv_at hl 0 rfl) ?_
                                                      refine lv_iload_n hx hb dL_law_792 rfl (lv_at hl 3 rfl) ?_
                                                      refine lv_iconst (v := 1) hx hb dL_law_793 (by decide) ?_
                                                      refine lv_iadd hx hb dL_law_794 ?_
                                                      obtain ⟨hi166, h⟩ := gd_s h
                                                      refine va_sld hx hb hX hbl hbA hw.2.2 hi166 dL_law_795 ?_
                                                      refine lv_aload_n hx hb dL_law_796 rfl (lv_at hl 0 rfl) ?_
                                                      refine lv_iload_n hx hb dL_law_797 rfl (lv_at hl 3 rfl) ?_
                                                      refine lv_iconst (v := 2) hx hb dL_law_798 (by decide) ?_
                                                      refine lv_iadd hx hb dL_law_799 ?_
                                                      obtain ⟨hi167, h⟩ := gd_s h
                                                      refine va_sld hx hb hX hbl hbA hw.2.2 hi167 dL_law_800 ?_
                                                      obtain ⟨r168, f169, ef169, h⟩ := b2_s h
                                                      refine h_callQ hw (va_runV (As := [.int (xs (y3 + 1).toNatClampNeg), .int (xs (y3 + 2).toNatClampNeg)]) (rest := [.int r165]) ⟨hx, hb, hml, hown, hts⟩ (mX8_hand l D ac (hB s.heap.size) shAll f (xs (y3 + 1).toNatClampNeg) (xs (y3 + 2).toNatClampNeg) r168 f169 mo_ok ef169) (cwV 2 hts gl_X8_hand rfl rfl rfl (by decide +kernel) ⟨Nat.le_of_ble_eq_true rfl, Nat.le_of_ble_eq_true rfl⟩) (h_preV hK hw mo_ok.1 rfl _) rfl rfl hl.1 rfl (lv_room (Nat.le_of_ble_eq_true rfl)) dL_law_801 ⟨Nat.le_of_ble_eq_true rfl, Nat.le_of_ble_eq_true rfl⟩) (fun H locs hw => ?_)
                                                      refine lv_icmp_eq (tgt := 977) hx hb dL_law_804 (by decide) (fun hc170 => ?_) (fun hc170 => ?_)
                                                      · have h := it hc170 h
                                                        refine lv_iinc (v := (y3 + 5)) (lv' := [(3, .int (y3 + 5)), (0, .ref b), (1, .ref (hB s.heap.size 0)), (2, .ref (hB s.heap.size 146))]) hx hb dL_law_977 hl (k := 3) rfl rfl (by decide) rfl (fun ls hl => ?_)
                                                        refine lv_goto (tgt := 18) hx hb dL_law_980 (by decide) ?_
                                                        exact ih f169 (y3 + 5) _ _ _ hw (lv_sub hl [1, 2, 3, 0] rfl) h
                                                      · have h := ie hc170 h
                                                        refine lv_iconst (v := 0) hx hb dL_law_807 (by decide) ?_
                                                        exact absurd (Option.some.inj h) (by decide)
                                                    · have h := ie hc241 h
                                                      by_cases hc242 : ((xs y3.toNatClampNeg) &&& 31) = 23
                                                      · have h := it hc242 h
                                                        refine lv_tableIn (off := 777) (tgt := 809) hx hb dL_law_32 (by rw [hc242]; decide) (by rw [hc242]; decide) (by rw [hc242]; rfl) (by decide) ?_
                                                        refine lv_aload_n hx hb dL_law_809 rfl (lv_at hl 1 rfl) ?_
                                                        refine lv_aload_n hx hb dL_law_810 rfl (lv_at hl 0 rfl) ?_
                                                        refine lv_iload_n hx hb dL_law_811 rfl (lv_at hl 3 rfl) ?_
                                                        refine lv_iconst (v := 1) hx hb dL_law_812 (by decide) ?_
                                                        refine lv_iadd hx hb dL_law_813 ?_
                                                        obtain ⟨hi171, h⟩ := gd_s h
                                                        refine va_sld hx hb hX hbl hbA hw.2.2 hi171 dL_law_814 ?_
                                                        refine lv_aload_n hx hb dL_law_815 rfl (lv_at hl 0 rfl) ?_
                                                        refine lv_iload_n hx hb dL_law_816 rfl (lv_at hl 3 rfl) ?_
                                                        refine lv_iconst (v := 2) hx hb dL_law_817 (by decide) ?_
                                                        refine lv_iadd hx hb dL_law_818 ?_
                                                        obtain ⟨hi172, h⟩ := gd_s h
                                                        refine va_sld hx hb hX hbl hbA hw.2.2 hi172 dL_law_819 ?_
                                                        obtain ⟨r173, f174, ef174, h⟩ := b2_s h
                                                        refine h_callQ hw (va_runV (As := [.int (xs (y3 + 1).toNatClampNeg), .int (xs (y3 + 2).toNatClampNeg)]) (rest := []) ⟨hx, hb, hml, hown, hts⟩ (mX7_child l D ac (hB s.heap.size) shAll f (xs (y3 + 1).toNatClampNeg) (xs (y3 + 2).toNatClampNeg) r173 f174 pw2_ok ef174) (cwV 2 hts gl_X7_child rfl rfl rfl (by decide +kernel) ⟨Nat.le_of_ble_eq_true rfl, Nat.le_of_ble_eq_true rfl⟩) (h_preV hK hw pw2_ok.1 rfl _) rfl rfl hl.1 rfl (lv_room (Nat.le_of_ble_eq_true rfl)) dL_law_820 ⟨Nat.le_of_ble_eq_true rfl, Nat.le_of_ble_eq_true rfl⟩) (fun H locs hw => ?_)
                                                        refine lv_aload_n hx hb dL_law_823 rfl (lv_at hl 2 rfl) ?_
                                                        refine lv_aload_n hx hb dL_law_824 rfl (lv_at hl 0 rfl) ?_
                                                        refine lv_iload_n hx hb dL_law_825 rfl (lv_at hl 3 rfl) ?_
                                                        refine lv_iconst (v := 1) hx hb dL_law_826 (by decide) ?_
                                                        refine lv_iadd hx hb dL_law_827 ?_
                                                        obtain ⟨hi175, h⟩ := gd_s h
                                                        refine va_sld hx hb hX hbl hbA hw.2.2 hi175 dL_law_828 ?_
                                                        refine lv_aload_n hx hb dL_law_829 rfl (lv_at hl 0 rfl) ?_
                                                        refine lv_iload_n hx hb dL_law_830 rfl (lv_at hl 3 rfl) ?_
                                                        refine lv_iconst (v := 2) hx hb dL_law_831 (by decide) ?_
                                                        refine lv_iadd hx hb dL_law_832 ?_
                                                        obtain ⟨hi176, h⟩ := gd_s h
                                                        refine va_sld hx hb hX hbl hbA hw.2.2 hi176 dL_law_833 ?_
                                                        obtain ⟨r177, f178, ef178, h⟩ := b2_s h
                                                        refine h_callQ hw (va_runV (As := [.int (xs (y3 + 1).toNatClampNeg), .int (xs (y3 + 2).toNatClampNeg)]) (rest := [.int r173]) ⟨hx, hb, hml, hown, hts⟩ (mX8_child l D ac (hB s.heap.size) shAll f174 (xs (y3 + 1).toNatClampNeg) (xs (y3 + 2).toNatClampNeg) r177 f178 mo_ok ef178) (cwV 2 hts gl_X8_child rfl rfl rfl (by decide +kernel) ⟨Nat.le_of_ble_eq_true rfl, Nat.le_of_ble_eq_true rfl⟩) (h_preV hK hw mo_ok.1 rfl _) rfl rfl hl.1 rfl (lv_room (Nat.le_of_ble_eq_true rfl)) dL_law_834 ⟨Nat.le_of_ble_eq_true rfl, Nat.le_of_ble_eq_true rfl⟩) (fun H locs hw => ?_)
                                                        refine lv_icmp_eq (tgt := 977) hx hb dL_law_837 (by decide) (fun hc179 => ?_) (fun hc179 => ?_)
                                                        · have h := it hc179 h
                                                          refine lv_iinc (v := (y3 + 5)) (lv' := [(3, .int (y3 + 5)), (0, .ref b), (1, .ref (hB s.heap.size 0)), (2, .ref (hB s.heap.size 146))]) hx hb dL_law_977 hl (k := 3) rfl rfl (by decide) rfl (fun ls hl => ?_)
                                                          refine lv_goto (tgt := 18) hx hb dL_law_980 (by decide) ?_
                                                          exact ih f178 (y3 + 5) _ _ _ hw (lv_sub hl [1, 2, 3, 0] rfl) h
                                                        · have h := ie hc179 h
                                                          refine lv_iconst (v := 0) hx hb dL_law_840 (by decide) ?_
                                                          exact absurd (Option.some.inj h) (by decide)
                                                      · have h := ie hc242 h
                                                        by_cases hc243 : ((xs y3.toNatClampNeg) &&& 31) = 24
                                                        · have h := it hc243 h
                                                          refine lv_tableIn (off := 810) (tgt := 842) hx hb dL_law_32 (by rw [hc243]; decide) (by rw [hc243]; decide) (by rw [hc243]; rfl) (by decide) ?_
                                                          refine lv_aload_n hx hb dL_law_842 rfl (lv_at hl 1 rfl) ?_
                                                          refine lv_aload_n hx hb dL_law_843 rfl (lv_at hl 0 rfl) ?_
                                                          refine lv_iload_n hx hb dL_law_844 rfl (lv_at hl 3 rfl) ?_
                                                          refine lv_iconst (v := 1) hx hb dL_law_845 (by decide) ?_
                                                          refine lv_iadd hx hb dL_law_846 ?_
                                                          obtain ⟨hi180, h⟩ := gd_s h
                                                          refine va_sld hx hb hX hbl hbA hw.2.2 hi180 dL_law_847 ?_
                                                          refine lv_aload_n hx hb dL_law_848 rfl (lv_at hl 0 rfl) ?_
                                                          refine lv_iload_n hx hb dL_law_849 rfl (lv_at hl 3 rfl) ?_
                                                          refine lv_iconst (v := 2) hx hb dL_law_850 (by decide) ?_
                                                          refine lv_iadd hx hb dL_law_851 ?_
                                                          obtain ⟨hi181, h⟩ := gd_s h
                                                          refine va_sld hx hb hX hbl hbA hw.2.2 hi181 dL_law_852 ?_
                                                          refine lv_aload_n hx hb dL_law_853 rfl (lv_at hl 0 rfl) ?_
                                                          refine lv_iload_n hx hb dL_law_854 rfl (lv_at hl 3 rfl) ?_
                                                          refine lv_iconst (v := 3) hx hb dL_law_855 (by decide) ?_
                                                          refine lv_iadd hx hb dL_law_856 ?_
                                                          obtain ⟨hi182, h⟩ := gd_s h
                                                          refine va_sld hx hb hX hbl hbA hw.2.2 hi182 dL_law_857 ?_
                                                          obtain ⟨r183, f184, ef184, h⟩ := b2_s h
                                                          refine h_callQ hw (va_runV (As := [.int (xs (y3 + 1).toNatClampNeg), .int (xs (y3 + 2).toNatClampNeg), .int (xs (y3 + 3).toNatClampNeg)]) (rest := []) ⟨hx, hb, hml, hown, hts⟩ (mX7_touts l D ac (hB s.heap.size) shAll f (xs (y3 + 1).toNatClampNeg) (xs (y3 + 2).toNatClampNeg) (xs (y3 + 3).toNatClampNeg) r183 f184 pw2_ok ef184) (cwV 3 hts gl_X7_touts rfl rfl rfl (by decide +kernel) ⟨Nat.le_of_ble_eq_true rfl, Nat.le_of_ble_eq_true rfl⟩) (h_preV hK hw pw2_ok.1 rfl _) rfl rfl hl.1 rfl (lv_room (Nat.le_of_ble_eq_true rfl)) dL_law_858 ⟨Nat.le_of_ble_eq_true rfl, Nat.le_of_ble_eq_true rfl⟩) (fun H locs hw => ?_)
                                                          refine lv_aload_n hx hb dL_law_861 rfl (lv_at hl 2 rfl) ?_
                                                          refine lv_aload_n hx hb dL_law_862 rfl (lv_at hl 0 rfl) ?_
                                                          refine lv_iload_n hx hb dL_law_863 rfl (lv_at hl 3 rfl) ?_
                                                          refine lv_iconst (v := 1) hx hb dL_law_864 (by decide) ?_
                                                          refine lv_iadd hx hb dL_law_865 ?_
                                                          obtain ⟨hi185, h⟩ := gd_s h
                                                          refine va_sld hx hb hX hbl hbA hw.2.2 hi185 dL_law_866 ?_
                                                          refine lv_aload_n hx hb dL_law_867 rfl (lv_at hl 0 rfl) ?_
                                                          refine lv_iload_n hx hb dL_law_868 rfl (lv_at hl 3 rfl) ?_
                                                          refine lv_iconst (v := 2) hx hb dL_law_869 (by decide) ?_
                                                          refine lv_iadd hx hb dL_law_870 ?_
                                                          obtain ⟨hi186, h⟩ := gd_s h
                                                          refine va_sld hx hb hX hbl hbA hw.2.2 hi186 dL_law_871 ?_
                                                          refine lv_aload_n hx hb dL_law_872 rfl (lv_at hl 0 rfl) ?_
                                                          refine lv_iload_n hx hb dL_law_873 rfl (lv_at hl 3 rfl) ?_
                                                          refine lv_iconst (v := 3) hx hb dL_law_874 (by decide) ?_
                                                          refine lv_iadd hx hb dL_law_875 ?_
                                                          obtain ⟨hi187, h⟩ := gd_s h
                                                          refine va_sld hx hb hX hbl hbA hw.2.2 hi187 dL_law_876 ?_
                                                          obtain ⟨r188, f189, ef189, h⟩ := b2_s h
                                                          refine h_callQ hw (va_runV (As := [.int (xs (y3 + 1).toNatClampNeg), .int (xs (y3 + 2).toNatClampNeg), .int (xs (y3 + 3).toNatClampNeg)]) (rest := [.int r183]) ⟨hx, hb, hml, hown, hts⟩ (mX8_touts l D ac (hB s.heap.size) shAll f184 (xs (y3 + 1).toNatClampNeg) (xs (y3 + 2).toNatClampNeg) (xs (y3 + 3).toNatClampNeg) r188 f189 mo_ok ef189) (cwV 3 hts gl_X8_touts rfl rfl rfl (by decide +kernel) ⟨Nat.le_of_ble_eq_true rfl, Nat.le_of_ble_eq_true rfl⟩) (h_preV hK hw mo_ok.1 rfl _) rfl rfl hl.1 rfl (lv_room (Nat.le_of_ble_eq_true rfl)) dL_law_877 ⟨Nat.le_of_ble_eq_true rfl, Nat.le_of_ble_eq_true rfl⟩) (fun H locs hw => ?_)
                                                          refine lv_icmp_eq (tgt := 977) hx hb dL_law_880 (by decide) (fun hc190 => ?_) (fun hc190 => ?_)
                                                          · have h := it hc190 h
                                                            refine lv_iinc (v := (y3 + 5)) (lv' := [(3, .int (y3 + 5)), (0, .ref b), (1, .ref (hB s.heap.size 0)), (2, .ref (hB s.heap.size 146))]) hx hb dL_law_977 hl (k := 3) rfl rfl (by decide) rfl (fun ls hl => ?_)
                                                            refine lv_goto (tgt := 18) hx hb dL_law_980 (by decide) ?_
                                                            exact ih f189 (y3 + 5) _ _ _ hw (lv_sub hl [1, 2, 3, 0] rfl) h
                                                          · have h := ie hc190 h
                                                            refine lv_iconst (v := 0) hx hb dL_law_883 (by decide) ?_
                                                            exact absurd (Option.some.inj h) (by decide)
                                                        · have h := ie hc243 h
                                                          by_cases hc244 : ((xs y3.toNatClampNeg) &&& 31) = 25
                                                          · have h := it hc244 h
                                                            refine lv_tableIn (off := 853) (tgt := 885) hx hb dL_law_32 (by rw [hc244]; decide) (by rw [hc244]; decide) (by rw [hc244]; rfl) (by decide) ?_
                                                            refine lv_aload_n hx hb dL_law_885 rfl (lv_at hl 1 rfl) ?_
                                                            refine lv_aload_n hx hb dL_law_886 rfl (lv_at hl 0 rfl) ?_
                                                            refine lv_iload_n hx hb dL_law_887 rfl (lv_at hl 3 rfl) ?_
                                                            refine lv_iconst (v := 1) hx hb dL_law_888 (by decide) ?_
                                                            refine lv_iadd hx hb dL_law_889 ?_
                                                            obtain ⟨hi191, h⟩ := gd_s h
                                                            refine va_sld hx hb hX hbl hbA hw.2.2 hi191 dL_law_890 ?_
                                                            refine lv_aload_n hx hb dL_law_891 rfl (lv_at hl 0 rfl) ?_
                                                            refine lv_iload_n hx hb dL_law_892 rfl (lv_at hl 3 rfl) ?_
                                                            refine lv_iconst (v := 2) hx hb dL_law_893 (by decide) ?_
                                                            refine lv_iadd hx hb dL_law_894 ?_
                                                            obtain ⟨hi192, h⟩ := gd_s h
                                                            refine va_sld hx hb hX hbl hbA hw.2.2 hi192 dL_law_895 ?_
                                                            refine lv_aload_n hx hb dL_law_896 rfl (lv_at hl 0 rfl) ?_
                                                            refine lv_iload_n hx hb dL_law_897 rfl (lv_at hl 3 rfl) ?_
                                                            refine lv_iconst (v := 3) hx hb dL_law_898 (by decide) ?_
                                                            refine lv_iadd hx hb dL_law_899 ?_
                                                            obtain ⟨hi193, h⟩ := gd_s h
                                                            refine va_sld hx hb hX hbl hbA hw.2.2 hi193 dL_law_900 ?_
                                                            obtain ⟨r194, f195, ef195, h⟩ := b2_s h
                                                            refine h_callQ hw (va_runV (As := [.int (xs (y3 + 1).toNatClampNeg), .int (xs (y3 + 2).toNatClampNeg), .int (xs (y3 + 3).toNatClampNeg)]) (rest := []) ⟨hx, hb, hml, hown, hts⟩ (mX7_gaol l D ac (hB s.heap.size) shAll f (xs (y3 + 1).toNatClampNeg) (xs (y3 + 2).toNatClampNeg) (xs (y3 + 3).toNatClampNeg) r194 f195 pw2_ok ef195) (cwV 3 hts gl_X7_gaol rfl rfl rfl (by decide +kernel) ⟨Nat.le_of_ble_eq_true rfl, Nat.le_of_ble_eq_true rfl⟩) (h_preV hK hw pw2_ok.1 rfl _) rfl rfl hl.1 rfl (lv_room (Nat.le_of_ble_eq_true rfl)) dL_law_901 ⟨Nat.le_of_ble_eq_true rfl, Nat.le_of_ble_eq_true rfl⟩) (fun H locs hw => ?_)
                                                            refine lv_aload_n hx hb dL_law_904 rfl (lv_at hl 2 rfl) ?_
                                                            refine lv_aload_n hx hb dL_law_905 rfl (lv_at hl 0 rfl) ?_
                                                            refine lv_iload_n hx hb dL_law_906 rfl (lv_at hl 3 rfl) ?_
                                                            refine lv_iconst (v := 1) hx hb dL_law_907 (by decide) ?_
                                                            refine lv_iadd hx hb dL_law_908 ?_
                                                            obtain ⟨hi196, h⟩ := gd_s h
                                                            refine va_sld hx hb hX hbl hbA hw.2.2 hi196 dL_law_909 ?_
                                                            refine lv_aload_n hx hb dL_law_910 rfl (lv_at hl 0 rfl) ?_
                                                            refine lv_iload_n hx hb dL_law_911 rfl (lv_at hl 3 rfl) ?_
                                                            refine lv_iconst (v := 2) hx hb dL_law_912 (by decide) ?_
                                                            refine lv_iadd hx hb dL_law_913 ?_
                                                            obtain ⟨hi197, h⟩ := gd_s h
                                                            refine va_sld hx hb hX hbl hbA hw.2.2 hi197 dL_law_914 ?_
                                                            refine lv_aload_n hx hb dL_law_915 rfl (lv_at hl 0 rfl) ?_
                                                            refine lv_iload_n hx hb dL_law_916 rfl (lv_at hl 3 rfl) ?_
                                                            refine lv_iconst (v := 3) hx hb dL_law_917 (by decide) ?_
                                                            refine lv_iadd hx hb dL_law_918 ?_
                                                            obtain ⟨hi198, h⟩ := gd_s h
                                                            refine va_sld hx hb hX hbl hbA hw.2.2 hi198 dL_law_919 ?_
                                                            obtain ⟨r199, f200, ef200, h⟩ := b2_s h
                                                            refine h_callQ hw (va_runV (As := [.int (xs (y3 + 1).toNatClampNeg), .int (xs (y3 + 2).toNatClampNeg), .int (xs (y3 + 3).toNatClampNeg)]) (rest := [.int r194]) ⟨hx, hb, hml, hown, hts⟩ (mX8_gaol l D ac (hB s.heap.size) shAll f195 (xs (y3 + 1).toNatClampNeg) (xs (y3 + 2).toNatClampNeg) (xs (y3 + 3).toNatClampNeg) r199 f200 mo_ok ef200) (cwV 3 hts gl_X8_gaol rfl rfl rfl (by decide +kernel) ⟨Nat.le_of_ble_eq_true rfl, Nat.le_of_ble_eq_true rfl⟩) (h_preV hK hw mo_ok.1 rfl _) rfl rfl hl.1 rfl (lv_room (Nat.le_of_ble_eq_true rfl)) dL_law_920 ⟨Nat.le_of_ble_eq_true rfl, Nat.le_of_ble_eq_true rfl⟩) (fun H locs hw => ?_)
                                                            refine lv_icmp_eq (tgt := 977) hx hb dL_law_923 (by decide) (fun hc201 => ?_) (fun hc201 => ?_)
                                                            · have h := it hc201 h
                                                              refine lv_iinc (v := (y3 + 5)) (lv' := [(3, .int (y3 + 5)), (0, .ref b), (1, .ref (hB s.heap.size 0)), (2, .ref (hB s.heap.size 146))]) hx hb dL_law_977 hl (k := 3) rfl rfl (by decide) rfl (fun ls hl => ?_)
                                                              refine lv_goto (tgt := 18) hx hb dL_law_980 (by decide) ?_
                                                              exact ih f200 (y3 + 5) _ _ _ hw (lv_sub hl [1, 2, 3, 0] rfl) h
                                                            · have h := ie hc201 h
                                                              refine lv_iconst (v := 0) hx hb dL_law_926 (by decide) ?_
                                                              exact absurd (Option.some.inj h) (by decide)
                                                          · have h := ie hc244 h
                                                            by_cases hc245 : ((xs y3.toNatClampNeg) &&& 31) = 26
                                                            · have h := it hc245 h
                                                              refine lv_tableIn (off := 896) (tgt := 928) hx hb dL_law_32 (by rw [hc245]; decide) (by rw [hc245]; decide) (by rw [hc245]; rfl) (by decide) ?_
                                                              refine lv_aload_n hx hb dL_law_928 rfl (lv_at hl 1 rfl) ?_
                                                              obtain ⟨r202, f203, ef203, h⟩ := b2_s h
                                                              refine h_callQ hw (va_runV (As := []) (rest := []) ⟨hx, hb, hml, hown, hts⟩ (mX7_keep l D ac (hB s.heap.size) shAll f r202 f203 pw2_ok ef203) (cwV 0 hts gl_X7_keep rfl rfl rfl (by decide +kernel) ⟨Nat.le_of_ble_eq_true rfl, Nat.le_of_ble_eq_true rfl⟩) (h_preV hK hw pw2_ok.1 rfl _) rfl rfl hl.1 rfl (lv_room (Nat.le_of_ble_eq_true rfl)) dL_law_929 ⟨Nat.le_of_ble_eq_true rfl, Nat.le_of_ble_eq_true rfl⟩) (fun H locs hw => ?_)
                                                              refine lv_aload_n hx hb dL_law_932 rfl (lv_at hl 2 rfl) ?_
                                                              obtain ⟨r204, f205, ef205, h⟩ := b2_s h
                                                              refine h_callQ hw (va_runV (As := []) (rest := [.int r202]) ⟨hx, hb, hml, hown, hts⟩ (mX8_keep l D ac (hB s.heap.size) shAll f203 r204 f205 mo_ok ef205) (cwV 0 hts gl_X8_keep rfl rfl rfl (by decide +kernel) ⟨Nat.le_of_ble_eq_true rfl, Nat.le_of_ble_eq_true rfl⟩) (h_preV hK hw mo_ok.1 rfl _) rfl rfl hl.1 rfl (lv_room (Nat.le_of_ble_eq_true rfl)) dL_law_933 ⟨Nat.le_of_ble_eq_true rfl, Nat.le_of_ble_eq_true rfl⟩) (fun H locs hw => ?_)
                                                              refine lv_icmp_eq (tgt := 977) hx hb dL_law_936 (by decide) (fun hc206 => ?_) (fun hc206 => ?_)
                                                              · have h := it hc206 h
                                                                refine lv_iinc (v := (y3 + 5)) (lv' := [(3, .int (y3 + 5)), (0, .ref b), (1, .ref (hB s.heap.size 0)), (2, .ref (hB s.heap.size 146))]) hx hb dL_law_977 hl (k := 3) rfl rfl (by decide) rfl (fun ls hl => ?_)
                                                                refine lv_goto (tgt := 18) hx hb dL_law_980 (by decide) ?_
                                                                exact ih f205 (y3 + 5) _ _ _ hw (lv_sub hl [1, 2, 3, 0] rfl) h
                                                              · have h := ie hc206 h
                                                                refine lv_iconst (v := 0) hx hb dL_law_939 (by decide) ?_
                                                                exact absurd (Option.some.inj h) (by decide)
                                                            · have h := ie hc245 h
                                                              by_cases hc246 : ((xs y3.toNatClampNeg) &&& 31) = 27
                                                              · have h := it hc246 h
                                                                refine lv_tableIn (off := 909) (tgt := 941) hx hb dL_law_32 (by rw [hc246]; decide) (by rw [hc246]; decide) (by rw [hc246]; rfl) (by decide) ?_
                                                                refine lv_aload_n hx hb dL_law_941 rfl (lv_at hl 1 rfl) ?_
                                                                obtain ⟨r207, f208, ef208, h⟩ := b2_s h
                                                                refine h_callQ hw (va_runV (As := []) (rest := []) ⟨hx, hb, hml, hown, hts⟩ (mX7_back l D ac (hB s.heap.size) shAll f r207 f208 pw2_ok ef208) (cwV 0 hts gl_X7_back rfl rfl rfl (by decide +kernel) ⟨Nat.le_of_ble_eq_true rfl, Nat.le_of_ble_eq_true rfl⟩) (h_preV hK hw pw2_ok.1 rfl _) rfl rfl hl.1 rfl (lv_room (Nat.le_of_ble_eq_true rfl)) dL_law_942 ⟨Nat.le_of_ble_eq_true rfl, Nat.le_of_ble_eq_true rfl⟩) (fun H locs hw => ?_)
                                                                refine lv_aload_n hx hb dL_law_945 rfl (lv_at hl 2 rfl) ?_
                                                                obtain ⟨r209, f210, ef210, h⟩ := b2_s h
                                                                refine h_callQ hw (va_runV (As := []) (rest := [.int r207]) ⟨hx, hb, hml, hown, hts⟩ (mX8_back l D ac (hB s.heap.size) shAll f208 r209 f210 mo_ok ef210) (cwV 0 hts gl_X8_back rfl rfl rfl (by decide +kernel) ⟨Nat.le_of_ble_eq_true rfl, Nat.le_of_ble_eq_true rfl⟩) (h_preV hK hw mo_ok.1 rfl _) rfl rfl hl.1 rfl (lv_room (Nat.le_of_ble_eq_true rfl)) dL_law_946 ⟨Nat.le_of_ble_eq_true rfl, Nat.le_of_ble_eq_true rfl⟩) (fun H locs hw => ?_)
                                                                refine lv_icmp_eq (tgt := 977) hx hb dL_law_949 (by decide) (fun hc211 => ?_) (fun hc211 => ?_)
                                                                · have h := it hc211 h
                                                                  refine lv_iinc (v := (y3 + 5)) (lv' := [(3, .int (y3 + 5)), (0, .ref b), (1, .ref (hB s.heap.size 0)), (2, .ref (hB s.heap.size 146))]) hx hb dL_law_977 hl (k := 3) rfl rfl (by decide) rfl (fun ls hl => ?_)
                                                                  refine lv_goto (tgt := 18) hx hb dL_law_980 (by decide) ?_
                                                                  exact ih f210 (y3 + 5) _ _ _ hw (lv_sub hl [1, 2, 3, 0] rfl) h
                                                                · have h := ie hc211 h
                                                                  refine lv_iconst (v := 0) hx hb dL_law_952 (by decide) ?_
                                                                  exact absurd (Option.some.inj h) (by decide)
                                                              · have h := ie hc246 h
                                                                by_cases hc247 : ((xs y3.toNatClampNeg) &&& 31) = 28
                                                                · have h := it hc247 h
                                                                  refine lv_tableIn (off := 922) (tgt := 954) hx hb dL_law_32 (by rw [hc247]; decide) (by rw [hc247]; decide) (by rw [hc247]; rfl) (by decide) ?_
                                                                  refine lv_aload_n hx hb dL_law_954 rfl (lv_at hl 1 rfl) ?_
                                                                  refine lv_aload_n hx hb dL_law_955 rfl (lv_at hl 0 rfl) ?_
                                                                  refine lv_iload_n hx hb dL_law_956 rfl (lv_at hl 3 rfl) ?_
                                                                  refine lv_iconst (v := 1) hx hb dL_law_957 (by decide) ?_
                                                                  refine lv_iadd hx hb dL_law_958 ?_
                                                                  obtain ⟨hi212, h⟩ := gd_s h
                                                                  refine va_sld hx hb hX hbl hbA hw.2.2 hi212 dL_law_959 ?_
                                                                  obtain ⟨r213, f214, ef214, h⟩ := b2_s h
                                                                  refine h_callQ hw (va_runV (As := [.int (xs (y3 + 1).toNatClampNeg)]) (rest := []) ⟨hx, hb, hml, hown, hts⟩ (mX7_count l D ac (hB s.heap.size) shAll f (xs (y3 + 1).toNatClampNeg) r213 f214 pw2_ok ef214) (cwV 1 hts gl_X7_count rfl rfl rfl (by decide +kernel) ⟨Nat.le_of_ble_eq_true rfl, Nat.le_of_ble_eq_true rfl⟩) (h_preV hK hw pw2_ok.1 rfl _) rfl rfl hl.1 rfl (lv_room (Nat.le_of_ble_eq_true rfl)) dL_law_960 ⟨Nat.le_of_ble_eq_true rfl, Nat.le_of_ble_eq_true rfl⟩) (fun H locs hw => ?_)
                                                                  refine lv_aload_n hx hb dL_law_963 rfl (lv_at hl 2 rfl) ?_
                                                                  refine lv_aload_n hx hb dL_law_964 rfl (lv_at hl 0 rfl) ?_
                                                                  refine lv_iload_n hx hb dL_law_965 rfl (lv_at hl 3 rfl) ?_
                                                                  refine lv_iconst (v := 1) hx hb dL_law_966 (by decide) ?_
                                                                  refine lv_iadd hx hb dL_law_967 ?_
                                                                  obtain ⟨hi215, h⟩ := gd_s h
                                                                  refine va_sld hx hb hX hbl hbA hw.2.2 hi215 dL_law_968 ?_
                                                                  obtain ⟨r216, f217, ef217, h⟩ := b2_s h
                                                                  refine h_callQ hw (va_runV (As := [.int (xs (y3 + 1).toNatClampNeg)]) (rest := [.int r213]) ⟨hx, hb, hml, hown, hts⟩ (mX8_count l D ac (hB s.heap.size) shAll f214 (xs (y3 + 1).toNatClampNeg) r216 f217 mo_ok ef217) (cwV 1 hts gl_X8_count rfl rfl rfl (by decide +kernel) ⟨Nat.le_of_ble_eq_true rfl, Nat.le_of_ble_eq_true rfl⟩) (h_preV hK hw mo_ok.1 rfl _) rfl rfl hl.1 rfl (lv_room (Nat.le_of_ble_eq_true rfl)) dL_law_969 ⟨Nat.le_of_ble_eq_true rfl, Nat.le_of_ble_eq_true rfl⟩) (fun H locs hw => ?_)
                                                                  refine lv_icmp_eq (tgt := 977) hx hb dL_law_972 (by decide) (fun hc218 => ?_) (fun hc218 => ?_)
                                                                  · have h := it hc218 h
                                                                    refine lv_iinc (v := (y3 + 5)) (lv' := [(3, .int (y3 + 5)), (0, .ref b), (1, .ref (hB s.heap.size 0)), (2, .ref (hB s.heap.size 146))]) hx hb dL_law_977 hl (k := 3) rfl rfl (by decide) rfl (fun ls hl => ?_)
                                                                    refine lv_goto (tgt := 18) hx hb dL_law_980 (by decide) ?_
                                                                    exact ih f217 (y3 + 5) _ _ _ hw (lv_sub hl [1, 2, 3, 0] rfl) h
                                                                  · have h := ie hc218 h
                                                                    refine lv_iconst (v := 0) hx hb dL_law_975 (by decide) ?_
                                                                    exact absurd (Option.some.inj h) (by decide)
                                                                · have h := ie hc247 h
                                                                  refine lv_tableOut (tgt := 977) hx hb dL_law_32 (tbl_out 29 rfl (by decide) (fun k hk => match k, hk with | 0, _ => hc219 | 1, _ => hc220 | 2, _ => hc221 | 3, _ => hc222 | 4, _ => hc223 | 5, _ => hc224 | 6, _ => hc225 | 7, _ => hc226 | 8, _ => hc227 | 9, _ => hc228 | 10, _ => hc229 | 11, _ => hc230 | 12, _ => hc231 | 13, _ => hc232 | 14, _ => hc233 | 15, _ => hc234 | 16, _ => hc235 | 17, _ => hc236 | 18, _ => hc237 | 19, _ => hc238 | 20, _ => hc239 | 21, _ => hc240 | 22, _ => hc241 | 23, _ => hc242 | 24, _ => hc243 | 25, _ => hc244 | 26, _ => hc245 | 27, _ => hc246 | 28, _ => hc247 | n+29, hk => absurd hk (by omega))) (by decide) ?_
                                                                  refine lv_iinc (v := (y3 + 5)) (lv' := [(3, .int (y3 + 5)), (0, .ref b), (1, .ref (hB s.heap.size 0)), (2, .ref (hB s.heap.size 146))]) hx hb dL_law_977 hl (k := 3) rfl rfl (by decide) rfl (fun ls hl => ?_)
                                                                  refine lv_goto (tgt := 18) hx hb dL_law_980 (by decide) ?_
                                                                  exact ih f (y3 + 5) _ _ _ hw (lv_sub hl [1, 2, 3, 0] rfl) h
