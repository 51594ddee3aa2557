set_option maxHeartbeats 32000000 in
set_option maxRecDepth 100000 in
theorem whole_start {p : Program} {e : Env} {s : State} {m : MethodId} {below : List Frame} {meth : Method} {c : Code} (l : Launch) (hflags : l.flags = flags0) {b L : Nat} {xs : Nat → Int32} (hL : L ≤ 2560) (C0 : lw_At p s m meth c b L xs) : W p l e room_1 s m #[Value.ref b] below meth c s.heap [] 0 0 (lw_Z below #[Value.ref b] s) (entryFrame m ([Value.ref b] : List Value).toArray 4) := by
  obtain ⟨hx, hb, hr, hml, hown, hts, hX, hbl, hlocks, hgv⟩ := id C0
  have hown : s.vm.findClass RL = some m.cls := hown
  have hbA : ¬ hU s.heap.size b := Nat.not_le.mpr hbl
  obtain ⟨q, v, w, hR, hZ⟩ := st_start hgv hts
  obtain ⟨g1, g2, hg1, hz1, hg2, hlaw⟩ := law_pure xs L hL
  obtain ⟨c0, i0, k0⟩ := u_known (C := RX0) (T := TX0) (N := 9) (n := 9) hts wi_X0 (hts (.instantiable RX0 9) wl_71)
  obtain ⟨c1, i1, k1⟩ := u_known (C := RX1) (T := TX1) (N := 3) (n := 3) hts wi_X1 (hts (.instantiable RX1 3) wl_67)
  obtain ⟨c2, i2, k2⟩ := u_known (C := RX2) (T := TX2) (N := 4) (n := 4) hts wi_X2 (hts (.instantiable RX2 4) wl_11)
  obtain ⟨c3, i3, k3⟩ := u_known (C := RX3) (T := TX3) (N := 10) (n := 10) hts wi_X3 (hts (.instantiable RX3 10) wl_16)
  obtain ⟨c4, i4, k4⟩ := u_known (C := RX4) (T := TX4) (N := 2) (n := 2) hts wi_X4 (hts (.instantiable RX4 2) wl_20)
  obtain ⟨c5, i5, k5⟩ := u_known (C := RX5) (T := TX5) (N := 2) (n := 2) hts wi_X5 (hts (.instantiable RX5 2) wl_2)
  obtain ⟨c6, i6, k6⟩ := u_known (C := RX6) (T := TX6) (N := 5) (n := 5) hts wi_X6 (hts (.instantiable RX6 5) wl_6)
  obtain ⟨c7, i7, k7⟩ := u_known (C := RX7) (T := TX7) (N := 8) (n := 8) hts wi_X7 (hts (.instantiable RX7 8) wl_989)
  obtain ⟨c8, i8, k8⟩ := u_known (C := RX8) (T := TX8) (N := 27) (n := 27) hts wi_X8 (hts (.instantiable RX8 27) wl_990)
  obtain ⟨dC, dI, hKc⟩ : ∃ (dC : Nat → ClassId) (dI : Nat → Nat → Nat), ∀ (k : Nat) (q : vw_C), vwCl[k]? = some q → u_Kn s q.1 q.2.1 q.2.2 (dC k) (dI k) := by
    refine ⟨fun k => if k = 0 then c0 else if k = 1 then c1 else if k = 2 then c2 else if k = 3 then c3 else if k = 4 then c4 else if k = 5 then c5 else if k = 6 then c6 else if k = 7 then c7 else c8, fun k => if k = 0 then i0 else if k = 1 then i1 else if k = 2 then i2 else if k = 3 then i3 else if k = 4 then i4 else if k = 5 then i5 else if k = 6 then i6 else if k = 7 then i7 else i8, ?_⟩
    intro k q hq
    match k, hq with
    | 0, hq => cases hq; exact k0
    | 1, hq => cases hq; exact k1
    | 2, hq => cases hq; exact k2
    | 3, hq => cases hq; exact k3
    | 4, hq => cases hq; exact k4
    | 5, hq => cases hq; exact k5
    | 6, hq => cases hq; exact k6
    | 7, hq => cases hq; exact k7
    | 8, hq => cases hq; exact k8
    | k + 9, hq => simp [vwCl] at hq
  obtain ⟨a0, ka0, m0, p0, p1, p2⟩ := Cond.arrayClass_spec (hts (.arrayClass .int) wl_35)
  obtain ⟨a1, ka1, m1, r0, r1, r2⟩ := Cond.arrayClass_spec (hts (.arrayClass .char) wl_42)
  obtain ⟨a2, ka2, m2, t0, t1, t2⟩ := Cond.arrayClass_spec (hts (.arrayClass .boolean) wl_37)
  obtain ⟨m3, a3, ka3, u0, u1, u2, u3, u4⟩ := Cond.arrayOver_spec (hts (.arrayOver (.object "PrisonWeddings$Books")) wl_991)
  obtain ⟨ac, hac⟩ : ∃ ac : Nat → ClassId, ac 0 = a0 ∧ ac 1 = a1 ∧ ac 2 = a2 ∧ ac 3 = a3 := ⟨fun k => if k = 0 then a0 else if k = 1 then a1 else if k = 2 then a2 else a3, rfl, rfl, rfl, rfl⟩
  obtain ⟨rfl, rfl, rfl, rfl⟩ := hac
  have hK : va_K (dC, dI) vwCl (hT ac) s := by
    refine ⟨hKc, fun k q hq => ?_⟩
    match k, hq with
    | 0, hq => cases hq; exact ⟨fun n z => ⟨fun k h => (by cases h), ka0, p1, m0, p2⟩, p0⟩
    | 1, hq => cases hq; exact ⟨fun n z => ⟨fun k h => (by cases h), ka1, r1, m1, r2⟩, r0⟩
    | 2, hq => cases hq; exact ⟨fun n z => ⟨fun k h => (by cases h), ka2, t1, m2, t2⟩, t0⟩
    | 3, hq => cases hq; exact ⟨fun n z => ⟨fun k h => (by cases h), ka3, u2, m3, u3⟩, ka3, m3, u2, u3, u0, u4⟩
    | k + 4, hq => simp at hq
  have hN : hNs s := ⟨va_Nw.of rfl (hts _ wl_995), va_Nw.of rfl (hts _ wl_996), va_Nw.of rfl (hts _ wl_997), va_Nw.of rfl (hts _ wl_998), va_Nw.of rfl (hts _ wl_999), va_AO.of (hts _ wl_991)⟩
  obtain ⟨D, hDD⟩ : ∃ D : va_G, D = (dC, dI) := ⟨_, rfl⟩
  rw [← hDD] at hK
  have hl := lv_entry ([.ref b]) (n := 4) (Nat.le_of_ble_eq_true rfl)
  rw [lg_entry_eq]
  generalize (lg_sl ([.ref b]) ++ List.replicate (4 - (lg_sl ([.ref b])).length) Slot.unset).toArray = ls at hl ⊢
  have hl : lv_has ls 4 [(0, .ref b)] := hl
  have hw : hOk D ac (hB s.heap.size) ([] : List hSh) (hU s.heap.size) s.heap f0 s.heap [] := ⟨fun k q h => by simp [hW] at h, hD_free, va_S.rf⟩
  refine n_newo (ci := 7) (fl := [some none, some none, some none, some none, some none, some none, some none, some none]) hx hb hts wi_X7 tyX7 tyX7_ok hown (hts _ wl_992) (hts _ wl_989) (hts _ wl_202) hK hw (Nn := 0) rfl rfl rfl rfl (fun j hj => by rcases (show j = 0 ∨ j = 1 ∨ j = 2 ∨ j = 3 ∨ j = 4 ∨ j = 5 ∨ j = 6 ∨ j = 7 by omega) with rfl | rfl | rfl | rfl | rfl | rfl | rfl | rfl <;> rfl) (Nat.le_of_ble_eq_true rfl) (Nat.le_of_ble_eq_true rfl) dL_law_0 (fun H hw => ?_)
  refine lv_dup hx hb dL_law_3 rfl ?_
  refine n_size (S0 := []) rfl hw rfl (Nat.le_of_ble_eq_true rfl) (fun hsz => ?_)
  refine n_call hw (va_runI (As := []) (rest := [.ref (hB s.heap.size 0)]) ⟨hx, hb, hml, hown, hts⟩ (nX7_init l D ac s.heap.size q v w g1 hg1) (cwI 0 hts gl_X7_init rfl rfl rfl (hts _ wl_202) (hts _ wl_200) (hts _ wl_201) rfl (by decide +kernel) ⟨Nat.le_of_ble_eq_true rfl, Nat.le_of_ble_eq_true rfl⟩) (x_pre hN hK hw hsz hR (hSt_kept hZ (fun a h1 h2 => hw.2.2.2.1 a h1 h2)) _) rfl rfl hl.1 rfl (lv_room (Nat.le_of_ble_eq_true rfl)) dL_law_4 ⟨Nat.le_of_ble_eq_true rfl, Nat.le_of_ble_eq_true rfl⟩) (fun H locs hw => ?_)
  refine lv_astore_n (lv' := [(1, .ref (hB s.heap.size 0)), (0, .ref b)]) hx hb dL_law_7 rfl hl (by decide) rfl (fun ls hl => ?_)
  refine n_size (S0 := []) rfl hw shPW_len (by rw [shPW_len]; decide) (fun hsz => ?_)
  refine n_newo (ci := 8) (fl := [none, some none, none, some none, none, some none, none, some none, none, some none, none, some none, some none, none, none, some none, none, some none, some none, none, some none, none, some none, some none, some none, some none, none]) hx hb hts wi_X8 tyX8 tyX8_ok hown (hts _ wl_993) (hts _ wl_990) (hts _ wl_247) hK hw (Nn := 146) shPW_len hsz (hz1 146 (Nat.le_refl _)) rfl (fun j hj => by rcases (show j = 0 ∨ j = 1 ∨ j = 2 ∨ j = 3 ∨ j = 4 ∨ j = 5 ∨ j = 6 ∨ j = 7 ∨ j = 8 ∨ j = 9 ∨ j = 10 ∨ j = 11 ∨ j = 12 ∨ j = 13 ∨ j = 14 ∨ j = 15 ∨ j = 16 ∨ j = 17 ∨ j = 18 ∨ j = 19 ∨ j = 20 ∨ j = 21 ∨ j = 22 ∨ j = 23 ∨ j = 24 ∨ j = 25 ∨ j = 26 by omega) with rfl | rfl | rfl | rfl | rfl | rfl | rfl | rfl | rfl | rfl | rfl | rfl | rfl | rfl | rfl | rfl | rfl | rfl | rfl | rfl | rfl | rfl | rfl | rfl | rfl | rfl | rfl <;> rfl) (Nat.le_of_ble_eq_true rfl) (Nat.le_of_ble_eq_true rfl) dL_law_8 (fun H hw => ?_)
  refine lv_dup hx hb dL_law_11 rfl ?_
  refine n_size (S0 := []) rfl hw (by rw [List.length_append, shPW_len]; rfl) (by rw [List.length_append, shPW_len]; decide) (fun hsz => ?_)
  refine n_call hw (va_runI (As := []) (rest := [.ref (hB s.heap.size 146)]) ⟨hx, hb, hml, hown, hts⟩ (nX8_init l D ac s.heap.size g1 hz1 g2 hg2) (cwI 0 hts gl_X8_init rfl rfl rfl (hts _ wl_247) (hts _ wl_249) (hts _ wl_250) rfl (by decide +kernel) ⟨Nat.le_of_ble_eq_true rfl, Nat.le_of_ble_eq_true rfl⟩) (n_pre hN hK hw hsz _) rfl rfl hl.1 rfl (lv_room (Nat.le_of_ble_eq_true rfl)) dL_law_12 ⟨Nat.le_of_ble_eq_true rfl, Nat.le_of_ble_eq_true rfl⟩) (fun H locs hw => ?_)
  refine lv_astore_n (lv' := [(2, .ref (hB s.heap.size 146)), (1, .ref (hB s.heap.size 0)), (0, .ref b)]) hx hb dL_law_15 rfl hl (by decide) rfl (fun ls hl => ?_)
  refine lv_iconst (v := 0) hx hb dL_law_16 (by decide) ?_
  refine lv_istore_n (lv' := [(3, .int 0), (2, .ref (hB s.heap.size 146)), (1, .ref (hB s.heap.size 0)), (0, .ref b)]) hx hb dL_law_17 rfl hl (by decide) rfl (fun ls hl => ?_)
  refine W.cs (cells' := 162) (slots' := 4081) rfl rfl ?_
  exact law_J18 l hx hb hr hml hown hts hX hbl hbA hlocks hK FU g2 0 _ _ _ hw (lv_sub hl [3, 2, 1, 0] rfl) hlaw
