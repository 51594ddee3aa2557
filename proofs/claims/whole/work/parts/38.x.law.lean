set_option maxHeartbeats 32000000 in
set_option maxRecDepth 100000 in
theorem whole_start (hLP : LawPure) {p : Program} {e : Env} {s : State} {m : MethodId} {below : List Frame} {meth : Method} {c : Code} (l : Launch) (hflags : l.flags = flags0) {b L : Nat} {xs : Nat → Int32} (hL : L ≤ 2560) (C0 : lw_At p s m meth c b L xs) : W p l e room_1 s m #[Value.ref b] below meth c s.heap [] 0 0 (lw_Z below #[Value.ref b] s) (entryFrame m ([Value.ref b] : List Value).toArray 4) := by
  obtain ⟨hx, hb, hr, hml, hown, hts, hX, hbl, hlocks, hgv⟩ := id C0
  have hown : s.vm.findClass RL = some m.cls := hown
  have hbA : ¬ hU s.heap.size b := Nat.not_le.mpr hbl
  obtain ⟨q, v, w, hR, hZ⟩ := st_start hgv hts
  obtain ⟨g1, g2, hg1, hz1, hg2, hlaw⟩ := hLP xs L hL
  obtain ⟨D, ac, hK, hN⟩ := ws_world hts
  have hl := lv_entry ([.ref b]) (n := 4) (Nat.le_of_ble_eq_true rfl)
  rw [lg_entry_eq]
  generalize (lg_sl ([.ref b]) ++ List.replicate (4 - (lg_sl ([.ref b])).length) Slot.unset).toArray = ls at hl ⊢
  have hl : lv_has ls 4 [(0, .ref b)] := hl
  have hw : hOk D ac (hB s.heap.size) ([] : List hSh) (hU s.heap.size) s.heap f0 s.heap [] := ⟨fun k q h => by simp [hW] at h, hD_free, va_S.rf⟩
  refine n_newo (ci := 7) (fl := [some none, some none, some none, some none, some none, some none, some none, some none]) hx hb hts wi_X7 tyX7 tyX7_ok hown (hts _ wl_992) (hts _ wl_989) (hts _ wl_202) hK hw (Nn := 0) rfl rfl rfl rfl (fun j hj => by rcases (show j = 0 ∨ j = 1 ∨ j = 2 ∨ j = 3 ∨ j = 4 ∨ j = 5 ∨ j = 6 ∨ j = 7 by omega) with rfl | rfl | rfl | rfl | rfl | rfl | rfl | rfl <;> rfl) (Nat.le_of_ble_eq_true rfl) (Nat.le_of_ble_eq_true rfl) dL_law_0 (fun H hw => ?_)
  refine lv_dup hx hb dL_law_3 rfl ?_
  refine n_size (S0 := []) rfl hw rfl (Nat.le_of_ble_eq_true rfl) (fun hsz => ?_)
  refine n_call hw (va_runI (As := []) (rest := [.ref (hB s.heap.size 0)]) ⟨hx, hb, hml, hown, hts⟩ (nX7_init l D ac s.heap.size q v w g1 hg1) (cwI 0 hts gl_X7_init rfl rfl rfl (hts _ wl_202) (hts _ wl_200) (hts _ wl_201) rfl (by decide +kernel) ⟨Nat.le_of_ble_eq_true rfl, Nat.le_of_ble_eq_true rfl⟩) (x_pre hN hK hw hsz hR (hSt_kept hZ (fun a h1 h2 => hw.2.2.2.1 a h1 h2)) _) rfl rfl hl.1 rfl (lv_room (Nat.le_of_ble_eq_true rfl)) dL_law_4 ⟨Nat.le_of_ble_eq_true rfl, Nat.le_of_ble_eq_true rfl⟩) (fun H locs hw => ?_)
  refine lv_astore_n (lv' := [(1, .ref (hB s.heap.size 0)), (0, .ref b)]) hx hb dL_law_7 rfl hl (by decide) rfl (fun ls hl => ?_)
  refine n_size (S0 := []) rfl hw shPW_len (by rw [shPW_len]; decide) (fun hsz => ?_)
  refine n_newo (ci := 8) (fl := [none, some none, none, some none, none, some none, none, some none, none, some none, none, some none, some none, none, none, some none, none, some none, some none, none, some none, none, some none, some none, some none, some none, none]) hx hb hts wi_X8 tyX8 tyX8_ok hown (hts _ wl_993) (hts _ wl_990) (hts _ wl_247) hK hw (Nn := 146) shPW_len hsz (hz1 146 (Nat.le_refl _)) rfl (x8_def s.heap.size) (Nat.le_of_ble_eq_true rfl) (Nat.le_of_ble_eq_true rfl) dL_law_8 (fun H hw => ?_)
  refine lv_dup hx hb dL_law_11 rfl ?_
  refine n_size (S0 := []) rfl hw (by rw [List.length_append, shPW_len]; rfl) (by rw [List.length_append, shPW_len]; decide) (fun hsz => ?_)
  refine n_call hw (va_runI (As := []) (rest := [.ref (hB s.heap.size 146)]) ⟨hx, hb, hml, hown, hts⟩ (nX8_init l D ac s.heap.size g1 hz1 g2 hg2) (cwI 0 hts gl_X8_init rfl rfl rfl (hts _ wl_247) (hts _ wl_249) (hts _ wl_250) rfl (by decide +kernel) ⟨Nat.le_of_ble_eq_true rfl, Nat.le_of_ble_eq_true rfl⟩) (n_pre hN hK hw hsz _) rfl rfl hl.1 rfl (lv_room (Nat.le_of_ble_eq_true rfl)) dL_law_12 ⟨Nat.le_of_ble_eq_true rfl, Nat.le_of_ble_eq_true rfl⟩) (fun H locs hw => ?_)
  refine lv_astore_n (lv' := [(2, .ref (hB s.heap.size 146)), (1, .ref (hB s.heap.size 0)), (0, .ref b)]) hx hb dL_law_15 rfl hl (by decide) rfl (fun ls hl => ?_)
  refine lv_iconst (v := 0) hx hb dL_law_16 (by decide) ?_
  refine lv_istore_n (lv' := [(3, .int 0), (2, .ref (hB s.heap.size 146)), (1, .ref (hB s.heap.size 0)), (0, .ref b)]) hx hb dL_law_17 rfl hl (by decide) rfl (fun ls hl => ?_)
  refine W.cs (cells' := 162) (slots' := 4081) rfl rfl ?_
  exact law_J18 l hx hb hr hml hown hts hX hbl hbA hlocks hK FU g2 0 _ _ _ hw (lv_sub hl [3, 2, 1, 0] rfl) hlaw
