theorem ws_world {s : State} {args : Array Value} (hts : ∀ w ∈ lw_tbl, w.before args s = true) : ∃ (D : va_G) (ac : Nat → ClassId), va_K D vwCl (hT ac) s ∧ hNs s := by
  obtain ⟨c0, i0, k0⟩ := u_known (C := RX0) (T := TX0) (N := 9) (n := 9) hts wi_X0 (hts (.instantiable RX0 9) wl_71)
  obtain ⟨c1, i1, k1⟩ := u_known (C := RX1) (T := TX1) (N := 3) (n := 3) hts wi_X1 (hts (.instantiable RX1 3) wl_67)
  obtain ⟨c2, i2, k2⟩ := u_known (C := RX2) (T := TX2) (N := 4) (n := 4) hts wi_X2 (hts (.instantiable RX2 4) wl_11)
  obtain ⟨c3, i3, k3⟩ := u_known (C := RX3) (T := TX3) (N := 10) (n := 10) hts wi_X3 (hts (.instantiable RX3 10) wl_16)
  obtain ⟨c4, i4, k4⟩ := u_known (C := RX4) (T := TX4) (N := 2) (n := 2) hts wi_X4 (hts (.instantiable RX4 2) wl_20)
  obtain ⟨c5, i5, k5⟩ := u_known (C := RX5) (T := TX5) (N := 2) (n := 2) hts wi_X5 (hts (.instantiable RX5 2) wl_2)
  obtain ⟨c6, i6, k6⟩ := u_known (C := RX6) (T := TX6) (N := 5) (n := 5) hts wi_X6 (hts (.instantiable RX6 5) wl_6)
  obtain ⟨c7, i7, k7⟩ := u_known (C := RX7) (T := TX7) (N := 8) (n := 8) hts wi_X7 (hts (.instantiable RX7 8) wl_989)
  obtain ⟨c8, i8, k8⟩ := u_known (C := RX8) (T := TX8) (N := 27) (n := 27) hts wi_X8 (hts (.instantiable RX8 27) wl_990)
  obtain ⟨dC, dI, hKc⟩ : ∃ (dC : Nat → ClassId) (dI : Nat → Nat → Nat), ∀ (k : Nat) (q : vw_C), vwCl[k]? = some q → u_Kn s q.1 q.2.1 q.2.2 (dC k) (dI k) := by
    refine ⟨fun k => if k = 0 then c0 else if k = 1 then c1 else if k = 2 then c2 else if k = 3 then c3 else if k = 4 then c4 else if k = 5 then c5 else if k = 6 then c6 else if k = 7 then c7 else c8, fun k => if k = 0 then i0 else if k = 1 then i1 else if k = 2 then i2 else if k = 3 then i3 else if k = 4 then i4 else if k = 5 then i5 else if k = 6 then i6 else if k = 7 then i7 else i8, ?_⟩
    intro k q hq
    match k, hq with
    | 0, hq => cases hq; exact k0
    | 1, hq => cases hq; exact k1
    | 2, hq => cases hq; exact k2
    | 3, hq => cases hq; exact k3
    | 4, hq => cases hq; exact k4
    | 5, hq => cases hq; exact k5
    | 6, hq => cases hq; exact k6
    | 7, hq => cases hq; exact k7
    | 8, hq => cases hq; exact k8
    | k + 9, hq => simp [vwCl] at hq
  obtain ⟨a0, ka0, m0, p0, p1, p2⟩ := Cond.arrayClass_spec (hts (.arrayClass .int) wl_35)
  obtain ⟨a1, ka1, m1, r0, r1, r2⟩ := Cond.arrayClass_spec (hts (.arrayClass .char) wl_42)
  obtain ⟨a2, ka2, m2, t0, t1, t2⟩ := Cond.arrayClass_spec (hts (.arrayClass .boolean) wl_37)
  obtain ⟨m3, a3, ka3, u0, u1, u2, u3, u4⟩ := Cond.arrayOver_spec (hts (.arrayOver (.object "PrisonWeddings$Books")) wl_991)
  obtain ⟨ac, hac⟩ : ∃ ac : Nat → ClassId, ac 0 = a0 ∧ ac 1 = a1 ∧ ac 2 = a2 ∧ ac 3 = a3 := ⟨fun k => if k = 0 then a0 else if k = 1 then a1 else if k = 2 then a2 else a3, rfl, rfl, rfl, rfl⟩
  obtain ⟨rfl, rfl, rfl, rfl⟩ := hac
  have hK : va_K (dC, dI) vwCl (hT ac) s := by
    refine ⟨hKc, fun k q hq => ?_⟩
    match k, hq with
    | 0, hq => cases hq; exact ⟨fun n z => ⟨fun k h => (by cases h), ka0, p1, m0, p2⟩, p0⟩
    | 1, hq => cases hq; exact ⟨fun n z => ⟨fun k h => (by cases h), ka1, r1, m1, r2⟩, r0⟩
    | 2, hq => cases hq; exact ⟨fun n z => ⟨fun k h => (by cases h), ka2, t1, m2, t2⟩, t0⟩
    | 3, hq => cases hq; exact ⟨fun n z => ⟨fun k h => (by cases h), ka3, u2, m3, u3⟩, ka3, m3, u2, u3, u0, u4⟩
    | k + 4, hq => simp at hq
  have hN : hNs s := ⟨va_Nw.of rfl (hts _ wl_995), va_Nw.of rfl (hts _ wl_996), va_Nw.of rfl (hts _ wl_997), va_Nw.of rfl (hts _ wl_998), va_Nw.of rfl (hts _ wl_999), va_AO.of (hts _ wl_991)⟩
  exact ⟨(dC, dI), ac, hK, hN⟩
theorem vV {ad : Nat → Nat} {f : Nat → Int32} {fl : List (Option (Option Nat))} {j : Nat} {o : Option (Option Nat)} {v : Value} (h : fl[j]? = some o) (e : v = fV ad f j o) : v = vp_V (fl.mapIdx (fV ad f)) j := by
  rw [e]
  simp only [vp_V, List.getD_eq_getElem?_getD, h_field h, Option.getD_some]
theorem x8_d0 (base : Nat) : defaultValue (tyX8 0) = vp_V (List.mapIdx (fV (hB base) (fun _ => 0)) [none, some none, none, some none, none, some none, none, some none, none, some none, none, some none, some none, none, none, some none, none, some none, some none, none, some none, none, some none, some none, some none, some none, none]) 0 := vV (o := none) rfl rfl
theorem x8_d1 (base : Nat) : defaultValue (tyX8 1) = vp_V (List.mapIdx (fV (hB base) (fun _ => 0)) [none, some none, none, some none, none, some none, none, some none, none, some none, none, some none, some none, none, none, some none, none, some none, some none, none, some none, none, some none, some none, some none, some none, none]) 1 := vV (o := some none) rfl rfl
theorem x8_d2 (base : Nat) : defaultValue (tyX8 2) = vp_V (List.mapIdx (fV (hB base) (fun _ => 0)) [none, some none, none, some none, none, some none, none, some none, none, some none, none, some none, some none, none, none, some none, none, some none, some none, none, some none, none, some none, some none, some none, some none, none]) 2 := vV (o := none) rfl rfl
theorem x8_d3 (base : Nat) : defaultValue (tyX8 3) = vp_V (List.mapIdx (fV (hB base) (fun _ => 0)) [none, some none, none, some none, none, some none, none, some none, none, some none, none, some none, some none, none, none, some none, none, some none, some none, none, some none, none, some none, some none, some none, some none, none]) 3 := vV (o := some none) rfl rfl
theorem x8_d4 (base : Nat) : defaultValue (tyX8 4) = vp_V (List.mapIdx (fV (hB base) (fun _ => 0)) [none, some none, none, some none, none, some none, none, some none, none, some none, none, some none, some none, none, none, some none, none, some none, some none, none, some none, none, some none, some none, some none, some none, none]) 4 := vV (o := none) rfl rfl
theorem x8_d5 (base : Nat) : defaultValue (tyX8 5) = vp_V (List.mapIdx (fV (hB base) (fun _ => 0)) [none, some none, none, some none, none, some none, none, some none, none, some none, none, some none, some none, none, none, some none, none, some none, some none, none, some none, none, some none, some none, some none, some none, none]) 5 := vV (o := some none) rfl rfl
theorem x8_d6 (base : Nat) : defaultValue (tyX8 6) = vp_V (List.mapIdx (fV (hB base) (fun _ => 0)) [none, some none, none, some none, none, some none, none, some none, none, some none, none, some none, some none, none, none, some none, none, some none, some none, none, some none, none, some none, some none, some none, some none, none]) 6 := vV (o := none) rfl rfl
theorem x8_d7 (base : Nat) : defaultValue (tyX8 7) = vp_V (List.mapIdx (fV (hB base) (fun _ => 0)) [none, some none, none, some none, none, some none, none, some none, none, some none, none, some none, some none, none, none, some none, none, some none, some none, none, some none, none, some none, some none, some none, some none, none]) 7 := vV (o := some none) rfl rfl
theorem x8_d8 (base : Nat) : defaultValue (tyX8 8) = vp_V (List.mapIdx (fV (hB base) (fun _ => 0)) [none, some none, none, some none, none, some none, none, some none, none, some none, none, some none, some none, none, none, some none, none, some none, some none, none, some none, none, some none, some none, some none, some none, none]) 8 := vV (o := none) rfl rfl
theorem x8_d9 (base : Nat) : defaultValue (tyX8 9) = vp_V (List.mapIdx (fV (hB base) (fun _ => 0)) [none, some none, none, some none, none, some none, none, some none, none, some none, none, some none, some none, none, none, some none, none, some none, some none, none, some none, none, some none, some none, some none, some none, none]) 9 := vV (o := some none) rfl rfl
theorem x8_d10 (base : Nat) : defaultValue (tyX8 10) = vp_V (List.mapIdx (fV (hB base) (fun _ => 0)) [none, some none, none, some none, none, some none, none, some none, none, some none, none, some none, some none, none, none, some none, none, some none, some none, none, some none, none, some none, some none, some none, some none, none]) 10 := vV (o := none) rfl rfl
theorem x8_d11 (base : Nat) : defaultValue (tyX8 11) = vp_V (List.mapIdx (fV (hB base) (fun _ => 0)) [none, some none, none, some none, none, some none, none, some none, none, some none, none, some none, some none, none, none, some none, none, some none, some none, none, some none, none, some none, some none, some none, some none, none]) 11 := vV (o := some none) rfl rfl
theorem x8_d12 (base : Nat) : defaultValue (tyX8 12) = vp_V (List.mapIdx (fV (hB base) (fun _ => 0)) [none, some none, none, some none, none, some none, none, some none, none, some none, none, some none, some none, none, none, some none, none, some none, some none, none, some none, none, some none, some none, some none, some none, none]) 12 := vV (o := some none) rfl rfl
theorem x8_d13 (base : Nat) : defaultValue (tyX8 13) = vp_V (List.mapIdx (fV (hB base) (fun _ => 0)) [none, some none, none, some none, none, some none, none, some none, none, some none, none, some none, some none, none, none, some none, none, some none, some none, none, some none, none, some none, some none, some none, some none, none]) 13 := vV (o := none) rfl rfl
theorem x8_d14 (base : Nat) : defaultValue (tyX8 14) = vp_V (List.mapIdx (fV (hB base) (fun _ => 0)) [none, some none, none, some none, none, some none, none, some none, none, some none, none, some none, some none, none, none, some none, none, some none, some none, none, some none, none, some none, some none, some none, some none, none]) 14 := vV (o := none) rfl rfl
theorem x8_d15 (base : Nat) : defaultValue (tyX8 15) = vp_V (List.mapIdx (fV (hB base) (fun _ => 0)) [none, some none, none, some none, none, some none, none, some none, none, some none, none, some none, some none, none, none, some none, none, some none, some none, none, some none, none, some none, some none, some none, some none, none]) 15 := vV (o := some none) rfl rfl
theorem x8_d16 (base : Nat) : defaultValue (tyX8 16) = vp_V (List.mapIdx (fV (hB base) (fun _ => 0)) [none, some none, none, some none, none, some none, none, some none, none, some none, none, some none, some none, none, none, some none, none, some none, some none, none, some none, none, some none, some none, some none, some none, none]) 16 := vV (o := none) rfl rfl
theorem x8_d17 (base : Nat) : defaultValue (tyX8 17) = vp_V (List.mapIdx (fV (hB base) (fun _ => 0)) [none, some none, none, some none, none, some none, none, some none, none, some none, none, some none, some none, none, none, some none, none, some none, some none, none, some none, none, some none, some none, some none, some none, none]) 17 := vV (o := some none) rfl rfl
theorem x8_d18 (base : Nat) : defaultValue (tyX8 18) = vp_V (List.mapIdx (fV (hB base) (fun _ => 0)) [none, some none, none, some none, none, some none, none, some none, none, some none, none, some none, some none, none, none, some none, none, some none, some none, none, some none, none, some none, some none, some none, some none, none]) 18 := vV (o := some none) rfl rfl
theorem x8_d19 (base : Nat) : defaultValue (tyX8 19) = vp_V (List.mapIdx (fV (hB base) (fun _ => 0)) [none, some none, none, some none, none, some none, none, some none, none, some none, none, some none, some none, none, none, some none, none, some none, some none, none, some none, none, some none, some none, some none, some none, none]) 19 := vV (o := none) rfl rfl
theorem x8_d20 (base : Nat) : defaultValue (tyX8 20) = vp_V (List.mapIdx (fV (hB base) (fun _ => 0)) [none, some none, none, some none, none, some none, none, some none, none, some none, none, some none, some none, none, none, some none, none, some none, some none, none, some none, none, some none, some none, some none, some none, none]) 20 := vV (o := some none) rfl rfl
theorem x8_d21 (base : Nat) : defaultValue (tyX8 21) = vp_V (List.mapIdx (fV (hB base) (fun _ => 0)) [none, some none, none, some none, none, some none, none, some none, none, some none, none, some none, some none, none, none, some none, none, some none, some none, none, some none, none, some none, some none, some none, some none, none]) 21 := vV (o := none) rfl rfl
theorem x8_d22 (base : Nat) : defaultValue (tyX8 22) = vp_V (List.mapIdx (fV (hB base) (fun _ => 0)) [none, some none, none, some none, none, some none, none, some none, none, some none, none, some none, some none, none, none, some none, none, some none, some none, none, some none, none, some none, some none, some none, some none, none]) 22 := vV (o := some none) rfl rfl
theorem x8_d23 (base : Nat) : defaultValue (tyX8 23) = vp_V (List.mapIdx (fV (hB base) (fun _ => 0)) [none, some none, none, some none, none, some none, none, some none, none, some none, none, some none, some none, none, none, some none, none, some none, some none, none, some none, none, some none, some none, some none, some none, none]) 23 := vV (o := some none) rfl rfl
theorem x8_d24 (base : Nat) : defaultValue (tyX8 24) = vp_V (List.mapIdx (fV (hB base) (fun _ => 0)) [none, some none, none, some none, none, some none, none, some none, none, some none, none, some none, some none, none, none, some none, none, some none, some none, none, some none, none, some none, some none, some none, some none, none]) 24 := vV (o := some none) rfl rfl
theorem x8_d25 (base : Nat) : defaultValue (tyX8 25) = vp_V (List.mapIdx (fV (hB base) (fun _ => 0)) [none, some none, none, some none, none, some none, none, some none, none, some none, none, some none, some none, none, none, some none, none, some none, some none, none, some none, none, some none, some none, some none, some none, none]) 25 := vV (o := some none) rfl rfl
theorem x8_d26 (base : Nat) : defaultValue (tyX8 26) = vp_V (List.mapIdx (fV (hB base) (fun _ => 0)) [none, some none, none, some none, none, some none, none, some none, none, some none, none, some none, some none, none, none, some none, none, some none, some none, none, some none, none, some none, some none, some none, some none, none]) 26 := vV (o := none) rfl rfl
theorem x8_def (base : Nat) : ∀ j, j < 27 → defaultValue (tyX8 j) = vp_V (List.mapIdx (fV (hB base) (fun _ => 0)) [none, some none, none, some none, none, some none, none, some none, none, some none, none, some none, some none, none, none, some none, none, some none, some none, none, some none, none, some none, some none, some none, some none, none]) j := by
  intro j hj
  rcases (show j < 7 ∨ (7 ≤ j ∧ j < 14) ∨ (14 ≤ j ∧ j < 21) ∨ (21 ≤ j ∧ j < 27) by omega) with h | h | h | h
  · rcases (show j = 0 ∨ j = 1 ∨ j = 2 ∨ j = 3 ∨ j = 4 ∨ j = 5 ∨ j = 6 by omega) with rfl | rfl | rfl | rfl | rfl | rfl | rfl
    · exact x8_d0 base
    · exact x8_d1 base
    · exact x8_d2 base
    · exact x8_d3 base
    · exact x8_d4 base
    · exact x8_d5 base
    · exact x8_d6 base
  · rcases (show j = 7 ∨ j = 8 ∨ j = 9 ∨ j = 10 ∨ j = 11 ∨ j = 12 ∨ j = 13 by omega) with rfl | rfl | rfl | rfl | rfl | rfl | rfl
    · exact x8_d7 base
    · exact x8_d8 base
    · exact x8_d9 base
    · exact x8_d10 base
    · exact x8_d11 base
    · exact x8_d12 base
    · exact x8_d13 base
  · rcases (show j = 14 ∨ j = 15 ∨ j = 16 ∨ j = 17 ∨ j = 18 ∨ j = 19 ∨ j = 20 by omega) with rfl | rfl | rfl | rfl | rfl | rfl | rfl
    · exact x8_d14 base
    · exact x8_d15 base
    · exact x8_d16 base
    · exact x8_d17 base
    · exact x8_d18 base
    · exact x8_d19 base
    · exact x8_d20 base
  · rcases (show j = 21 ∨ j = 22 ∨ j = 23 ∨ j = 24 ∨ j = 25 ∨ j = 26 by omega) with rfl | rfl | rfl | rfl | rfl | rfl
    · exact x8_d21 base
    · exact x8_d22 base
    · exact x8_d23 base
    · exact x8_d24 base
    · exact x8_d25 base
    · exact x8_d26 base
