/-! THE CLAIM OUT OF ONE WALK OF THE LAW'S BODY. Your part is whole_start (and what it stands on); all else here is the same for every law, but numbers. -/
def R_law : String := "PrisonWeddingsLaw"
def lw_P (b : Addr) (xs : List Int32) (args : Array Value) (s : State) : Prop := args = #[.ref b] ∧ s.IntsAt b xs ∧ xs.length ≤ 2560 ∧ (Jvm.Cond.and given_1 narrow_1).before args s = true
def lw_Q (_ : Array Value) (s : State) (o : Outcome) (t : State) : Prop := o = .returned (some (.int 1)) ∧ Framed s o t [] 600000 7302250
def lw_Z (below : List Frame) (a : Array Value) (s : State) : State → Prop := fun t => ∃ o, t.status = .running ∧ Ended t below o ∧ lw_Q a s o t
/-- the law's own end, with 1 on the stack, nothing written that was there before, its room as the claim has it -/
theorem lw_ret {p : Program} {l : Launch} {e : Env} {s : State} {m : MethodId} {below : List Frame} {meth : Method} {c : Code} {b : Nat} (hx : p.tables.exec = Jvm.exec) (hb : c.code = code) (hr : meth.sig.returnType = ret) (hlocks : meth.locks = false) {pc : Nat} {H : Heap} {ls : Array Slot} (hdg : decode code pc = .ok (.ireturn, 1)) : W p l e room_1 s m #[Value.ref b] below meth c H [] 600000 7302250 (lw_Z below #[Value.ref b] s) (F0 m pc ls [.int 1]) := by
  intro T hT X
  obtain ⟨fs, hret, hrun, hended, hW, hframe⟩ := X.leave (v := some (.int 1)) (hlocks := hlocks) (fun h => by rw [hr] at h; cases h)
  have hmeth' : T.vm.method? m = some meth := X.method'
  refine ⟨T.setFrames fs, ?_, .returned (some (.int 1)), hrun, hended, rfl, ⟨_, rfl⟩, hW, hframe⟩
  jvm_step X.here [X.here.top, hx, hb, hdg, hmeth', hr, ret, narrow_b1]
  (try refine ⟨rfl, ?_⟩); (try refine ⟨rfl, ?_⟩)
  first | (intro acts; rw [hret _ acts rfl rfl rfl]) | rw [hret _ _ rfl rfl rfl]
  exact Steps.refl _
/-- what holds at the law's entry: the machine, the code, the tables' words (any of lw_tbl by 'hts w (by decide +kernel)'), the script of L ints xs at the cell b, what the Statement gives of the start (any of its parts by flat_of_before) -/
def lw_At (p : Program) (s : State) (m : MethodId) (meth : Method) (c : Code) (b L : Nat) (xs : Nat → Int32) : Prop :=
  p.tables.exec = Jvm.exec ∧ c.code = code ∧ meth.sig.returnType = ret ∧ c.maxLocals = 4 ∧ s.vm.findClass R_law = some m.cls ∧ (∀ w ∈ lw_tbl, w.before #[Value.ref b] s = true) ∧ va_X b L xs s s.heap ∧ b < s.heap.size ∧ meth.locks = false ∧ (Jvm.Cond.and given_1 narrow_1).before #[Value.ref b] s = true
def LawPure : Prop := ∀ (xs : Nat → Int32) (L : Nat), L ≤ 2560 → ∃ g1 g2, fX7_init = some g1 ∧ (∀ j, 146 ≤ j → g1 j = fun _ => 0) ∧ fX8_init g1 = some g2 ∧ fL_law_18 xs L FU g2 0 = some 1
theorem tbl_out {x : Int32} (n : Nat) {hi : Int} (hhi : hi + 1 = (n : Int)) (hn : n < 1000) (h : ∀ k, k < n → ¬ x = nI k) : x.toInt < 0 ∨ hi < x.toInt := by
  by_cases h0 : x < 0
  · left
    simpa using Int32.lt_iff_toInt_lt.mp h0
  · obtain ⟨j, hj, rfl⟩ := nI_of h0
    right
    rw [nI_toInt hj]
    rcases Nat.lt_or_ge j n with q | q
    · exact absurd rfl (h j q)
    · omega
set_option maxRecDepth 20000 in
theorem pw2_ok : isPW shAll := ⟨by decide +kernel, ⟨by decide +kernel, by decide +kernel⟩, ⟨by decide +kernel, by decide +kernel, by decide +kernel, by decide +kernel, by decide +kernel, by decide +kernel, by decide +kernel, by decide +kernel⟩, ⟨by decide +kernel, by decide +kernel, by decide +kernel, by decide +kernel, by decide +kernel, by decide +kernel, by decide +kernel, by decide +kernel⟩, ⟨by decide +kernel, by decide +kernel, ⟨by decide +kernel, by decide +kernel, by decide +kernel, by decide +kernel, by decide +kernel, by decide +kernel, by decide +kernel, by decide +kernel⟩, ⟨by decide +kernel, by decide +kernel, by decide +kernel, by decide +kernel, by decide +kernel, by decide +kernel, by decide +kernel, by decide +kernel, by decide +kernel⟩, ⟨by decide +kernel, by decide +kernel, by decide +kernel, ⟨by decide +kernel, by decide +kernel, by decide +kernel, by decide +kernel, by decide +kernel, by decide +kernel, by decide +kernel, by decide +kernel, by decide +kernel⟩⟩⟩, ⟨by decide +kernel, by decide +kernel, ⟨by decide +kernel, by decide +kernel, by decide +kernel, by decide +kernel, by decide +kernel, by decide +kernel, by decide +kernel, by decide +kernel⟩, ⟨by decide +kernel, by decide +kernel, by decide +kernel, by decide +kernel, by decide +kernel, by decide +kernel, by decide +kernel, by decide +kernel, by decide +kernel⟩, ⟨by decide +kernel, by decide +kernel, by decide +kernel, ⟨by decide +kernel, by decide +kernel, by decide +kernel, by decide +kernel, by decide +kernel, by decide +kernel, by decide +kernel, by decide +kernel, by decide +kernel⟩⟩⟩, ⟨by decide +kernel, by decide +kernel, by decide +kernel, by decide +kernel, by decide +kernel⟩, ⟨by decide +kernel, by decide +kernel, fun i hi => by rcases (show i = 0 ∨ i = 1 ∨ i = 2 ∨ i = 3 ∨ i = 4 ∨ i = 5 ∨ i = 6 ∨ i = 7 by omega) with rfl | rfl | rfl | rfl | rfl | rfl | rfl | rfl <;> exact ⟨by decide +kernel, by decide +kernel, by decide +kernel, by decide +kernel, by decide +kernel, by decide +kernel, by decide +kernel, by decide +kernel, by decide +kernel⟩, by decide +kernel⟩, ⟨by decide +kernel, by decide +kernel, fun i hi => by rcases (show i = 0 ∨ i = 1 by omega) with rfl | rfl <;> exact ⟨by decide +kernel, by decide +kernel, by decide +kernel, by decide +kernel, by decide +kernel, by decide +kernel, by decide +kernel, by decide +kernel, by decide +kernel⟩, by decide +kernel⟩⟩
def stT : Term := .string "PrisonWeddings" 57
def stV : Term := .field stT "java/lang/String" "value" "[B"
theorem st_el : ∀ j, j < 75 → Cond.eq (.elem (.field (.string "PrisonWeddings" 57) "java/lang/String" "value" "[B") (.int (Int32.ofNat j))) (.int (txB.getD j 0)) ∈ flatC (Jvm.Cond.and given_1 narrow_1) := by decide +kernel
set_option maxRecDepth 20000 in
theorem st_start {args : Array Value} {s : State} (hgv : (Jvm.Cond.and given_1 narrow_1).before args s = true) (hts : ∀ w ∈ lw_tbl, w.before args s = true) : ∃ (q v : Nat) (w : Option Nat), vk_R RX7 57 txS q s ∧ hSt (hU s.heap.size) q v w s s.heap := by
  have hs := flat_of_before _ hgv
  have hA : ∀ a : Nat, a < s.heap.size → ¬ hU s.heap.size a := fun a h => Nat.not_le.mpr h
  obtain ⟨adK, adV, hS, he⟩ := vk_Sof (N := 1) (tm := fun _ => .string "PrisonWeddings" 57) (len := [75]) (byt := [txB]) (A := hU s.heap.size) (s := s) (args := args)
    (fun i hi => by obtain rfl : i = 0 := by omega
                    decide)
    (fun i hi => hs (Cond.exactly (.string "PrisonWeddings" 57) "java/lang/String") (by decide +kernel))
    (fun i hi => hs (Cond.eq (.field (.string "PrisonWeddings" 57) "java/lang/String" "coder" "B") (.int 0)) (by decide +kernel))
    (fun i hi => hs (Cond.arrayOf (.field (.string "PrisonWeddings" 57) "java/lang/String" "value" "[B") .byte) (by decide +kernel))
    (fun i hi => by obtain rfl : i = 0 := by omega
                    exact hs (Cond.eq (.length (.field (.string "PrisonWeddings" 57) "java/lang/String" "value" "[B")) (.int 75)) (by decide +kernel))
    (fun i hi j hj => by obtain rfl : i = 0 := by omega
                         exact hs _ (st_el j hj))
    (fun i j hi hj hij => absurd (show i = j by omega) hij) hA
  have hR : vk_R RX7 57 txS (adK 0) s := vk_R.of (hts _ wl_994) (he 0 (by omega))
  have hC := va_Zof (A := hU s.heap.size) (hts _ wl_1000) (hts _ wl_1001) (va_eqi (hs (Cond.eq (.static "java/lang/String" "COMPACT_STRINGS" "Z") (.int 1)) (by decide +kernel))) hA
  have hF := va_Zqof (A := hU s.heap.size) (hts _ wl_1002) (hts _ wl_1003) (hs (Cond.isRef (.static "jdk/internal/util/Preconditions" "SIOOBE_FORMATTER" "Ljava/util/function/BiFunction;")) (by decide +kernel)) hA
  obtain ⟨h1, h2, h3, h4⟩ := hS.1 0 (by omega)
  rcases hF with hF | ⟨t, hF⟩
  · exact ⟨adK 0, adV 0, none, hR, h1, h2, h3, h4, hC, hF⟩
  · exact ⟨adK 0, adV 0, some t, hR, h1, h2, h3, h4, hC, hF⟩
theorem x_pre {s : State} {H H0 : Heap} {locs : List Loc} {D : va_G} {ac : Nat → ClassId} {base q v : Nat} {w : Option Nat} {S : List hSh} {f : hF} (hN : hNs s) (hK : va_K D vwCl (hT ac) s) (hw : hOk D ac (hB base) S (hU base) H0 f H locs) (hsz : H.size = base + S.length) (hR : vk_R RX7 57 txS q s) (hZ : hSt (hU base) q v w s H) (As : List Value) : PreS s H (xPc D ac base q v w S f As) As :=
  ⟨fun a U g mk z => ⟨(n_pre (s := U) z.1.2.2.2.2 z.1.2.2.1 ⟨z.1.2.1, hD_free, va_S.rf⟩ z.1.2.2.2.1 As).1 a U g mk z.1, vk_R.same (u := U) (U := U.calling g mk a) rfl z.2.1, hSt_moved (u := U) (U := U.calling g mk a) (Vm.Alike.refl U.vm) z.2.2⟩, fun U hU hW => ⟨(n_pre hN hK hw hsz As).2 U hU hW, vk_R.warm hW hR, by subst hU; exact hSt_moved hW.alike hZ⟩⟩
