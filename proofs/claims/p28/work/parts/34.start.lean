/-! THE START OF THE LAW: the first world -/
def adr (l : List Nat) (tL tM b : Nat) : Nat → Nat := fun k => if k < 37 then l.getD k 0 else if k = 100 then tL else if k = 101 then tM else b
def a0 : Nat → Nat → Int32 := fun p => if p = 12 then va_cpy nv (fun _ => 0) 0 5 5 else fun _ => 0
def σ0 : SS := (a0, fun _ => 0, 0)
theorem a0_12 (k : Nat) : a0 12 k = if 5 ≤ k ∧ k < 10 then nv (k - 5) else 0 := by
  show va_cpy nv (fun _ => 0) 0 5 5 k = _
  unfold va_cpy
  by_cases h : 5 ≤ k ∧ k < 10
  · rw [if_pos h, if_pos (by omega), Nat.zero_add]
  · rw [if_neg h, if_neg (by omega)]
theorem a0_s (k : Nat) (h : k < 5) : a0 12 (5 + k) = nv k := by
  rw [a0_12, if_pos (by omega), Nat.add_sub_cancel_left]
theorem ST0 : ST σ0 (a0 12) (a0 31) 0 0 0 (fun _ _ => 0) := ⟨rfl, rfl, by omega, by omega, ⟨by omega, rfl, rfl, rfl, fun j hj => absurd hj (by omega)⟩⟩
theorem KK0 : KK (a0 12) 0 0 := by
  have z : ∀ k, k < 5 → a0 12 k = nI 0 := fun k hk => (a0_12 k).trans (if_neg (by omega))
  exact ⟨⟨z 0 (by omega), by omega, z 1 (by omega), by omega, z 2 (by omega), by omega, fun j hj => absurd hj (by omega), fun j hj => absurd hj (by omega), ⟨70, by omega, by omega, a0_s 0 (by omega)⟩, fun j hj => absurd hj (by omega)⟩, z 3 (by omega), ⟨10, by omega, a0_s 1 (by omega)⟩, ⟨30, by omega, a0_s 2 (by omega)⟩, z 4 (by omega), fun j hj => absurd hj (by omega), fun j hj => absurd hj (by omega)⟩
theorem dcL_0 : decode cL_law 0 = .ok (.new 9, 3) := by decide +kernel
theorem dcL_3 : decode cL_law 3 = .ok (.dup, 1) := by decide +kernel
theorem dcL_4 : decode cL_law 4 = .ok (.invokespecial 39, 3) := by decide +kernel
theorem dcL_7 : decode cL_law 7 = .ok (.astore_n 1, 1) := by decide +kernel
/-! THE CLAIM OUT OF ONE WALK OF THE LAW'S BODY. Your part is whole_start (and what it stands on); all else here is the same for every law, but numbers. -/
def R_law : String := "PhrasePoolLaw"
def lw_P (b : Addr) (xs : List Int32) (args : Array Value) (s : State) : Prop := args = #[.ref b] ∧ s.IntsAt b xs ∧ xs.length ≤ 260 ∧ (Jvm.Cond.and given_1 narrow_1).before args s = true
def lw_Q (_ : Array Value) (s : State) (o : Outcome) (t : State) : Prop := o = .returned (some (.int 1)) ∧ Framed s o t [] 600000 7302250
def lw_Z (below : List Frame) (a : Array Value) (s : State) : State → Prop := fun t => ∃ o, t.status = .running ∧ Ended t below o ∧ lw_Q a s o t
/-- the law's own end, with 1 on the stack, nothing written that was there before, its room as the claim has it -/
theorem lw_ret {p : Program} {l : Launch} {e : Env} {s : State} {m : MethodId} {below : List Frame} {meth : Method} {c : Code} {b : Nat} (hx : p.tables.exec = Jvm.exec) (hb : c.code = code) (hr : meth.sig.returnType = ret) (hlocks : meth.locks = false) {pc : Nat} {H : Heap} {ls : Array Slot} (hdg : decode code pc = .ok (.ireturn, 1)) : W p l e room_1 s m #[Value.ref b] below meth c H [] 600000 7302250 (lw_Z below #[Value.ref b] s) (F0 m pc ls [.int 1]) := by
  intro T hT X
  obtain ⟨fs, hret, hrun, hended, hW, hframe⟩ := X.leave (v := some (.int 1)) (hlocks := hlocks) (fun h => by rw [hr] at h; cases h)
  have hmeth' : T.vm.method? m = some meth := X.method'
  refine ⟨T.setFrames fs, ?_, .returned (some (.int 1)), hrun, hended, rfl, ⟨_, rfl⟩, hW, hframe⟩
  jvm_step X.here [X.here.top, hx, hb, hdg, hmeth', hr, ret, narrow_b1]
  (try refine ⟨rfl, ?_⟩); (try refine ⟨rfl, ?_⟩)
  first | (intro acts; rw [hret _ acts rfl rfl rfl]) | rw [hret _ _ rfl rfl rfl]
  exact Steps.refl _
/-- what holds at the law's entry: the machine, the code, the tables' words (any of lw_tbl by 'hts w (by decide +kernel)'), the script of L ints xs at the cell b, what the Statement gives of the start (any of its parts by flat_of_before) -/
def lw_At (p : Program) (s : State) (m : MethodId) (meth : Method) (c : Code) (b L : Nat) (xs : Nat → Int32) : Prop :=
  p.tables.exec = Jvm.exec ∧ c.code = code ∧ meth.sig.returnType = ret ∧ c.maxLocals = 20 ∧ s.vm.findClass R_law = some m.cls ∧ (∀ w ∈ lw_tbl, w.before #[Value.ref b] s = true) ∧ va_X b L xs s s.heap ∧ b < s.heap.size ∧ meth.locks = false ∧ (Jvm.Cond.and given_1 narrow_1).before #[Value.ref b] s = true
-- ===== YOUR PART BEGINS =====
set_option maxHeartbeats 4000000 in
set_option maxRecDepth 100000 in
theorem whole_start {p : Program} {e : Env} {s : State} {m : MethodId} {below : List Frame} {meth : Method} {c : Code} (l : Launch) (hflags : l.flags = flags0) {b L : Nat} {xs : Nat → Int32} (hL : L ≤ 260) (C0 : lw_At p s m meth c b L xs) : W p l e room_1 s m #[Value.ref b] below meth c s.heap [] 0 0 (lw_Z below #[Value.ref b] s) (entryFrame m ([Value.ref b] : List Value).toArray 20) := by
  obtain ⟨hx, hb, hr, hml, hown, hts0, hX, hbl, hlocks, hgv⟩ := C0
  have hts : ∀ w ∈ g_tbl, w.before #[Value.ref b] s = true := g_hts hts0
  have hN := n_hts hts0
  have hO : AOA s := AOA.of (hts0 (.arrayOver (.array .int)) (List.mem_of_getElem? (i := 124) (by decide +kernel)))
  obtain ⟨d0, e0, k0⟩ := u_known (C := RX0) (T := TX0) (N := 3) (n := 3) hts inw_0 (hts (.instantiable RX0 3) (g_mem 151 (by decide +kernel) (by decide +kernel)))
  obtain ⟨d1, e1, k1⟩ := u_known (C := RX1) (T := TX1) (N := 2) (n := 2) hts inw_1 (hts (.instantiable RX1 2) (g_mem 100 (by decide +kernel) (by decide +kernel)))
  obtain ⟨d2, e2, k2⟩ := u_known (C := RX2) (T := TX2) (N := 5) (n := 5) hts inw_2 (hts (.instantiable RX2 5) (g_mem 94 (by decide +kernel) (by decide +kernel)))
  obtain ⟨d3, e3, k3⟩ := u_known (C := RX3) (T := TX3) (N := 2) (n := 2) hts inw_3 (hts (.instantiable RX3 2) (g_mem 169 (by decide +kernel) (by decide +kernel)))
  obtain ⟨d4, e4, k4⟩ := u_known (C := RX4) (T := TX4) (N := 5) (n := 5) hts inw_4 (hts (.instantiable RX4 5) (g_mem 185 (by decide +kernel) (by decide +kernel)))
  obtain ⟨d5, e5, k5⟩ := u_known (C := RX5) (T := TX5) (N := 1) (n := 1) hts inw_5 (hts (.instantiable RX5 1) (g_mem 118 (by decide +kernel) (by decide +kernel)))
  obtain ⟨d6, e6, k6⟩ := u_known (C := RX6) (T := TX6) (N := 5) (n := 5) hts inw_6 (hts (.instantiable RX6 5) (g_mem 86 (by decide +kernel) (by decide +kernel)))
  obtain ⟨cI, kI, pI, fI, gI, nI'⟩ := Cond.arrayClass_spec (hts (.arrayClass .int) (g_mem 115 (by decide +kernel) (by decide +kernel)))
  obtain ⟨cZ, kZ, pZ, fZ, gZ, nZ'⟩ := Cond.arrayClass_spec (hts (.arrayClass .boolean) (g_mem 116 (by decide +kernel) (by decide +kernel)))
  obtain ⟨pII, cII, kII, fII0, -, gII, nII', fII⟩ := hO.spec
  let D : va_G := (fun k => match k with | 0 => d0 | 1 => d1 | 2 => d2 | 3 => d3 | 4 => d4 | 5 => d5 | _ => d6, fun k => match k with | 0 => e0 | 1 => e1 | 2 => e2 | 3 => e3 | 4 => e4 | 5 => e5 | _ => e6)
  have hK : KA D cI cZ cII s := by
    refine ⟨fun c q hq => ?_, fun k q hq => ?_⟩
    · rcases c with _ | _ | _ | _ | _ | _ | _ | c
      · cases hq; exact k0
      · cases hq; exact k1
      · cases hq; exact k2
      · cases hq; exact k3
      · cases hq; exact k4
      · cases hq; exact k5
      · cases hq; exact k6
      · cases hq
    · rcases k with _ | _ | _ | k
      · cases hq; exact ⟨fun n z => ⟨fun k h => (by cases h), kI, gI, pI, nI'⟩, fI⟩
      · cases hq; exact ⟨fun n z => ⟨fun k h => (by cases h), kZ, gZ, pZ, nZ'⟩, fZ⟩
      · cases hq; exact ⟨fun n z => ⟨fun k h => (by cases h), kII, gII, pII, nII'⟩, fII⟩
      · cases hq
  have hf := flat_of_before _ hgv
  have hAn : ∀ a : Nat, a < s.heap.size → ¬ (fun q : Nat => s.heap.size ≤ q) a := fun a h z => absurd h (Nat.not_lt.mpr z)
  obtain ⟨tN, evtN, TtN⟩ := va_Tof (tm := .static "PhrasePool" "NEW_VALUES" "[I") (ty := .int) (N := 5) (f := fun i => .int (nv i)) (A := fun q => s.heap.size ≤ q) (by decide) (hf (.arrayOf (.static "PhrasePool" "NEW_VALUES" "[I") .int) (by decide +kernel)) (va_eqt (hf (.eq (.length (.static "PhrasePool" "NEW_VALUES" "[I")) (.int 5)) (by decide +kernel))) (fun j hj => by
    rcases (show j = 0 ∨ j = 1 ∨ j = 2 ∨ j = 3 ∨ j = 4 by omega) with rfl | rfl | rfl | rfl | rfl
    · exact va_eqt (hf (.eq (.elem (.static "PhrasePool" "NEW_VALUES" "[I") (.int 0)) (.int 70)) (by decide +kernel))
    · exact va_eqt (hf (.eq (.elem (.static "PhrasePool" "NEW_VALUES" "[I") (.int 1)) (.int 10)) (by decide +kernel))
    · exact va_eqt (hf (.eq (.elem (.static "PhrasePool" "NEW_VALUES" "[I") (.int 2)) (.int 30)) (by decide +kernel))
    · exact va_eqt (hf (.eq (.elem (.static "PhrasePool" "NEW_VALUES" "[I") (.int 3)) (.int 10)) (by decide +kernel))
    · exact va_eqt (hf (.eq (.elem (.static "PhrasePool" "NEW_VALUES" "[I") (.int 4)) (.int 80)) (by decide +kernel))) hAn
  have ZtN := va_Zof (A := fun q => s.heap.size ≤ q) (hts0 (.laysStatic "PhrasePool" "NEW_VALUES" "[I") (List.mem_of_getElem? (i := 130) (by decide +kernel))) (hts (.initialized "PhrasePool") (g_mem 76 (by decide +kernel) (by decide +kernel))) evtN hAn
  obtain ⟨tL, evtL, TtL⟩ := va_Tof (tm := .static "PhrasePool" "LEAST_VALUES" "[I") (ty := .int) (N := 5) (f := fun i => .int (lst 100 i)) (A := fun q => s.heap.size ≤ q) (by decide) (hf (.arrayOf (.static "PhrasePool" "LEAST_VALUES" "[I") .int) (by decide +kernel)) (va_eqt (hf (.eq (.length (.static "PhrasePool" "LEAST_VALUES" "[I")) (.int 5)) (by decide +kernel))) (fun j hj => by
    rcases (show j = 0 ∨ j = 1 ∨ j = 2 ∨ j = 3 ∨ j = 4 by omega) with rfl | rfl | rfl | rfl | rfl
    · exact va_eqt (hf (.eq (.elem (.static "PhrasePool" "LEAST_VALUES" "[I") (.int 0)) (.int 1)) (by decide +kernel))
    · exact va_eqt (hf (.eq (.elem (.static "PhrasePool" "LEAST_VALUES" "[I") (.int 1)) (.int 0)) (by decide +kernel))
    · exact va_eqt (hf (.eq (.elem (.static "PhrasePool" "LEAST_VALUES" "[I") (.int 2)) (.int 0)) (by decide +kernel))
    · exact va_eqt (hf (.eq (.elem (.static "PhrasePool" "LEAST_VALUES" "[I") (.int 3)) (.int 0)) (by decide +kernel))
    · exact va_eqt (hf (.eq (.elem (.static "PhrasePool" "LEAST_VALUES" "[I") (.int 4)) (.int 1)) (by decide +kernel))) hAn
  have ZtL := va_Zof (A := fun q => s.heap.size ≤ q) (hts0 (.laysStatic "PhrasePool" "LEAST_VALUES" "[I") (List.mem_of_getElem? (i := 285) (by decide +kernel))) (hts (.initialized "PhrasePool") (g_mem 76 (by decide +kernel) (by decide +kernel))) evtL hAn
  obtain ⟨tM, evtM, TtM⟩ := va_Tof (tm := .static "PhrasePool" "MOST_VALUES" "[I") (ty := .int) (N := 5) (f := fun i => .int (lst 101 i)) (A := fun q => s.heap.size ≤ q) (by decide) (hf (.arrayOf (.static "PhrasePool" "MOST_VALUES" "[I") .int) (by decide +kernel)) (va_eqt (hf (.eq (.length (.static "PhrasePool" "MOST_VALUES" "[I")) (.int 5)) (by decide +kernel))) (fun j hj => by
    rcases (show j = 0 ∨ j = 1 ∨ j = 2 ∨ j = 3 ∨ j = 4 by omega) with rfl | rfl | rfl | rfl | rfl
    · exact va_eqt (hf (.eq (.elem (.static "PhrasePool" "MOST_VALUES" "[I") (.int 0)) (.int 100)) (by decide +kernel))
    · exact va_eqt (hf (.eq (.elem (.static "PhrasePool" "MOST_VALUES" "[I") (.int 1)) (.int 50)) (by decide +kernel))
    · exact va_eqt (hf (.eq (.elem (.static "PhrasePool" "MOST_VALUES" "[I") (.int 2)) (.int 80)) (by decide +kernel))
    · exact va_eqt (hf (.eq (.elem (.static "PhrasePool" "MOST_VALUES" "[I") (.int 3)) (.int 100)) (by decide +kernel))
    · exact va_eqt (hf (.eq (.elem (.static "PhrasePool" "MOST_VALUES" "[I") (.int 4)) (.int 100)) (by decide +kernel))) hAn
  have ZtM := va_Zof (A := fun q => s.heap.size ≤ q) (hts0 (.laysStatic "PhrasePool" "MOST_VALUES" "[I") (List.mem_of_getElem? (i := 287) (by decide +kernel))) (hts (.initialized "PhrasePool") (g_mem 76 (by decide +kernel) (by decide +kernel))) evtM hAn
  have hA : ∀ q : Nat, s.heap.size ≤ q → (fun q : Nat => s.heap.size ≤ q) q := fun q h => h
  generalize hAe : (fun q : Nat => s.heap.size ≤ q) = A at hA TtN TtL TtM ZtN ZtL ZtM hAn
  have hS : va_S A s.heap s.heap [] := va_S.rf
  have hP : va_P D vwCl [] s.heap := fun k q h => by cases h
  have hD : va_D A [] := ⟨fun i j p q h => (by cases h), fun k q h => (by cases h)⟩
  have hl := lv_entry ([.ref b]) (n := 20) (Nat.le_of_ble_eq_true rfl)
  rw [lg_entry_eq]
  generalize (lg_sl ([.ref b]) ++ List.replicate (20 - (lg_sl ([.ref b])).length) Slot.unset).toArray = ls at hl ⊢
  have hl : lv_has ls 20 [(0, .ref b)] := hl
  refine va_new (ci := 6) (fs := [.null, .null, .null, .null, .null]) (C := RX6) (T := TX6) (N := 5) hx hb hts inw_6 tyX6 tyX6_ok hown (hts (.classLink R_law 9 RX6) (g_mem 85 (by decide +kernel) (by decide +kernel))) (hts (.instantiable RX6 5) (g_mem 86 (by decide +kernel) (by decide +kernel))) (hts (.initialized RX6) (g_mem 76 (by decide +kernel) (by decide +kernel))) hK hP hD hS hA rfl (fun j hj => by rcases (show j = 0 ∨ j = 1 ∨ j = 2 ∨ j = 3 ∨ j = 4 by omega) with rfl | rfl | rfl | rfl | rfl <;> rfl) (Nat.le_of_ble_eq_true rfl) (Nat.le_of_ble_eq_true rfl) dcL_0 (fun oP H hP hD hS => ?_)
  have hP : va_P D vwCl [(oP, .inr (6, [.null, .null, .null, .null, .null]))] H := hP
  have hD : va_D A [(oP, .inr (6, [.null, .null, .null, .null, .null]))] := hD
  refine W.widen (k := 1) (n := 5) (Nat.le_of_ble_eq_true rfl) (Nat.le_of_ble_eq_true rfl) ?_
  refine lv_dup hx hb dcL_3 rfl ?_
  have hPc := hP.sub (ws' := [(oP, .inr (6, [.null, .null, .null, .null, .null]))]) [0] rfl
  have hDc := hD.sub (ws' := [(oP, .inr (6, [.null, .null, .null, .null, .null]))]) [0] (by decide) rfl
  have hFc := va_free (wc := [(oP, .inr (6, [.null, .null, .null, .null, .null]))]) hD hS hA [0] rfl
  refine va_callv (va_runI (As := []) (rest := [.ref oP]) ⟨hx, hb, hml, hown, hts⟩ (cI6 l D cI cZ cII tN oP H.size) ⟨callB_of 0 hts (good_c (g_mem 89 (by decide +kernel) (by decide +kernel))) rfl rfl rfl (hts (.initialized RX6) (g_mem 76 (by decide +kernel) (by decide +kernel))) (hts (.methodLink R_law 39 yX6_init) (g_mem 87 (by decide +kernel) (by decide +kernel))) ⟨by decide +kernel, by decide +kernel, by decide +kernel⟩ ⟨(Nat.le_of_ble_eq_true rfl), (Nat.le_of_ble_eq_true rfl)⟩, rfl, hts (.instanceMethod yX6_init) (g_mem 88 (by decide +kernel) (by decide +kernel))⟩ ⟨IS_blind, fun U hU hW => ⟨rfl, ⟨by rw [hU], by rw [hU]; exact hPc, va_K.moved hW.alike hK, hDc.weaken (fun _ _ _ _ => trivial), n_warm hW hN, AOA.moved hW.alike hO⟩, by rw [hU]; exact ((va_Z.kept ZtN hS.2.1).moved hW.alike).narrow hFc, by rw [hU]; exact ((va_T.kept TtN hS.2.1).moved hW.alike).narrow hFc⟩⟩ rfl rfl hl.1 rfl (lv_room (Nat.le_of_ble_eq_true rfl)) dcL_4 ⟨(Nat.le_of_ble_eq_true rfl), (Nat.le_of_ble_eq_true rfl)⟩) hS (fun q _ h => hFc q h) hFc (fun w t H1 locs ht hvm hw hB hz1 hk1 hS => ?_)
  obtain ⟨p_o5, p_o5_q8, p_o5_q16, p_o5_o22, p_o5_o22_q7, p_o5_o33, p_o5_o33_q7, p_o5_o44, p_o5_o44_q9, p_o5_o44_r, p_o16, p_o16_q9, p_o16_r, p_o27, p_o27_q7, p_o38, p_o38_q7, p_o49, p_o49_q7, p_o49_q15, p_o49_q23, p_o49_q31, rfl⟩ := hw
  obtain ⟨hP1, hD1⟩ := hB
  rw [ht] at hP1
  obtain ⟨hP, hD⟩ := va_join (wr := []) (w1 := [(oP, .inr (6, [.ref p_o5, .ref p_o16, .ref p_o27, .ref p_o38, .ref p_o49])), (p_o5, .inr (2, [.ref p_o5_q8, .ref p_o5_q16, .ref p_o5_o22, .ref p_o5_o33, .ref p_o5_o44])), (p_o5_q8, .inl (cI, 654, .inl (va_cpy nv (fun _ => 0) 0 5 5))), (p_o5_q16, .inl (cZ, 20, .inl (fun _ => 0))), (p_o5_o22, .inr (1, [.ref p_o5_o22_q7, .int 0])), (p_o5_o22_q7, .inl (cI, 10, .inl (fun _ => 0))), (p_o5_o33, .inr (1, [.ref p_o5_o33_q7, .int 0])), (p_o5_o33_q7, .inl (cI, 10, .inl (fun _ => 0))), (p_o5_o44, .inr (5, [.ref p_o5_o44_q9])), (p_o5_o44_q9, .inl (cII, 11, .inr (.inr (.inr (.inr (fun i => if i < 11 then some (p_o5_o44_r i) else none)))))), (p_o5_o44_r 0, .inl (cI, 11, .inl (fun _ => 0))), (p_o5_o44_r 1, .inl (cI, 11, .inl (fun _ => 0))), (p_o5_o44_r 2, .inl (cI, 11, .inl (fun _ => 0))), (p_o5_o44_r 3, .inl (cI, 11, .inl (fun _ => 0))), (p_o5_o44_r 4, .inl (cI, 11, .inl (fun _ => 0))), (p_o5_o44_r 5, .inl (cI, 11, .inl (fun _ => 0))), (p_o5_o44_r 6, .inl (cI, 11, .inl (fun _ => 0))), (p_o5_o44_r 7, .inl (cI, 11, .inl (fun _ => 0))), (p_o5_o44_r 8, .inl (cI, 11, .inl (fun _ => 0))), (p_o5_o44_r 9, .inl (cI, 11, .inl (fun _ => 0))), (p_o5_o44_r 10, .inl (cI, 11, .inl (fun _ => 0))), (p_o16, .inr (0, [.ref p_o16_q9, .int 0, .int 0])), (p_o16_q9, .inl (cII, 4, .inr (.inr (.inr (.inr (fun i => if i < 4 then some (p_o16_r i) else none)))))), (p_o16_r 0, .inl (cI, 654, .inl (fun _ => 0))), (p_o16_r 1, .inl (cI, 654, .inl (fun _ => 0))), (p_o16_r 2, .inl (cI, 654, .inl (fun _ => 0))), (p_o16_r 3, .inl (cI, 654, .inl (fun _ => 0))), (p_o27, .inr (3, [.ref p_o27_q7, .int 0])), (p_o27_q7, .inl (cI, 40, .inl (fun _ => 0))), (p_o38, .inr (1, [.ref p_o38_q7, .int 0])), (p_o38_q7, .inl (cI, 10, .inl (fun _ => 0))), (p_o49, .inr (4, [.ref p_o49_q7, .ref p_o49_q15, .ref p_o49_q23, .ref p_o49_q31, .int 0])), (p_o49_q7, .inl (cI, 11, .inl (fun _ => 0))), (p_o49_q15, .inl (cI, 11, .inl (fun _ => 0))), (p_o49_q23, .inl (cI, 11, .inl (fun _ => 0))), (p_o49_q31, .inl (cI, 11, .inl (fun _ => 0)))]) hP hD [0] [] rfl rfl (by decide) (by decide) hk1 hFc hP1 hD1
  generalize H1 = H at hP hS ⊢
  have hP : va_P D vwCl [(oP, .inr (6, [.ref p_o5, .ref p_o16, .ref p_o27, .ref p_o38, .ref p_o49])), (p_o5, .inr (2, [.ref p_o5_q8, .ref p_o5_q16, .ref p_o5_o22, .ref p_o5_o33, .ref p_o5_o44])), (p_o5_q8, .inl (cI, 654, .inl (va_cpy nv (fun _ => 0) 0 5 5))), (p_o5_q16, .inl (cZ, 20, .inl (fun _ => 0))), (p_o5_o22, .inr (1, [.ref p_o5_o22_q7, .int 0])), (p_o5_o22_q7, .inl (cI, 10, .inl (fun _ => 0))), (p_o5_o33, .inr (1, [.ref p_o5_o33_q7, .int 0])), (p_o5_o33_q7, .inl (cI, 10, .inl (fun _ => 0))), (p_o5_o44, .inr (5, [.ref p_o5_o44_q9])), (p_o5_o44_q9, .inl (cII, 11, .inr (.inr (.inr (.inr (fun i => if i < 11 then some (p_o5_o44_r i) else none)))))), (p_o5_o44_r 0, .inl (cI, 11, .inl (fun _ => 0))), (p_o5_o44_r 1, .inl (cI, 11, .inl (fun _ => 0))), (p_o5_o44_r 2, .inl (cI, 11, .inl (fun _ => 0))), (p_o5_o44_r 3, .inl (cI, 11, .inl (fun _ => 0))), (p_o5_o44_r 4, .inl (cI, 11, .inl (fun _ => 0))), (p_o5_o44_r 5, .inl (cI, 11, .inl (fun _ => 0))), (p_o5_o44_r 6, .inl (cI, 11, .inl (fun _ => 0))), (p_o5_o44_r 7, .inl (cI, 11, .inl (fun _ => 0))), (p_o5_o44_r 8, .inl (cI, 11, .inl (fun _ => 0))), (p_o5_o44_r 9, .inl (cI, 11, .inl (fun _ => 0))), (p_o5_o44_r 10, .inl (cI, 11, .inl (fun _ => 0))), (p_o16, .inr (0, [.ref p_o16_q9, .int 0, .int 0])), (p_o16_q9, .inl (cII, 4, .inr (.inr (.inr (.inr (fun i => if i < 4 then some (p_o16_r i) else none)))))), (p_o16_r 0, .inl (cI, 654, .inl (fun _ => 0))), (p_o16_r 1, .inl (cI, 654, .inl (fun _ => 0))), (p_o16_r 2, .inl (cI, 654, .inl (fun _ => 0))), (p_o16_r 3, .inl (cI, 654, .inl (fun _ => 0))), (p_o27, .inr (3, [.ref p_o27_q7, .int 0])), (p_o27_q7, .inl (cI, 40, .inl (fun _ => 0))), (p_o38, .inr (1, [.ref p_o38_q7, .int 0])), (p_o38_q7, .inl (cI, 10, .inl (fun _ => 0))), (p_o49, .inr (4, [.ref p_o49_q7, .ref p_o49_q15, .ref p_o49_q23, .ref p_o49_q31, .int 0])), (p_o49_q7, .inl (cI, 11, .inl (fun _ => 0))), (p_o49_q15, .inl (cI, 11, .inl (fun _ => 0))), (p_o49_q23, .inl (cI, 11, .inl (fun _ => 0))), (p_o49_q31, .inl (cI, 11, .inl (fun _ => 0)))] H := hP
  have hD : va_D A [(oP, .inr (6, [.ref p_o5, .ref p_o16, .ref p_o27, .ref p_o38, .ref p_o49])), (p_o5, .inr (2, [.ref p_o5_q8, .ref p_o5_q16, .ref p_o5_o22, .ref p_o5_o33, .ref p_o5_o44])), (p_o5_q8, .inl (cI, 654, .inl (va_cpy nv (fun _ => 0) 0 5 5))), (p_o5_q16, .inl (cZ, 20, .inl (fun _ => 0))), (p_o5_o22, .inr (1, [.ref p_o5_o22_q7, .int 0])), (p_o5_o22_q7, .inl (cI, 10, .inl (fun _ => 0))), (p_o5_o33, .inr (1, [.ref p_o5_o33_q7, .int 0])), (p_o5_o33_q7, .inl (cI, 10, .inl (fun _ => 0))), (p_o5_o44, .inr (5, [.ref p_o5_o44_q9])), (p_o5_o44_q9, .inl (cII, 11, .inr (.inr (.inr (.inr (fun i => if i < 11 then some (p_o5_o44_r i) else none)))))), (p_o5_o44_r 0, .inl (cI, 11, .inl (fun _ => 0))), (p_o5_o44_r 1, .inl (cI, 11, .inl (fun _ => 0))), (p_o5_o44_r 2, .inl (cI, 11, .inl (fun _ => 0))), (p_o5_o44_r 3, .inl (cI, 11, .inl (fun _ => 0))), (p_o5_o44_r 4, .inl (cI, 11, .inl (fun _ => 0))), (p_o5_o44_r 5, .inl (cI, 11, .inl (fun _ => 0))), (p_o5_o44_r 6, .inl (cI, 11, .inl (fun _ => 0))), (p_o5_o44_r 7, .inl (cI, 11, .inl (fun _ => 0))), (p_o5_o44_r 8, .inl (cI, 11, .inl (fun _ => 0))), (p_o5_o44_r 9, .inl (cI, 11, .inl (fun _ => 0))), (p_o5_o44_r 10, .inl (cI, 11, .inl (fun _ => 0))), (p_o16, .inr (0, [.ref p_o16_q9, .int 0, .int 0])), (p_o16_q9, .inl (cII, 4, .inr (.inr (.inr (.inr (fun i => if i < 4 then some (p_o16_r i) else none)))))), (p_o16_r 0, .inl (cI, 654, .inl (fun _ => 0))), (p_o16_r 1, .inl (cI, 654, .inl (fun _ => 0))), (p_o16_r 2, .inl (cI, 654, .inl (fun _ => 0))), (p_o16_r 3, .inl (cI, 654, .inl (fun _ => 0))), (p_o27, .inr (3, [.ref p_o27_q7, .int 0])), (p_o27_q7, .inl (cI, 40, .inl (fun _ => 0))), (p_o38, .inr (1, [.ref p_o38_q7, .int 0])), (p_o38_q7, .inl (cI, 10, .inl (fun _ => 0))), (p_o49, .inr (4, [.ref p_o49_q7, .ref p_o49_q15, .ref p_o49_q23, .ref p_o49_q31, .int 0])), (p_o49_q7, .inl (cI, 11, .inl (fun _ => 0))), (p_o49_q15, .inl (cI, 11, .inl (fun _ => 0))), (p_o49_q23, .inl (cI, 11, .inl (fun _ => 0))), (p_o49_q31, .inl (cI, 11, .inl (fun _ => 0)))] := hD
  refine W.widen (k := 36) (n := 3567) (Nat.le_of_ble_eq_true rfl) (Nat.le_of_ble_eq_true rfl) ?_
  refine lv_astore_n (i := 1) (lv' := [(1, .ref oP), (0, .ref b)]) hx hb dcL_7 rfl hl (by decide) rfl (fun ls hl => ?_)
  have e9 : (fun i => if i < 4 then some (p_o16_r i) else none) = (fun i => if i < 4 then some ((adr [oP, p_o5, p_o16, p_o27, p_o38, p_o49, p_o5_o22, p_o5_o33, p_o5_o44, p_o16_q9, p_o5_o44_q9, 0, p_o5_q8, p_o5_q16, p_o5_o22_q7, p_o5_o33_q7, p_o5_o44_r 0, p_o5_o44_r 1, p_o5_o44_r 2, p_o5_o44_r 3, p_o5_o44_r 4, p_o5_o44_r 5, p_o5_o44_r 6, p_o5_o44_r 7, p_o5_o44_r 8, p_o5_o44_r 9, p_o5_o44_r 10, p_o16_r 0, p_o16_r 1, p_o16_r 2, p_o16_r 3, p_o27_q7, p_o38_q7, p_o49_q7, p_o49_q15, p_o49_q23, p_o49_q31] tL tM b) (27 + i)) else none) := by
    funext i
    by_cases h : i < 4
    · rcases (show i = 0 ∨ i = 1 ∨ i = 2 ∨ i = 3 by omega) with rfl | rfl | rfl | rfl <;> rfl
    · rw [if_neg h, if_neg h]
  have e10 : (fun i => if i < 11 then some (p_o5_o44_r i) else none) = (fun i => if i < 11 then some ((adr [oP, p_o5, p_o16, p_o27, p_o38, p_o49, p_o5_o22, p_o5_o33, p_o5_o44, p_o16_q9, p_o5_o44_q9, 0, p_o5_q8, p_o5_q16, p_o5_o22_q7, p_o5_o33_q7, p_o5_o44_r 0, p_o5_o44_r 1, p_o5_o44_r 2, p_o5_o44_r 3, p_o5_o44_r 4, p_o5_o44_r 5, p_o5_o44_r 6, p_o5_o44_r 7, p_o5_o44_r 8, p_o5_o44_r 9, p_o5_o44_r 10, p_o16_r 0, p_o16_r 1, p_o16_r 2, p_o16_r 3, p_o27_q7, p_o38_q7, p_o49_q7, p_o49_q15, p_o49_q23, p_o49_q31] tL tM b) (16 + i)) else none) := by
    funext i
    by_cases h : i < 11
    · rcases (show i = 0 ∨ i = 1 ∨ i = 2 ∨ i = 3 ∨ i = 4 ∨ i = 5 ∨ i = 6 ∨ i = 7 ∨ i = 8 ∨ i = 9 ∨ i = 10 by omega) with rfl | rfl | rfl | rfl | rfl | rfl | rfl | rfl | rfl | rfl | rfl <;> rfl
    · rw [if_neg h, if_neg h]
  rw [e9, e10] at hP hD
  have hP := hP.sub (ws' := wld (adr [oP, p_o5, p_o16, p_o27, p_o38, p_o49, p_o5_o22, p_o5_o33, p_o5_o44, p_o16_q9, p_o5_o44_q9, 0, p_o5_q8, p_o5_q16, p_o5_o22_q7, p_o5_o33_q7, p_o5_o44_r 0, p_o5_o44_r 1, p_o5_o44_r 2, p_o5_o44_r 3, p_o5_o44_r 4, p_o5_o44_r 5, p_o5_o44_r 6, p_o5_o44_r 7, p_o5_o44_r 8, p_o5_o44_r 9, p_o5_o44_r 10, p_o16_r 0, p_o16_r 1, p_o16_r 2, p_o16_r 3, p_o27_q7, p_o38_q7, p_o49_q7, p_o49_q15, p_o49_q23, p_o49_q31] tL tM b) cI cZ cII σ0) [0, 1, 21, 27, 29, 31, 4, 6, 8, 22, 9, 2, 3, 5, 7, 10, 11, 12, 13, 14, 15, 16, 17, 18, 19, 20, 23, 24, 25, 26, 28, 30, 32, 33, 34, 35] rfl
  have hD := hD.sub (ws' := wld (adr [oP, p_o5, p_o16, p_o27, p_o38, p_o49, p_o5_o22, p_o5_o33, p_o5_o44, p_o16_q9, p_o5_o44_q9, 0, p_o5_q8, p_o5_q16, p_o5_o22_q7, p_o5_o33_q7, p_o5_o44_r 0, p_o5_o44_r 1, p_o5_o44_r 2, p_o5_o44_r 3, p_o5_o44_r 4, p_o5_o44_r 5, p_o5_o44_r 6, p_o5_o44_r 7, p_o5_o44_r 8, p_o5_o44_r 9, p_o5_o44_r 10, p_o16_r 0, p_o16_r 1, p_o16_r 2, p_o16_r 3, p_o27_q7, p_o38_q7, p_o49_q7, p_o49_q15, p_o49_q23, p_o49_q31] tL tM b) cI cZ cII σ0) [0, 1, 21, 27, 29, 31, 4, 6, 8, 22, 9, 2, 3, 5, 7, 10, 11, 12, 13, 14, 15, 16, 17, 18, 19, 20, 23, 24, 25, 26, 28, 30, 32, 33, 34, 35] (by decide) rfl
  clear hPc hDc hFc
  have hSta : Sta (adr [oP, p_o5, p_o16, p_o27, p_o38, p_o49, p_o5_o22, p_o5_o33, p_o5_o44, p_o16_q9, p_o5_o44_q9, 0, p_o5_q8, p_o5_q16, p_o5_o22_q7, p_o5_o33_q7, p_o5_o44_r 0, p_o5_o44_r 1, p_o5_o44_r 2, p_o5_o44_r 3, p_o5_o44_r 4, p_o5_o44_r 5, p_o5_o44_r 6, p_o5_o44_r 7, p_o5_o44_r 8, p_o5_o44_r 9, p_o5_o44_r 10, p_o16_r 0, p_o16_r 1, p_o16_r 2, p_o16_r 3, p_o27_q7, p_o38_q7, p_o49_q7, p_o49_q15, p_o49_q23, p_o49_q31] tL tM b) A s s.heap := by
    rintro g (rfl | rfl)
    · exact ⟨ZtL, TtL⟩
    · exact ⟨ZtM, TtM⟩
  have hLH : LH (adr [oP, p_o5, p_o16, p_o27, p_o38, p_o49, p_o5_o22, p_o5_o33, p_o5_o44, p_o16_q9, p_o5_o44_q9, 0, p_o5_q8, p_o5_q16, p_o5_o22_q7, p_o5_o33_q7, p_o5_o44_r 0, p_o5_o44_r 1, p_o5_o44_r 2, p_o5_o44_r 3, p_o5_o44_r 4, p_o5_o44_r 5, p_o5_o44_r 6, p_o5_o44_r 7, p_o5_o44_r 8, p_o5_o44_r 9, p_o5_o44_r 10, p_o16_r 0, p_o16_r 1, p_o16_r 2, p_o16_r 3, p_o27_q7, p_o38_q7, p_o49_q7, p_o49_q15, p_o49_q23, p_o49_q31] tL tM b) ls 20 [some (.ref 102), some (.ref 0), none, none, none, none, none, none, none, none, none, none, none, none, none, none, none, none, none, none] := by
    refine ⟨rfl, hl.1, hl.2.1, fun i v hv => ?_⟩
    rcases i with _ | _ | i
    · cases hv; exact hl.2.2 (0, .ref b) (by simp)
    · cases hv; exact hl.2.2 (1, .ref oP) (by simp)
    · exact (ldv_nones 18 i v hv).elim
  refine law8 (sc := (L, xs)) (K := fun x _ => x = nI 1) (Nat.lt_of_le_of_lt hL (by decide)) ST0 KK0 (fun _ => rfl) p l e room_1 s m #[Value.ref b] below meth c D (adr [oP, p_o5, p_o16, p_o27, p_o38, p_o49, p_o5_o22, p_o5_o33, p_o5_o44, p_o16_q9, p_o5_o44_q9, 0, p_o5_q8, p_o5_q16, p_o5_o22_q7, p_o5_o33_q7, p_o5_o44_r 0, p_o5_o44_r 1, p_o5_o44_r 2, p_o5_o44_r 3, p_o5_o44_r 4, p_o5_o44_r 5, p_o5_o44_r 6, p_o5_o44_r 7, p_o5_o44_r 8, p_o5_o44_r 9, p_o5_o44_r 10, p_o16_r 0, p_o16_r 1, p_o16_r 2, p_o16_r 3, p_o27_q7, p_o38_q7, p_o49_q7, p_o49_q15, p_o49_q23, p_o49_q31] tL tM b) cI cZ cII A 36 3567 _ ⟨hx, hb, hml, hr, hlocks, hts, hown, hN, hK, hSta, hA, ⟨(Nat.le_of_ble_eq_true rfl), (Nat.le_of_ble_eq_true rfl), (Nat.le_of_ble_eq_true rfl), (Nat.le_of_ble_eq_true rfl)⟩, fun _ => ⟨hX, hbl, hAn b hbl⟩⟩ ?_ H _ ls ⟨hP, hD, hS⟩ hLH
  intro r σ' H locs ls pc' hret hq hW
  obtain ⟨x, rfl, rfl⟩ := hq
  refine va_forget (fun q hq => ?_) (W.widen (Nat.le_of_ble_eq_true rfl) (Nat.le_of_ble_eq_true rfl) (lw_ret hx hb hr hlocks hret.1))
  have := hW.2.2.2.2 q hq
  rw [← hAe] at this
  exact this
-- ===== YOUR PART ENDS =====
set_option maxHeartbeats 4000000 in
theorem lw_walk (l : Launch) (hflags : l.flags = flags0) (b : Addr) (xs : List Int32) : MetFree l x (headSpec (Jvm.Cond.code x code maxLocals ret :: tables_1) room_1) (lw_P b xs) (fun _ _ _ _ _ => True) lw_Q := by
  refine MetFree.of_bodyS (code := code) (maxLocals := maxLocals) (ret := ret) (by decide) ?_ ?_
  · intro args s m h hn
    obtain ⟨meth, c, h1, h2, h3, h4, h5, h6, -, -⟩ := Cond.code_spec hn (atoms_spec (ws := Jvm.Cond.code x code maxLocals ret :: tables_1) h _ List.mem_cons_self)
    exact ⟨meth, c, h1, h2, h3, h4, h5, h6⟩
  · intro p e s m args below meth c s₁ B hml0 hP _
    obtain ⟨rfl, hx, hbd, hgv⟩ := hP
    obtain ⟨scr, harrAt, hlist, hof, hsmall⟩ := hx
    obtain ⟨hcb, hkn, -, -⟩ := State.arrayAt?_spec harrAt
    have hown : s.vm.findClass R_law = some m.cls := findClass_of_methodNamed B.named
    have hts0 : ∀ c ∈ (Jvm.Cond.code x code maxLocals ret :: tables_1), c.before #[Value.ref b] s = true := atoms_spec (ws := Jvm.Cond.code x code maxLocals ret :: tables_1) B.pre
    have hts : ∀ w ∈ lw_tbl, w.before #[Value.ref b] s = true := k2_hts_sels lw_privs (fun w hw => hts0 w (List.mem_cons_of_mem _ hw)) lw_privs_ok
    have hml : c.maxLocals = 20 := B.maxLocals_eq (hts0 _ List.mem_cons_self)
    have X₀ : Stand p l e room_1 s m #[Value.ref b] below meth c s₁ [] 0 0 := Stand.of_body B
    have hh0 : s₁.heap = s.heap := by rw [B.state]; rfl
    have hsz : scr.slots.size = xs.length := by rw [← Array.length_toList, hlist, List.length_map]
    have hval : ∀ j : Nat, j < xs.length → scr.slots[j]? = some (.int (xs.getD j 0)) := fun j hj => by
      rw [← Array.getElem?_toList, hlist]
      simp [hj]
    have hbl : b < s.heap.size := (Array.getElem?_eq_some_iff.mp hcb).1
    have hX : va_X b xs.length (fun j => xs.getD j 0) s s.heap := ⟨scr, hcb, hof, hkn, hsz, hval⟩
    have K : W p l e room_1 s m #[Value.ref b] below meth c s₁.heap [] 0 0 (lw_Z below #[Value.ref b] s) (entryFrame m ([Value.ref b] : List Value).toArray 20) := by
      rw [hh0]
      exact whole_start l hflags hbd ⟨B.exec, B.bytes, B.returns, hml, hown, hts, hX, hbl, B.notSynchronized, hgv⟩
    obtain ⟨t, a1, o, b1, b2, b3⟩ := K s₁ rfl X₀
    exact ⟨t, o, a1, b1, b2, b3⟩
theorem lw_pre_spec {args : Array Value} {s : State} (h : (Jvm.Cond.and given_1 narrow_1).before args s = true) (hr : rest_1_c.before args s = true) : ∃ (b : Addr) (xs : List Int32), lw_P b xs args s := by
  have hs := flat_of_before _ h
  have hq := flat_of_before _ hr
  have hc : (Cond.count 1).before args s = true := hs _ (by decide +kernel)
  have harr : (Cond.arrayOf (.arg 0) .int).before args s = true := hs _ (by decide +kernel)
  have hle : (Cond.le (.length (.arg 0)) (.int 260)).before args s = true := hs _ (by decide +kernel)
  have hlen : (Cond.isInt (.length (.arg 0))).before args s = true := hq _ (by decide +kernel)
  have hall : (Cond.all (.arg 0) (.isInt (.elem (.arg 0) (.index 0)))).before args s = true := hq _ (by decide +kernel)
  obtain ⟨b, xs, hb, hx⟩ := State.ints_of_pre rfl harr hlen hall
  have hsm : xs.length < 2 ^ 31 := hx.choose_spec.2.2.2
  have hev : (Term.length (.arg 0)).eval args s none [] s = some (.int xs.length.toInt32) := hx.length_eval hb
  have hv := Cond.le_ints hev (show (Term.int 260).eval args s none [] s = some (.int 260) from rfl)
  have hd : xs.length.toInt32 ≤ 260 := by
    simpa [Cond.before, Cond.holds, hv] using hle
  have hN : xs.length ≤ 260 := (Int32.ofNat_le_ofNat hsm (by decide)).mp (show Int32.ofNat xs.length ≤ Int32.ofNat 260 from hd)
  exact ⟨b, xs, Cond.one_arg hc (show args[0]? = some (.ref b) from hb), hx, hN, h⟩
theorem lw_comes (l : Launch) (hflags : l.flags = flags0) : Comes l x (Jvm.Cond.code x code maxLocals ret :: tables_1) room_1 (fun tb e args s => Calls_1 tb e args s ∧ rest_1 tb e args s ∧ Pre_1 tb e args s)
    (fun _ _ args s o t => lw_Q args s o t) := by
  intro p e ha hc hk s m args below hf hfit hheap happ hpre
  obtain ⟨b, xs, hP⟩ := lw_pre_spec hpre.2.2 hpre.2.1
  obtain ⟨k, o, h1, h2, h3, hQ⟩ := lw_walk l hflags b xs p e ha hc hk s m args below hf ((Spec.applies_iff_loose hf).mp happ).1 hP trivial
  exact ⟨k, o, h1, h2, h3, hQ⟩
theorem lw_frame {s t : State} {o : Outcome} {args : Array Value} (h : Framed s o t [] 600000 7302250) :
    Framed s o t (fieldLocs frame_1_writes args s ++ arrayLocs frame_1_arrays args s ++ staticLocs frame_1_statics s) 600000 7302250 := h
theorem lw_limb (L : Cond) (hL : ∀ (args : Array Value) (s t : State), L.after args s (.returned (some (.int 1))) t = true) :
    ArmFor flags0 classFile x code maxLocals ret World_1 tables_1 room_1 Calls_1 rest_1 Pre_1
      (fun tb e a s o t => postC L tb e a s o t ∧ Framed s o t (fieldLocs frame_1_writes a s ++ arrayLocs frame_1_arrays a s ++ staticLocs frame_1_statics s) 600000 7302250) := by
  intro l hflags _ _ p e ha hc hk s m args below hf hfit hheap happ hpre
  obtain ⟨k, o, h1, h2, h3, rfl, hF⟩ := lw_comes l hflags p e ha hc hk s m args below hf hfit hheap happ hpre
  exact ⟨k, _, h1, h2, h3, hL args s _, lw_frame hF⟩
theorem i_vc : Claimed_1_1 ∧ Claimed_1_2 := ⟨lw_limb limb_1_1 (fun args s t => by simp [limb_1_1, Cond.after, Cond.holds, Cond.value]), lw_limb limb_1_2 (fun args s t => Cond.after_iff.mpr (by
  first | (rw [show limb_1_2 = Cond.eq .result (.int 1) from rfl, Cond.eq_ints (x := 1) (y := 1) rfl rfl]; simp; done) | (simp [limb_1_2, Cond.value, Term.eval]; done)))⟩
