/-! CONSTRUCTORS of the leaves: by program out of the listing -/
theorem dcX1_init_0 : decode cX1_init 0 = .ok (.aload_n 0, 1) := by decide +kernel
theorem dcX1_init_1 : decode cX1_init 1 = .ok (.invokespecial 3, 3) := by decide +kernel
theorem dcX1_init_4 : decode cX1_init 4 = .ok (.aload_n 0, 1) := by decide +kernel
theorem dcX1_init_5 : decode cX1_init 5 = .ok (.bipush 10, 2) := by decide +kernel
theorem dcX1_init_7 : decode cX1_init 7 = .ok (.newarray .int, 2) := by decide +kernel
theorem dcX1_init_9 : decode cX1_init 9 = .ok (.putfield 9, 3) := by decide +kernel
theorem dcX1_init_12 : decode cX1_init 12 = .ok (.return_, 1) := by decide +kernel
def wI1 (cI cII : ClassId) (h0 : Nat) (w : va_W) : Prop := ∃ (q7 : Nat), w = [(h0, .inr (1, [.ref q7, .int 0])), (q7, .inl (cI, 10, .inl (fun _ => 0)))]
set_option maxHeartbeats 4000000 in
set_option maxRecDepth 100000 in
theorem cI1 (l : Launch) (D : va_G) (cI cZ cII : ClassId) (h0 sz : Nat) : Met l yX1_init (Cond.code yX1_init cX1_init 1 none :: g_tbl) ({ frames := 1, cells := 1, slots := 10, locals := 12 }) (va_Pc [.ref h0] (IP D cI cZ cII sz [(h0, .inr (1, [.null, .int 0]))])) (IQ D (wI1 cI cII h0) (va_A [(h0, .inr (1, [.null, .int 0]))] sz)) 1 10 (va_A [(h0, .inr (1, [.null, .int 0]))] sz) := by
  refine Met.ofW (cc := cX1_init) (maxL := 1) (ret := none) (by decide) rfl ?_
  intro p e s m args below meth c s₁ B hml hv
  obtain ⟨rfl, hsz, hP, hK, hD0, hN, hO⟩ := hv
  have hx := B.exec
  have hb := B.bytes
  have hr := B.returns
  have hts0 := atoms_spec (ws := Cond.code yX1_init cX1_init 1 none :: g_tbl) B.pre
  have hts : ∀ w ∈ g_tbl, w.before _ s = true := fun w hw => hts0 w (List.mem_cons_of_mem _ hw)
  have hown : s.vm.findClass RX1 = some m.cls := findClass_of_methodNamed B.named
  have hlocks := B.notSynchronized
  have hin : meth.name = "<init>" := (name_of_methodNamed B.named B.method).1
  subst hsz
  have hD := hD0.self (sz := s.heap.size)
  generalize hAe : va_A [(h0, .inr (1, [.null, .int 0]))] s.heap.size = A at hD ⊢
  have hA : ∀ q : Nat, s.heap.size ≤ q → A q := fun q h => by rw [← hAe]; exact Or.inr h
  have hS : va_S A s.heap s.heap [] := va_S.rf
  have hl := lv_entry ([.ref h0]) (n := 1) (Nat.le_of_ble_eq_true rfl)
  rw [lg_entry_eq]
  generalize (lg_sl ([.ref h0]) ++ List.replicate (1 - (lg_sl ([.ref h0])).length) Slot.unset).toArray = ls at hl ⊢
  have hl : lv_has ls 1 [(0, .ref h0)] := hl
  refine lv_aload_n hx hb dcX1_init_0 rfl (lv_at hl 0 rfl) ?_
  refine W.objInit hx hb hown (hts (.methodLink RX1 3 objectInit) (g_mem 104 (by decide +kernel) (by decide +kernel))) (hts (.instanceMethod objectInit) (g_mem 91 (by decide +kernel) (by decide +kernel))) (hts (.code objectInit ⟨#[0xb1]⟩ 1 none) (g_mem 92 (by decide +kernel) (by decide +kernel))) rfl (by rw [hml]; exact hl.1) rfl dcX1_init_1 (Nat.le_of_ble_eq_true rfl) (Nat.le_of_ble_eq_true rfl) ?_
  refine W.eq (g2 := F0 m 4 ls []) rfl ?_
  refine lv_aload_n hx hb dcX1_init_4 rfl (lv_at hl 0 rfl) ?_
  refine lv_bipush (v := nI 10) hx hb dcX1_init_5 (by decide) ?_
  refine q_newi (N := 10) hx hb (hts (.arrayClass .int) (g_mem 115 (by decide +kernel) (by decide +kernel))) hK hP hD hS hA (by decide) (by decide) (Nat.le_of_ble_eq_true rfl) (Nat.le_of_ble_eq_true rfl) (Nat.le_of_ble_eq_true rfl) dcX1_init_7 (fun q7 H hP hD hS => ?_)
  have hP : va_P D vwCl [(h0, .inr (1, [.null, .int 0])), (q7, .inl (cI, 10, .inl (fun _ => 0)))] H := hP
  have hD : va_D A [(h0, .inr (1, [.null, .int 0])), (q7, .inl (cI, 10, .inl (fun _ => 0)))] := hD
  refine W.widen (k := 1) (n := 10) (Nat.le_of_ble_eq_true rfl) (Nat.le_of_ble_eq_true rfl) ?_
  refine va_putF (D := D) (ci := 1) (v := .ref q7) (ty := .array .int) (C := RX1) (T := TX1) (N := 2) hx hb hts inw_1 tyX1 tyX1_ok nmX1 hown hK hP hD hS 0 rfl rfl 0 (by decide) (hts (.fieldLink RX1 9 "PhrasePool$Sentence" "words" "[I") (g_mem 105 (by decide +kernel) (by decide +kernel))) (fun _ h9 => h9) rfl hin rfl (by decide +kernel) rfl rfl (Nat.le_of_ble_eq_true rfl) dcX1_init_9 (fun H locs hP hD hS => ?_)
  have hP : va_P D vwCl [(h0, .inr (1, [.ref q7, .int 0])), (q7, .inl (cI, 10, .inl (fun _ => 0)))] H := hP
  have hD : va_D A [(h0, .inr (1, [.ref q7, .int 0])), (q7, .inl (cI, 10, .inl (fun _ => 0)))] := hD
  exact W.vret hx hb hr (fun t ht hW => ⟨⟨[(h0, .inr (1, [.ref q7, .int 0])), (q7, .inl (cI, 10, .inl (fun _ => 0)))], rfl, ⟨q7, rfl⟩, by rw [ht]; exact hP, hD⟩, hS.F ht⟩) hS.2.2 dcX1_init_12
theorem dcX5_init_0 : decode cX5_init 0 = .ok (.aload_n 0, 1) := by decide +kernel
theorem dcX5_init_1 : decode cX5_init 1 = .ok (.invokespecial 3, 3) := by decide +kernel
theorem dcX5_init_4 : decode cX5_init 4 = .ok (.aload_n 0, 1) := by decide +kernel
theorem dcX5_init_5 : decode cX5_init 5 = .ok (.bipush 11, 2) := by decide +kernel
theorem dcX5_init_7 : decode cX5_init 7 = .ok (.bipush 11, 2) := by decide +kernel
theorem dcX5_init_9 : decode cX5_init 9 = .ok (.multianewarray 9 2, 4) := by decide +kernel
theorem dcX5_init_13 : decode cX5_init 13 = .ok (.putfield 11, 3) := by decide +kernel
theorem dcX5_init_16 : decode cX5_init 16 = .ok (.return_, 1) := by decide +kernel
def wI5 (cI cII : ClassId) (h0 : Nat) (w : va_W) : Prop := ∃ (q9 : Nat) (r : Nat → Nat), w = [(h0, .inr (5, [.ref q9])), (q9, .inl (cII, 11, .inr (.inr (.inr (.inr (fun i => if i < 11 then some (r i) else none)))))), (r 0, .inl (cI, 11, .inl (fun _ => 0))), (r 1, .inl (cI, 11, .inl (fun _ => 0))), (r 2, .inl (cI, 11, .inl (fun _ => 0))), (r 3, .inl (cI, 11, .inl (fun _ => 0))), (r 4, .inl (cI, 11, .inl (fun _ => 0))), (r 5, .inl (cI, 11, .inl (fun _ => 0))), (r 6, .inl (cI, 11, .inl (fun _ => 0))), (r 7, .inl (cI, 11, .inl (fun _ => 0))), (r 8, .inl (cI, 11, .inl (fun _ => 0))), (r 9, .inl (cI, 11, .inl (fun _ => 0))), (r 10, .inl (cI, 11, .inl (fun _ => 0)))]
set_option maxHeartbeats 4000000 in
set_option maxRecDepth 100000 in
theorem cI5 (l : Launch) (D : va_G) (cI cZ cII : ClassId) (h0 sz : Nat) : Met l yX5_init (Cond.code yX5_init cX5_init 1 none :: g_tbl) ({ frames := 1, cells := 12, slots := 132, locals := 12 }) (va_Pc [.ref h0] (IP D cI cZ cII sz [(h0, .inr (5, [.null]))])) (IQ D (wI5 cI cII h0) (va_A [(h0, .inr (5, [.null]))] sz)) 12 132 (va_A [(h0, .inr (5, [.null]))] sz) := by
  refine Met.ofW (cc := cX5_init) (maxL := 1) (ret := none) (by decide) rfl ?_
  intro p e s m args below meth c s₁ B hml hv
  obtain ⟨rfl, hsz, hP, hK, hD0, hN, hO⟩ := hv
  have hx := B.exec
  have hb := B.bytes
  have hr := B.returns
  have hts0 := atoms_spec (ws := Cond.code yX5_init cX5_init 1 none :: g_tbl) B.pre
  have hts : ∀ w ∈ g_tbl, w.before _ s = true := fun w hw => hts0 w (List.mem_cons_of_mem _ hw)
  have hown : s.vm.findClass RX5 = some m.cls := findClass_of_methodNamed B.named
  have hlocks := B.notSynchronized
  have hin : meth.name = "<init>" := (name_of_methodNamed B.named B.method).1
  subst hsz
  have hD := hD0.self (sz := s.heap.size)
  generalize hAe : va_A [(h0, .inr (5, [.null]))] s.heap.size = A at hD ⊢
  have hA : ∀ q : Nat, s.heap.size ≤ q → A q := fun q h => by rw [← hAe]; exact Or.inr h
  have hS : va_S A s.heap s.heap [] := va_S.rf
  have hl := lv_entry ([.ref h0]) (n := 1) (Nat.le_of_ble_eq_true rfl)
  rw [lg_entry_eq]
  generalize (lg_sl ([.ref h0]) ++ List.replicate (1 - (lg_sl ([.ref h0])).length) Slot.unset).toArray = ls at hl ⊢
  have hl : lv_has ls 1 [(0, .ref h0)] := hl
  refine lv_aload_n hx hb dcX5_init_0 rfl (lv_at hl 0 rfl) ?_
  refine W.objInit hx hb hown (hts (.methodLink RX5 3 objectInit) (g_mem 122 (by decide +kernel) (by decide +kernel))) (hts (.instanceMethod objectInit) (g_mem 91 (by decide +kernel) (by decide +kernel))) (hts (.code objectInit ⟨#[0xb1]⟩ 1 none) (g_mem 92 (by decide +kernel) (by decide +kernel))) rfl (by rw [hml]; exact hl.1) rfl dcX5_init_1 (Nat.le_of_ble_eq_true rfl) (Nat.le_of_ble_eq_true rfl) ?_
  refine W.eq (g2 := F0 m 4 ls []) rfl ?_
  refine lv_aload_n hx hb dcX5_init_4 rfl (lv_at hl 0 rfl) ?_
  refine lv_bipush (v := nI 11) hx hb dcX5_init_5 (by decide) ?_
  refine lv_bipush (v := nI 11) hx hb dcX5_init_7 (by decide) ?_
  refine q_mna (N := 11) (K := 11) hx hb hown (hts (.classLink RX5 9 "[[I") (g_mem 123 (by decide +kernel) (by decide +kernel))) hO (hts (.arrayClass .int) (g_mem 115 (by decide +kernel) (by decide +kernel))) hK hP hD hS hA (by decide) (by decide) (by decide) (by decide) (Nat.le_of_ble_eq_true rfl) (Nat.le_of_ble_eq_true rfl) (Nat.le_of_ble_eq_true rfl) (Nat.le_of_ble_eq_true rfl) (Nat.le_of_ble_eq_true rfl) dcX5_init_9 (fun q9 r H hP hD hS => ?_)
  have hP : va_P D vwCl [(h0, .inr (5, [.null])), (q9, .inl (cII, 11, .inr (.inr (.inr (.inr (fun i => if i < 11 then some (r i) else none)))))), (r 0, .inl (cI, 11, .inl (fun _ => 0))), (r 1, .inl (cI, 11, .inl (fun _ => 0))), (r 2, .inl (cI, 11, .inl (fun _ => 0))), (r 3, .inl (cI, 11, .inl (fun _ => 0))), (r 4, .inl (cI, 11, .inl (fun _ => 0))), (r 5, .inl (cI, 11, .inl (fun _ => 0))), (r 6, .inl (cI, 11, .inl (fun _ => 0))), (r 7, .inl (cI, 11, .inl (fun _ => 0))), (r 8, .inl (cI, 11, .inl (fun _ => 0))), (r 9, .inl (cI, 11, .inl (fun _ => 0))), (r 10, .inl (cI, 11, .inl (fun _ => 0)))] H := hP
  have hD : va_D A [(h0, .inr (5, [.null])), (q9, .inl (cII, 11, .inr (.inr (.inr (.inr (fun i => if i < 11 then some (r i) else none)))))), (r 0, .inl (cI, 11, .inl (fun _ => 0))), (r 1, .inl (cI, 11, .inl (fun _ => 0))), (r 2, .inl (cI, 11, .inl (fun _ => 0))), (r 3, .inl (cI, 11, .inl (fun _ => 0))), (r 4, .inl (cI, 11, .inl (fun _ => 0))), (r 5, .inl (cI, 11, .inl (fun _ => 0))), (r 6, .inl (cI, 11, .inl (fun _ => 0))), (r 7, .inl (cI, 11, .inl (fun _ => 0))), (r 8, .inl (cI, 11, .inl (fun _ => 0))), (r 9, .inl (cI, 11, .inl (fun _ => 0))), (r 10, .inl (cI, 11, .inl (fun _ => 0)))] := hD
  refine W.widen (k := 12) (n := 132) (Nat.le_of_ble_eq_true rfl) (Nat.le_of_ble_eq_true rfl) ?_
  refine va_putF (D := D) (ci := 5) (v := .ref q9) (ty := .array (.array .int)) (C := RX5) (T := TX5) (N := 1) hx hb hts inw_5 tyX5 tyX5_ok nmX5 hown hK hP hD hS 0 rfl rfl 0 (by decide) (hts (.fieldLink RX5 11 "PhrasePool$Yardstick" "steps" "[[I") (g_mem 125 (by decide +kernel) (by decide +kernel))) (fun _ h9 => h9) rfl hin rfl (by decide +kernel) rfl rfl (Nat.le_of_ble_eq_true rfl) dcX5_init_13 (fun H locs hP hD hS => ?_)
  have hP : va_P D vwCl [(h0, .inr (5, [.ref q9])), (q9, .inl (cII, 11, .inr (.inr (.inr (.inr (fun i => if i < 11 then some (r i) else none)))))), (r 0, .inl (cI, 11, .inl (fun _ => 0))), (r 1, .inl (cI, 11, .inl (fun _ => 0))), (r 2, .inl (cI, 11, .inl (fun _ => 0))), (r 3, .inl (cI, 11, .inl (fun _ => 0))), (r 4, .inl (cI, 11, .inl (fun _ => 0))), (r 5, .inl (cI, 11, .inl (fun _ => 0))), (r 6, .inl (cI, 11, .inl (fun _ => 0))), (r 7, .inl (cI, 11, .inl (fun _ => 0))), (r 8, .inl (cI, 11, .inl (fun _ => 0))), (r 9, .inl (cI, 11, .inl (fun _ => 0))), (r 10, .inl (cI, 11, .inl (fun _ => 0)))] H := hP
  have hD : va_D A [(h0, .inr (5, [.ref q9])), (q9, .inl (cII, 11, .inr (.inr (.inr (.inr (fun i => if i < 11 then some (r i) else none)))))), (r 0, .inl (cI, 11, .inl (fun _ => 0))), (r 1, .inl (cI, 11, .inl (fun _ => 0))), (r 2, .inl (cI, 11, .inl (fun _ => 0))), (r 3, .inl (cI, 11, .inl (fun _ => 0))), (r 4, .inl (cI, 11, .inl (fun _ => 0))), (r 5, .inl (cI, 11, .inl (fun _ => 0))), (r 6, .inl (cI, 11, .inl (fun _ => 0))), (r 7, .inl (cI, 11, .inl (fun _ => 0))), (r 8, .inl (cI, 11, .inl (fun _ => 0))), (r 9, .inl (cI, 11, .inl (fun _ => 0))), (r 10, .inl (cI, 11, .inl (fun _ => 0)))] := hD
  exact W.vret hx hb hr (fun t ht hW => ⟨⟨[(h0, .inr (5, [.ref q9])), (q9, .inl (cII, 11, .inr (.inr (.inr (.inr (fun i => if i < 11 then some (r i) else none)))))), (r 0, .inl (cI, 11, .inl (fun _ => 0))), (r 1, .inl (cI, 11, .inl (fun _ => 0))), (r 2, .inl (cI, 11, .inl (fun _ => 0))), (r 3, .inl (cI, 11, .inl (fun _ => 0))), (r 4, .inl (cI, 11, .inl (fun _ => 0))), (r 5, .inl (cI, 11, .inl (fun _ => 0))), (r 6, .inl (cI, 11, .inl (fun _ => 0))), (r 7, .inl (cI, 11, .inl (fun _ => 0))), (r 8, .inl (cI, 11, .inl (fun _ => 0))), (r 9, .inl (cI, 11, .inl (fun _ => 0))), (r 10, .inl (cI, 11, .inl (fun _ => 0)))], rfl, ⟨q9, r, rfl⟩, by rw [ht]; exact hP, hD⟩, hS.F ht⟩) hS.2.2 dcX5_init_16
theorem dcX0_init_0 : decode cX0_init 0 = .ok (.aload_n 0, 1) := by decide +kernel
theorem dcX0_init_1 : decode cX0_init 1 = .ok (.invokespecial 3, 3) := by decide +kernel
theorem dcX0_init_4 : decode cX0_init 4 = .ok (.aload_n 0, 1) := by decide +kernel
theorem dcX0_init_5 : decode cX0_init 5 = .ok (.iconst 4, 1) := by decide +kernel
theorem dcX0_init_6 : decode cX0_init 6 = .ok (.sipush 654, 3) := by decide +kernel
theorem dcX0_init_9 : decode cX0_init 9 = .ok (.multianewarray 11 2, 4) := by decide +kernel
theorem dcX0_init_13 : decode cX0_init 13 = .ok (.putfield 13, 3) := by decide +kernel
theorem dcX0_init_16 : decode cX0_init 16 = .ok (.return_, 1) := by decide +kernel
def wI0 (cI cII : ClassId) (h0 : Nat) (w : va_W) : Prop := ∃ (q9 : Nat) (r : Nat → Nat), w = [(h0, .inr (0, [.ref q9, .int 0, .int 0])), (q9, .inl (cII, 4, .inr (.inr (.inr (.inr (fun i => if i < 4 then some (r i) else none)))))), (r 0, .inl (cI, 654, .inl (fun _ => 0))), (r 1, .inl (cI, 654, .inl (fun _ => 0))), (r 2, .inl (cI, 654, .inl (fun _ => 0))), (r 3, .inl (cI, 654, .inl (fun _ => 0)))]
set_option maxHeartbeats 4000000 in
set_option maxRecDepth 100000 in
theorem cI0 (l : Launch) (D : va_G) (cI cZ cII : ClassId) (h0 sz : Nat) : Met l yX0_init (Cond.code yX0_init cX0_init 1 none :: g_tbl) ({ frames := 1, cells := 5, slots := 2620, locals := 12 }) (va_Pc [.ref h0] (IP D cI cZ cII sz [(h0, .inr (0, [.null, .int 0, .int 0]))])) (IQ D (wI0 cI cII h0) (va_A [(h0, .inr (0, [.null, .int 0, .int 0]))] sz)) 5 2620 (va_A [(h0, .inr (0, [.null, .int 0, .int 0]))] sz) := by
  refine Met.ofW (cc := cX0_init) (maxL := 1) (ret := none) (by decide) rfl ?_
  intro p e s m args below meth c s₁ B hml hv
  obtain ⟨rfl, hsz, hP, hK, hD0, hN, hO⟩ := hv
  have hx := B.exec
  have hb := B.bytes
  have hr := B.returns
  have hts0 := atoms_spec (ws := Cond.code yX0_init cX0_init 1 none :: g_tbl) B.pre
  have hts : ∀ w ∈ g_tbl, w.before _ s = true := fun w hw => hts0 w (List.mem_cons_of_mem _ hw)
  have hown : s.vm.findClass RX0 = some m.cls := findClass_of_methodNamed B.named
  have hlocks := B.notSynchronized
  have hin : meth.name = "<init>" := (name_of_methodNamed B.named B.method).1
  subst hsz
  have hD := hD0.self (sz := s.heap.size)
  generalize hAe : va_A [(h0, .inr (0, [.null, .int 0, .int 0]))] s.heap.size = A at hD ⊢
  have hA : ∀ q : Nat, s.heap.size ≤ q → A q := fun q h => by rw [← hAe]; exact Or.inr h
  have hS : va_S A s.heap s.heap [] := va_S.rf
  have hl := lv_entry ([.ref h0]) (n := 1) (Nat.le_of_ble_eq_true rfl)
  rw [lg_entry_eq]
  generalize (lg_sl ([.ref h0]) ++ List.replicate (1 - (lg_sl ([.ref h0])).length) Slot.unset).toArray = ls at hl ⊢
  have hl : lv_has ls 1 [(0, .ref h0)] := hl
  refine lv_aload_n hx hb dcX0_init_0 rfl (lv_at hl 0 rfl) ?_
  refine W.objInit hx hb hown (hts (.methodLink RX0 3 objectInit) (g_mem 155 (by decide +kernel) (by decide +kernel))) (hts (.instanceMethod objectInit) (g_mem 91 (by decide +kernel) (by decide +kernel))) (hts (.code objectInit ⟨#[0xb1]⟩ 1 none) (g_mem 92 (by decide +kernel) (by decide +kernel))) rfl (by rw [hml]; exact hl.1) rfl dcX0_init_1 (Nat.le_of_ble_eq_true rfl) (Nat.le_of_ble_eq_true rfl) ?_
  refine W.eq (g2 := F0 m 4 ls []) rfl ?_
  refine lv_aload_n hx hb dcX0_init_4 rfl (lv_at hl 0 rfl) ?_
  refine lv_iconst (v := nI 4) hx hb dcX0_init_5 (by decide) ?_
  refine lv_sipush (v := nI 654) hx hb dcX0_init_6 (by decide) ?_
  refine q_mna (N := 4) (K := 654) hx hb hown (hts (.classLink RX0 11 "[[I") (g_mem 156 (by decide +kernel) (by decide +kernel))) hO (hts (.arrayClass .int) (g_mem 115 (by decide +kernel) (by decide +kernel))) hK hP hD hS hA (by decide) (by decide) (by decide) (by decide) (Nat.le_of_ble_eq_true rfl) (Nat.le_of_ble_eq_true rfl) (Nat.le_of_ble_eq_true rfl) (Nat.le_of_ble_eq_true rfl) (Nat.le_of_ble_eq_true rfl) dcX0_init_9 (fun q9 r H hP hD hS => ?_)
  have hP : va_P D vwCl [(h0, .inr (0, [.null, .int 0, .int 0])), (q9, .inl (cII, 4, .inr (.inr (.inr (.inr (fun i => if i < 4 then some (r i) else none)))))), (r 0, .inl (cI, 654, .inl (fun _ => 0))), (r 1, .inl (cI, 654, .inl (fun _ => 0))), (r 2, .inl (cI, 654, .inl (fun _ => 0))), (r 3, .inl (cI, 654, .inl (fun _ => 0)))] H := hP
  have hD : va_D A [(h0, .inr (0, [.null, .int 0, .int 0])), (q9, .inl (cII, 4, .inr (.inr (.inr (.inr (fun i => if i < 4 then some (r i) else none)))))), (r 0, .inl (cI, 654, .inl (fun _ => 0))), (r 1, .inl (cI, 654, .inl (fun _ => 0))), (r 2, .inl (cI, 654, .inl (fun _ => 0))), (r 3, .inl (cI, 654, .inl (fun _ => 0)))] := hD
  refine W.widen (k := 5) (n := 2620) (Nat.le_of_ble_eq_true rfl) (Nat.le_of_ble_eq_true rfl) ?_
  refine va_putF (D := D) (ci := 0) (v := .ref q9) (ty := .array (.array .int)) (C := RX0) (T := TX0) (N := 3) hx hb hts inw_0 tyX0 tyX0_ok nmX0 hown hK hP hD hS 0 rfl rfl 0 (by decide) (hts (.fieldLink RX0 13 "PhrasePool$History" "rows" "[[I") (g_mem 157 (by decide +kernel) (by decide +kernel))) (fun _ h9 => h9) rfl hin rfl (by decide +kernel) rfl rfl (Nat.le_of_ble_eq_true rfl) dcX0_init_13 (fun H locs hP hD hS => ?_)
  have hP : va_P D vwCl [(h0, .inr (0, [.ref q9, .int 0, .int 0])), (q9, .inl (cII, 4, .inr (.inr (.inr (.inr (fun i => if i < 4 then some (r i) else none)))))), (r 0, .inl (cI, 654, .inl (fun _ => 0))), (r 1, .inl (cI, 654, .inl (fun _ => 0))), (r 2, .inl (cI, 654, .inl (fun _ => 0))), (r 3, .inl (cI, 654, .inl (fun _ => 0)))] H := hP
  have hD : va_D A [(h0, .inr (0, [.ref q9, .int 0, .int 0])), (q9, .inl (cII, 4, .inr (.inr (.inr (.inr (fun i => if i < 4 then some (r i) else none)))))), (r 0, .inl (cI, 654, .inl (fun _ => 0))), (r 1, .inl (cI, 654, .inl (fun _ => 0))), (r 2, .inl (cI, 654, .inl (fun _ => 0))), (r 3, .inl (cI, 654, .inl (fun _ => 0)))] := hD
  exact W.vret hx hb hr (fun t ht hW => ⟨⟨[(h0, .inr (0, [.ref q9, .int 0, .int 0])), (q9, .inl (cII, 4, .inr (.inr (.inr (.inr (fun i => if i < 4 then some (r i) else none)))))), (r 0, .inl (cI, 654, .inl (fun _ => 0))), (r 1, .inl (cI, 654, .inl (fun _ => 0))), (r 2, .inl (cI, 654, .inl (fun _ => 0))), (r 3, .inl (cI, 654, .inl (fun _ => 0)))], rfl, ⟨q9, r, rfl⟩, by rw [ht]; exact hP, hD⟩, hS.F ht⟩) hS.2.2 dcX0_init_16
theorem dcX3_init_0 : decode cX3_init 0 = .ok (.aload_n 0, 1) := by decide +kernel
theorem dcX3_init_1 : decode cX3_init 1 = .ok (.invokespecial 3, 3) := by decide +kernel
theorem dcX3_init_4 : decode cX3_init 4 = .ok (.aload_n 0, 1) := by decide +kernel
theorem dcX3_init_5 : decode cX3_init 5 = .ok (.bipush 40, 2) := by decide +kernel
theorem dcX3_init_7 : decode cX3_init 7 = .ok (.newarray .int, 2) := by decide +kernel
theorem dcX3_init_9 : decode cX3_init 9 = .ok (.putfield 9, 3) := by decide +kernel
theorem dcX3_init_12 : decode cX3_init 12 = .ok (.return_, 1) := by decide +kernel
def wI3 (cI cII : ClassId) (h0 : Nat) (w : va_W) : Prop := ∃ (q7 : Nat), w = [(h0, .inr (3, [.ref q7, .int 0])), (q7, .inl (cI, 40, .inl (fun _ => 0)))]
set_option maxHeartbeats 4000000 in
set_option maxRecDepth 100000 in
theorem cI3 (l : Launch) (D : va_G) (cI cZ cII : ClassId) (h0 sz : Nat) : Met l yX3_init (Cond.code yX3_init cX3_init 1 none :: g_tbl) ({ frames := 1, cells := 1, slots := 40, locals := 12 }) (va_Pc [.ref h0] (IP D cI cZ cII sz [(h0, .inr (3, [.null, .int 0]))])) (IQ D (wI3 cI cII h0) (va_A [(h0, .inr (3, [.null, .int 0]))] sz)) 1 40 (va_A [(h0, .inr (3, [.null, .int 0]))] sz) := by
  refine Met.ofW (cc := cX3_init) (maxL := 1) (ret := none) (by decide) rfl ?_
  intro p e s m args below meth c s₁ B hml hv
  obtain ⟨rfl, hsz, hP, hK, hD0, hN, hO⟩ := hv
  have hx := B.exec
  have hb := B.bytes
  have hr := B.returns
  have hts0 := atoms_spec (ws := Cond.code yX3_init cX3_init 1 none :: g_tbl) B.pre
  have hts : ∀ w ∈ g_tbl, w.before _ s = true := fun w hw => hts0 w (List.mem_cons_of_mem _ hw)
  have hown : s.vm.findClass RX3 = some m.cls := findClass_of_methodNamed B.named
  have hlocks := B.notSynchronized
  have hin : meth.name = "<init>" := (name_of_methodNamed B.named B.method).1
  subst hsz
  have hD := hD0.self (sz := s.heap.size)
  generalize hAe : va_A [(h0, .inr (3, [.null, .int 0]))] s.heap.size = A at hD ⊢
  have hA : ∀ q : Nat, s.heap.size ≤ q → A q := fun q h => by rw [← hAe]; exact Or.inr h
  have hS : va_S A s.heap s.heap [] := va_S.rf
  have hl := lv_entry ([.ref h0]) (n := 1) (Nat.le_of_ble_eq_true rfl)
  rw [lg_entry_eq]
  generalize (lg_sl ([.ref h0]) ++ List.replicate (1 - (lg_sl ([.ref h0])).length) Slot.unset).toArray = ls at hl ⊢
  have hl : lv_has ls 1 [(0, .ref h0)] := hl
  refine lv_aload_n hx hb dcX3_init_0 rfl (lv_at hl 0 rfl) ?_
  refine W.objInit hx hb hown (hts (.methodLink RX3 3 objectInit) (g_mem 173 (by decide +kernel) (by decide +kernel))) (hts (.instanceMethod objectInit) (g_mem 91 (by decide +kernel) (by decide +kernel))) (hts (.code objectInit ⟨#[0xb1]⟩ 1 none) (g_mem 92 (by decide +kernel) (by decide +kernel))) rfl (by rw [hml]; exact hl.1) rfl dcX3_init_1 (Nat.le_of_ble_eq_true rfl) (Nat.le_of_ble_eq_true rfl) ?_
  refine W.eq (g2 := F0 m 4 ls []) rfl ?_
  refine lv_aload_n hx hb dcX3_init_4 rfl (lv_at hl 0 rfl) ?_
  refine lv_bipush (v := nI 40) hx hb dcX3_init_5 (by decide) ?_
  refine q_newi (N := 40) hx hb (hts (.arrayClass .int) (g_mem 115 (by decide +kernel) (by decide +kernel))) hK hP hD hS hA (by decide) (by decide) (Nat.le_of_ble_eq_true rfl) (Nat.le_of_ble_eq_true rfl) (Nat.le_of_ble_eq_true rfl) dcX3_init_7 (fun q7 H hP hD hS => ?_)
  have hP : va_P D vwCl [(h0, .inr (3, [.null, .int 0])), (q7, .inl (cI, 40, .inl (fun _ => 0)))] H := hP
  have hD : va_D A [(h0, .inr (3, [.null, .int 0])), (q7, .inl (cI, 40, .inl (fun _ => 0)))] := hD
  refine W.widen (k := 1) (n := 40) (Nat.le_of_ble_eq_true rfl) (Nat.le_of_ble_eq_true rfl) ?_
  refine va_putF (D := D) (ci := 3) (v := .ref q7) (ty := .array .int) (C := RX3) (T := TX3) (N := 2) hx hb hts inw_3 tyX3 tyX3_ok nmX3 hown hK hP hD hS 0 rfl rfl 0 (by decide) (hts (.fieldLink RX3 9 "PhrasePool$Text" "bytes" "[I") (g_mem 174 (by decide +kernel) (by decide +kernel))) (fun _ h9 => h9) rfl hin rfl (by decide +kernel) rfl rfl (Nat.le_of_ble_eq_true rfl) dcX3_init_9 (fun H locs hP hD hS => ?_)
  have hP : va_P D vwCl [(h0, .inr (3, [.ref q7, .int 0])), (q7, .inl (cI, 40, .inl (fun _ => 0)))] H := hP
  have hD : va_D A [(h0, .inr (3, [.ref q7, .int 0])), (q7, .inl (cI, 40, .inl (fun _ => 0)))] := hD
  exact W.vret hx hb hr (fun t ht hW => ⟨⟨[(h0, .inr (3, [.ref q7, .int 0])), (q7, .inl (cI, 40, .inl (fun _ => 0)))], rfl, ⟨q7, rfl⟩, by rw [ht]; exact hP, hD⟩, hS.F ht⟩) hS.2.2 dcX3_init_12
theorem dcX4_init_0 : decode cX4_init 0 = .ok (.aload_n 0, 1) := by decide +kernel
theorem dcX4_init_1 : decode cX4_init 1 = .ok (.invokespecial 3, 3) := by decide +kernel
theorem dcX4_init_4 : decode cX4_init 4 = .ok (.aload_n 0, 1) := by decide +kernel
theorem dcX4_init_5 : decode cX4_init 5 = .ok (.bipush 11, 2) := by decide +kernel
theorem dcX4_init_7 : decode cX4_init 7 = .ok (.newarray .int, 2) := by decide +kernel
theorem dcX4_init_9 : decode cX4_init 9 = .ok (.putfield 9, 3) := by decide +kernel
theorem dcX4_init_12 : decode cX4_init 12 = .ok (.aload_n 0, 1) := by decide +kernel
theorem dcX4_init_13 : decode cX4_init 13 = .ok (.bipush 11, 2) := by decide +kernel
theorem dcX4_init_15 : decode cX4_init 15 = .ok (.newarray .int, 2) := by decide +kernel
theorem dcX4_init_17 : decode cX4_init 17 = .ok (.putfield 15, 3) := by decide +kernel
theorem dcX4_init_20 : decode cX4_init 20 = .ok (.aload_n 0, 1) := by decide +kernel
theorem dcX4_init_21 : decode cX4_init 21 = .ok (.bipush 11, 2) := by decide +kernel
theorem dcX4_init_23 : decode cX4_init 23 = .ok (.newarray .int, 2) := by decide +kernel
theorem dcX4_init_25 : decode cX4_init 25 = .ok (.putfield 18, 3) := by decide +kernel
theorem dcX4_init_28 : decode cX4_init 28 = .ok (.aload_n 0, 1) := by decide +kernel
theorem dcX4_init_29 : decode cX4_init 29 = .ok (.bipush 11, 2) := by decide +kernel
theorem dcX4_init_31 : decode cX4_init 31 = .ok (.newarray .int, 2) := by decide +kernel
theorem dcX4_init_33 : decode cX4_init 33 = .ok (.putfield 21, 3) := by decide +kernel
theorem dcX4_init_36 : decode cX4_init 36 = .ok (.return_, 1) := by decide +kernel
def wI4 (cI cII : ClassId) (h0 : Nat) (w : va_W) : Prop := ∃ (q7 : Nat) (q15 : Nat) (q23 : Nat) (q31 : Nat), w = [(h0, .inr (4, [.ref q7, .ref q15, .ref q23, .ref q31, .int 0])), (q7, .inl (cI, 11, .inl (fun _ => 0))), (q15, .inl (cI, 11, .inl (fun _ => 0))), (q23, .inl (cI, 11, .inl (fun _ => 0))), (q31, .inl (cI, 11, .inl (fun _ => 0)))]
set_option maxHeartbeats 4000000 in
set_option maxRecDepth 100000 in
theorem cI4 (l : Launch) (D : va_G) (cI cZ cII : ClassId) (h0 sz : Nat) : Met l yX4_init (Cond.code yX4_init cX4_init 1 none :: g_tbl) ({ frames := 1, cells := 4, slots := 44, locals := 12 }) (va_Pc [.ref h0] (IP D cI cZ cII sz [(h0, .inr (4, [.null, .null, .null, .null, .int 0]))])) (IQ D (wI4 cI cII h0) (va_A [(h0, .inr (4, [.null, .null, .null, .null, .int 0]))] sz)) 4 44 (va_A [(h0, .inr (4, [.null, .null, .null, .null, .int 0]))] sz) := by
  refine Met.ofW (cc := cX4_init) (maxL := 1) (ret := none) (by decide) rfl ?_
  intro p e s m args below meth c s₁ B hml hv
  obtain ⟨rfl, hsz, hP, hK, hD0, hN, hO⟩ := hv
  have hx := B.exec
  have hb := B.bytes
  have hr := B.returns
  have hts0 := atoms_spec (ws := Cond.code yX4_init cX4_init 1 none :: g_tbl) B.pre
  have hts : ∀ w ∈ g_tbl, w.before _ s = true := fun w hw => hts0 w (List.mem_cons_of_mem _ hw)
  have hown : s.vm.findClass RX4 = some m.cls := findClass_of_methodNamed B.named
  have hlocks := B.notSynchronized
  have hin : meth.name = "<init>" := (name_of_methodNamed B.named B.method).1
  subst hsz
  have hD := hD0.self (sz := s.heap.size)
  generalize hAe : va_A [(h0, .inr (4, [.null, .null, .null, .null, .int 0]))] s.heap.size = A at hD ⊢
  have hA : ∀ q : Nat, s.heap.size ≤ q → A q := fun q h => by rw [← hAe]; exact Or.inr h
  have hS : va_S A s.heap s.heap [] := va_S.rf
  have hl := lv_entry ([.ref h0]) (n := 1) (Nat.le_of_ble_eq_true rfl)
  rw [lg_entry_eq]
  generalize (lg_sl ([.ref h0]) ++ List.replicate (1 - (lg_sl ([.ref h0])).length) Slot.unset).toArray = ls at hl ⊢
  have hl : lv_has ls 1 [(0, .ref h0)] := hl
  refine lv_aload_n hx hb dcX4_init_0 rfl (lv_at hl 0 rfl) ?_
  refine W.objInit hx hb hown (hts (.methodLink RX4 3 objectInit) (g_mem 189 (by decide +kernel) (by decide +kernel))) (hts (.instanceMethod objectInit) (g_mem 91 (by decide +kernel) (by decide +kernel))) (hts (.code objectInit ⟨#[0xb1]⟩ 1 none) (g_mem 92 (by decide +kernel) (by decide +kernel))) rfl (by rw [hml]; exact hl.1) rfl dcX4_init_1 (Nat.le_of_ble_eq_true rfl) (Nat.le_of_ble_eq_true rfl) ?_
  refine W.eq (g2 := F0 m 4 ls []) rfl ?_
  refine lv_aload_n hx hb dcX4_init_4 rfl (lv_at hl 0 rfl) ?_
  refine lv_bipush (v := nI 11) hx hb dcX4_init_5 (by decide) ?_
  refine q_newi (N := 11) hx hb (hts (.arrayClass .int) (g_mem 115 (by decide +kernel) (by decide +kernel))) hK hP hD hS hA (by decide) (by decide) (Nat.le_of_ble_eq_true rfl) (Nat.le_of_ble_eq_true rfl) (Nat.le_of_ble_eq_true rfl) dcX4_init_7 (fun q7 H hP hD hS => ?_)
  have hP : va_P D vwCl [(h0, .inr (4, [.null, .null, .null, .null, .int 0])), (q7, .inl (cI, 11, .inl (fun _ => 0)))] H := hP
  have hD : va_D A [(h0, .inr (4, [.null, .null, .null, .null, .int 0])), (q7, .inl (cI, 11, .inl (fun _ => 0)))] := hD
  refine W.widen (k := 1) (n := 11) (Nat.le_of_ble_eq_true rfl) (Nat.le_of_ble_eq_true rfl) ?_
  refine va_putF (D := D) (ci := 4) (v := .ref q7) (ty := .array .int) (C := RX4) (T := TX4) (N := 5) hx hb hts inw_4 tyX4 tyX4_ok nmX4 hown hK hP hD hS 0 rfl rfl 0 (by decide) (hts (.fieldLink RX4 9 "PhrasePool$Ways" "costs" "[I") (g_mem 190 (by decide +kernel) (by decide +kernel))) (fun _ h9 => h9) rfl hin rfl (by decide +kernel) rfl rfl (Nat.le_of_ble_eq_true rfl) dcX4_init_9 (fun H locs hP hD hS => ?_)
  have hP : va_P D vwCl [(h0, .inr (4, [.ref q7, .null, .null, .null, .int 0])), (q7, .inl (cI, 11, .inl (fun _ => 0)))] H := hP
  have hD : va_D A [(h0, .inr (4, [.ref q7, .null, .null, .null, .int 0])), (q7, .inl (cI, 11, .inl (fun _ => 0)))] := hD
  refine lv_aload_n hx hb dcX4_init_12 rfl (lv_at hl 0 rfl) ?_
  refine lv_bipush (v := nI 11) hx hb dcX4_init_13 (by decide) ?_
  refine q_newi (N := 11) hx hb (hts (.arrayClass .int) (g_mem 115 (by decide +kernel) (by decide +kernel))) hK hP hD hS hA (by decide) (by decide) (Nat.le_of_ble_eq_true rfl) (Nat.le_of_ble_eq_true rfl) (Nat.le_of_ble_eq_true rfl) dcX4_init_15 (fun q15 H hP hD hS => ?_)
  have hP : va_P D vwCl [(h0, .inr (4, [.ref q7, .null, .null, .null, .int 0])), (q7, .inl (cI, 11, .inl (fun _ => 0))), (q15, .inl (cI, 11, .inl (fun _ => 0)))] H := hP
  have hD : va_D A [(h0, .inr (4, [.ref q7, .null, .null, .null, .int 0])), (q7, .inl (cI, 11, .inl (fun _ => 0))), (q15, .inl (cI, 11, .inl (fun _ => 0)))] := hD
  refine W.widen (k := 2) (n := 22) (Nat.le_of_ble_eq_true rfl) (Nat.le_of_ble_eq_true rfl) ?_
  refine va_putF (D := D) (ci := 4) (v := .ref q15) (ty := .array .int) (C := RX4) (T := TX4) (N := 5) hx hb hts inw_4 tyX4 tyX4_ok nmX4 hown hK hP hD hS 0 rfl rfl 1 (by decide) (hts (.fieldLink RX4 15 "PhrasePool$Ways" "lengths" "[I") (g_mem 191 (by decide +kernel) (by decide +kernel))) (fun _ h9 => h9) rfl hin rfl (by decide +kernel) rfl rfl (Nat.le_of_ble_eq_true rfl) dcX4_init_17 (fun H locs hP hD hS => ?_)
  have hP : va_P D vwCl [(h0, .inr (4, [.ref q7, .ref q15, .null, .null, .int 0])), (q7, .inl (cI, 11, .inl (fun _ => 0))), (q15, .inl (cI, 11, .inl (fun _ => 0)))] H := hP
  have hD : va_D A [(h0, .inr (4, [.ref q7, .ref q15, .null, .null, .int 0])), (q7, .inl (cI, 11, .inl (fun _ => 0))), (q15, .inl (cI, 11, .inl (fun _ => 0)))] := hD
  refine lv_aload_n hx hb dcX4_init_20 rfl (lv_at hl 0 rfl) ?_
  refine lv_bipush (v := nI 11) hx hb dcX4_init_21 (by decide) ?_
  refine q_newi (N := 11) hx hb (hts (.arrayClass .int) (g_mem 115 (by decide +kernel) (by decide +kernel))) hK hP hD hS hA (by decide) (by decide) (Nat.le_of_ble_eq_true rfl) (Nat.le_of_ble_eq_true rfl) (Nat.le_of_ble_eq_true rfl) dcX4_init_23 (fun q23 H hP hD hS => ?_)
  have hP : va_P D vwCl [(h0, .inr (4, [.ref q7, .ref q15, .null, .null, .int 0])), (q7, .inl (cI, 11, .inl (fun _ => 0))), (q15, .inl (cI, 11, .inl (fun _ => 0))), (q23, .inl (cI, 11, .inl (fun _ => 0)))] H := hP
  have hD : va_D A [(h0, .inr (4, [.ref q7, .ref q15, .null, .null, .int 0])), (q7, .inl (cI, 11, .inl (fun _ => 0))), (q15, .inl (cI, 11, .inl (fun _ => 0))), (q23, .inl (cI, 11, .inl (fun _ => 0)))] := hD
  refine W.widen (k := 3) (n := 33) (Nat.le_of_ble_eq_true rfl) (Nat.le_of_ble_eq_true rfl) ?_
  refine va_putF (D := D) (ci := 4) (v := .ref q23) (ty := .array .int) (C := RX4) (T := TX4) (N := 5) hx hb hts inw_4 tyX4 tyX4_ok nmX4 hown hK hP hD hS 0 rfl rfl 2 (by decide) (hts (.fieldLink RX4 18 "PhrasePool$Ways" "firsts" "[I") (g_mem 192 (by decide +kernel) (by decide +kernel))) (fun _ h9 => h9) rfl hin rfl (by decide +kernel) rfl rfl (Nat.le_of_ble_eq_true rfl) dcX4_init_25 (fun H locs hP hD hS => ?_)
  have hP : va_P D vwCl [(h0, .inr (4, [.ref q7, .ref q15, .ref q23, .null, .int 0])), (q7, .inl (cI, 11, .inl (fun _ => 0))), (q15, .inl (cI, 11, .inl (fun _ => 0))), (q23, .inl (cI, 11, .inl (fun _ => 0)))] H := hP
  have hD : va_D A [(h0, .inr (4, [.ref q7, .ref q15, .ref q23, .null, .int 0])), (q7, .inl (cI, 11, .inl (fun _ => 0))), (q15, .inl (cI, 11, .inl (fun _ => 0))), (q23, .inl (cI, 11, .inl (fun _ => 0)))] := hD
  refine lv_aload_n hx hb dcX4_init_28 rfl (lv_at hl 0 rfl) ?_
  refine lv_bipush (v := nI 11) hx hb dcX4_init_29 (by decide) ?_
  refine q_newi (N := 11) hx hb (hts (.arrayClass .int) (g_mem 115 (by decide +kernel) (by decide +kernel))) hK hP hD hS hA (by decide) (by decide) (Nat.le_of_ble_eq_true rfl) (Nat.le_of_ble_eq_true rfl) (Nat.le_of_ble_eq_true rfl) dcX4_init_31 (fun q31 H hP hD hS => ?_)
  have hP : va_P D vwCl [(h0, .inr (4, [.ref q7, .ref q15, .ref q23, .null, .int 0])), (q7, .inl (cI, 11, .inl (fun _ => 0))), (q15, .inl (cI, 11, .inl (fun _ => 0))), (q23, .inl (cI, 11, .inl (fun _ => 0))), (q31, .inl (cI, 11, .inl (fun _ => 0)))] H := hP
  have hD : va_D A [(h0, .inr (4, [.ref q7, .ref q15, .ref q23, .null, .int 0])), (q7, .inl (cI, 11, .inl (fun _ => 0))), (q15, .inl (cI, 11, .inl (fun _ => 0))), (q23, .inl (cI, 11, .inl (fun _ => 0))), (q31, .inl (cI, 11, .inl (fun _ => 0)))] := hD
  refine W.widen (k := 4) (n := 44) (Nat.le_of_ble_eq_true rfl) (Nat.le_of_ble_eq_true rfl) ?_
  refine va_putF (D := D) (ci := 4) (v := .ref q31) (ty := .array .int) (C := RX4) (T := TX4) (N := 5) hx hb hts inw_4 tyX4 tyX4_ok nmX4 hown hK hP hD hS 0 rfl rfl 3 (by decide) (hts (.fieldLink RX4 21 "PhrasePool$Ways" "nexts" "[I") (g_mem 193 (by decide +kernel) (by decide +kernel))) (fun _ h9 => h9) rfl hin rfl (by decide +kernel) rfl rfl (Nat.le_of_ble_eq_true rfl) dcX4_init_33 (fun H locs hP hD hS => ?_)
  have hP : va_P D vwCl [(h0, .inr (4, [.ref q7, .ref q15, .ref q23, .ref q31, .int 0])), (q7, .inl (cI, 11, .inl (fun _ => 0))), (q15, .inl (cI, 11, .inl (fun _ => 0))), (q23, .inl (cI, 11, .inl (fun _ => 0))), (q31, .inl (cI, 11, .inl (fun _ => 0)))] H := hP
  have hD : va_D A [(h0, .inr (4, [.ref q7, .ref q15, .ref q23, .ref q31, .int 0])), (q7, .inl (cI, 11, .inl (fun _ => 0))), (q15, .inl (cI, 11, .inl (fun _ => 0))), (q23, .inl (cI, 11, .inl (fun _ => 0))), (q31, .inl (cI, 11, .inl (fun _ => 0)))] := hD
  exact W.vret hx hb hr (fun t ht hW => ⟨⟨[(h0, .inr (4, [.ref q7, .ref q15, .ref q23, .ref q31, .int 0])), (q7, .inl (cI, 11, .inl (fun _ => 0))), (q15, .inl (cI, 11, .inl (fun _ => 0))), (q23, .inl (cI, 11, .inl (fun _ => 0))), (q31, .inl (cI, 11, .inl (fun _ => 0)))], rfl, ⟨q7, q15, q23, q31, rfl⟩, by rw [ht]; exact hP, hD⟩, hS.F ht⟩) hS.2.2 dcX4_init_36
