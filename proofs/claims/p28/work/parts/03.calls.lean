/-! CONTRACTS: a method called at depth d with these arguments in this state comes back with an answer and a state of Q; calls -/
def QZ (D : va_G) (ad : Nat → Nat) (cI cZ cII : ClassId) (sz : Nat) (Q : Option Value → SS → Prop) : Array Value → State → Outcome → State → Prop := fun _ s0 oc t =>
  (∃ (r : Option Value) (σ' : SS), oc = .returned (r.map (rv ad)) ∧ Q r σ' ∧ va_P D vwCl (wld ad cI cZ cII σ') t.heap ∧ va_D (AA ad sz) (wld ad cI cZ cII σ')) ∧ va_F (AA ad sz) s0 t
def WP (D : va_G) (ad : Nat → Nat) (cI cZ cII : ClassId) (sz : Nat) (σ : SS) (U : State) : Prop :=
  U.heap.size = sz ∧ va_P D vwCl (wld ad cI cZ cII σ) U.heap ∧ va_K D vwCl [(cI, .int), (cZ, .boolean), (cII, .array .int)] U ∧ va_D (fun _ => True) (wld ad cI cZ cII σ) ∧ (∀ w ∈ n_tbl, va_Nw w U) ∧ Sta ad (AA ad sz) U U.heap
def CT0 (M : MD) (d : Nat) (As : List Value) (σ : SS) (Q : Option Value → SS → Prop) : Prop :=
  ∀ Q' : Option Value → SS → Prop, (∀ r σ', Q r σ' → Q' r σ') → ∀ (l : Launch) (D : va_G) (ad : Nat → Nat) (cI cZ cII : ClassId) (sz : Nat),
    Met l (my M) (Cond.code (my M) (mc M) (ml M) (mr M) :: g_tbl) (rmd d) (va_Pc (As.map (rv ad)) (WP D ad cI cZ cII sz σ)) (QZ D ad cI cZ cII sz Q') 0 0 (AA ad sz)
theorem CT0.imp {M : MD} {d : Nat} {As : List Value} {σ : SS} {Q Q2 : Option Value → SS → Prop} (h : CT0 M d As σ Q) (hi : ∀ r σ', Q r σ' → Q2 r σ') : CT0 M d As σ Q2 := fun Q' hQ => h Q' (fun r σ' q => hQ r σ' (hi r σ' q))
def CTi0 (M : MD) (d : Nat) (As : List Value) (σ : SS) (K : Int32 → SS → Prop) : Prop := CT0 M d As σ (fun r σ' => ∃ x : Int32, r = some (.int x) ∧ K x σ')
def CTl0 (M : MD) (d : Nat) (As : List Value) (σ : SS) (K : Int64 → SS → Prop) : Prop := CT0 M d As σ (fun r σ' => ∃ x : Int64, r = some (.long x) ∧ K x σ')
def CTv0 (M : MD) (d : Nat) (As : List Value) (σ : SS) (K : SS → Prop) : Prop := CT0 M d As σ (fun r σ' => r = none ∧ K σ')
theorem CTi0.imp {M : MD} {d : Nat} {As : List Value} {σ : SS} {K K2 : Int32 → SS → Prop} (h : CTi0 M d As σ K) (hi : ∀ x σ', K x σ' → K2 x σ') : CTi0 M d As σ K2 := CT0.imp h (fun r σ' ⟨x, h1, h2⟩ => ⟨x, h1, hi x σ' h2⟩)
theorem CTl0.imp {M : MD} {d : Nat} {As : List Value} {σ : SS} {K K2 : Int64 → SS → Prop} (h : CTl0 M d As σ K) (hi : ∀ x σ', K x σ' → K2 x σ') : CTl0 M d As σ K2 := CT0.imp h (fun r σ' ⟨x, h1, h2⟩ => ⟨x, h1, hi x σ' h2⟩)
theorem CTv0.imp {M : MD} {d : Nat} {As : List Value} {σ : SS} {K K2 : SS → Prop} (h : CTv0 M d As σ K) (hi : ∀ σ', K σ' → K2 σ') : CTv0 M d As σ K2 := CT0.imp h (fun r σ' ⟨h1, h2⟩ => ⟨h1, hi σ' h2⟩)
/-- the locals with which a method begins -/
def ent : List Value → List (Option Value)
  | [] => []
  | v :: vs => if v.category = 2 then some v :: none :: ent vs else some v :: ent vs
theorem ldv_nones : ∀ (k i : Nat) (v : Value), ldv i (List.replicate k none) = some v → False
  | 0, 0, v, h => by cases h
  | 0, i + 1, v, h => by cases h
  | k + 1, 0, v, h => by cases h
  | k + 1, i + 1, v, h => ldv_nones k i v h
theorem ent_args {ad : Nat → Nat} (k : Nat) : ∀ (As : List Value) (b i : Nat) (v : Value), ldv i (ent As ++ List.replicate k none) = some v → (b + i, rv ad v) ∈ lv_args b (As.map (rv ad)) := by
  intro As
  induction As with
  | nil => exact fun b i v h => (ldv_nones k i v h).elim
  | cons a r ih =>
    intro b i v h
    by_cases hc : a.category = 2
    · have e : ent (a :: r) = some a :: none :: ent r := by simp [ent, hc]
      rw [e] at h
      have e2 : lv_args b ((a :: r).map (rv ad)) = (b, rv ad a) :: lv_args (b + 2) (r.map (rv ad)) := by
        show (b, rv ad a) :: lv_args (if (rv ad a).category = 2 then b + 2 else b + 1) (r.map (rv ad)) = _
        rw [rv_cat, if_pos hc]
      rw [e2]
      match i, h with
      | 0, h =>
        cases h
        exact List.mem_cons_self
      | 1, h => cases h
      | i + 2, h =>
        have h1 := ih (b + 2) i v h
        rw [show b + (i + 2) = b + 2 + i by omega]
        exact List.mem_cons_of_mem _ h1
    · have e : ent (a :: r) = some a :: ent r := by simp [ent, hc]
      rw [e] at h
      have e2 : lv_args b ((a :: r).map (rv ad)) = (b, rv ad a) :: lv_args (b + 1) (r.map (rv ad)) := by
        show (b, rv ad a) :: lv_args (if (rv ad a).category = 2 then b + 2 else b + 1) (r.map (rv ad)) = _
        rw [rv_cat, if_neg hc]
      rw [e2]
      match i, h with
      | 0, h =>
        cases h
        exact List.mem_cons_self
      | i + 1, h =>
        have h1 := ih (b + 1) i v h
        rw [show b + (i + 1) = b + 1 + i by omega]
        exact List.mem_cons_of_mem _ h1
theorem ent_len (ad : Nat → Nat) : ∀ As : List Value, (lg_sl (As.map (rv ad))).length = (ent As).length
  | [] => rfl
  | v :: vs => by
    have h := ent_len ad vs
    unfold lg_sl at h ⊢
    by_cases hc : v.category = 2
    · simp [ent, hc, rv_cat] at h ⊢
      omega
    · simp [ent, hc, rv_cat] at h ⊢
      omega
theorem w_mem {ad : Nat → Nat} {cI cZ cII : ClassId} {σ : SS} {k : Nat} {x : Nat × va_E} (h : (wld ad cI cZ cII σ)[k]? = some x) : ∃ p, (p < 37 ∧ p ≠ 11) ∧ x.1 = ad p := by
  have hk : k < 36 := by
    have := (List.getElem?_eq_some_iff.mp h).1
    rw [wld_len] at this
    exact this
  rw [wld_pl hk] at h
  cases h
  exact ⟨px k, px_ok hk, rfl⟩
theorem w_AA {ad : Nat → Nat} {cI cZ cII : ClassId} {σ : SS} {A : Nat → Prop} (sz : Nat) (h : va_D A (wld ad cI cZ cII σ)) : va_D (AA ad sz) (wld ad cI cZ cII σ) := ⟨h.1, fun k x hx => by
  obtain ⟨p, hk, e⟩ := w_mem hx
  exact Or.inl ⟨p, hk, e⟩⟩
/-- a contract out of a walk of its body -/
theorem CT_of0 {M : MD} {d : Nat} {As : List Value} {σ : SS} {Q : Option Value → SS → Prop} {L : List (Option Value)} (hy : plainName (my M).cls = true) (hcls : RN (mo M) = (my M).cls) (h8 : hasS M = false) (hn : (ent As).length ≤ ml M) (hL : ent As ++ List.replicate (ml M - (ent As).length) none = L) (k : VV0 M d (0, fun _ => 0) 0 L [] σ Q) : CT0 M d As σ Q := by
  intro Q' hQ l D ad cI cZ cII sz
  refine Met.ofW (cc := mc M) (maxL := ml M) (ret := mr M) hy rfl ?_
  intro p e s m args below meth c s₁ B hml hv
  obtain ⟨rfl, hsz, hP, hK, hD0, hN, hSt⟩ := hv
  have hts := atoms_spec (ws := Cond.code (my M) (mc M) (ml M) (mr M) :: g_tbl) B.pre
  have hown : s.vm.findClass (RN (mo M)) = some m.cls := by rw [hcls]; exact findClass_of_methodNamed B.named
  have hlocks := B.notSynchronized
  subst hsz
  have hS : va_S (AA ad s.heap.size) s.heap s.heap [] := va_S.rf
  have hD := w_AA s.heap.size hD0
  have hlen : (lg_sl (As.map (rv ad))).length ≤ ml M := by rw [ent_len]; exact hn
  have hl := lv_entry (As.map (rv ad)) hlen
  rw [lg_entry_eq]
  generalize (lg_sl (As.map (rv ad)) ++ List.replicate (ml M - (lg_sl (As.map (rv ad))).length) Slot.unset).toArray = ls at hl ⊢
  have hLH : LH ad ls (ml M) L := by
    subst hL
    refine ⟨by rw [List.length_append, List.length_replicate]; omega, hl.1, hl.2.1, fun i v hv => ?_⟩
    have h1 := ent_args (ad := ad) _ As 0 i v hv
    rw [Nat.zero_add] at h1
    exact hl.2.2 _ h1
  refine k p l e (headSpec (Cond.code (my M) (mc M) (ml M) (mr M) :: g_tbl) (rmd d)).room s m ((As.map (rv ad)).toArray) below meth c D ad cI cZ cII (AA ad s.heap.size) 0 0 _ ⟨B.exec, B.bytes, hml, B.returns, hlocks, fun w hw => hts w (List.mem_cons_of_mem _ hw), hown, hN, hK, hSt, fun q hq => Or.inr hq, ⟨Nat.le_refl _, Nat.le_refl _, Nat.zero_le _, Nat.zero_le _⟩, fun h => absurd (h8.symm.trans h) (by decide)⟩ ?_ s.heap [] ls ⟨hP, hD, hS⟩ hLH
  intro r σ' H locs ls' pc' hret hq hW
  have post : ∀ t : State, t.heap = H → s.WarmedH t.vm → QZ D ad cI cZ cII s.heap.size Q' ((As.map (rv ad)).toArray) s (.returned (r.map (rv ad))) t := fun t ht _ => ⟨⟨r, σ', rfl, hQ r σ' hq, by rw [ht]; exact hW.1, hW.2.1⟩, hW.2.2.F ht⟩
  match r, hret, post with
  | none, hret, post => exact W.vret B.exec B.bytes (B.returns.trans hret.2) post hW.2.2.2.2 hret.1 hlocks
  | some (.int v), hret, post =>
    obtain ⟨h1, ty, h2, h3⟩ := hret
    exact W.zret B.exec B.bytes (B.returns.trans h2) h3 post hW.2.2.2.2 h1 hlocks
  | some (.long v), hret, post => exact W.lret B.exec B.bytes (B.returns.trans hret.2) post hW.2.2.2.2 hret.1 hlocks
/-- the callee's world out of the caller's -/
theorem WP_of {D : va_G} {ad : Nat → Nat} {cI cZ cII : ClassId} {A : Nat → Prop} {s : State} {σ : SS} {H : Heap} {locs : List Loc} (hK : va_K D vwCl [(cI, .int), (cZ, .boolean), (cII, .array .int)] s) (hN : ∀ w ∈ n_tbl, va_Nw w s) (hSt : Sta ad A s s.heap) (hA : ∀ q, s.heap.size ≤ q → A q) (hW : Wd D ad cI cZ cII A s σ H locs) (U : State) (hU : U.heap = H) (hwm : s.WarmedH U.vm) : WP D ad cI cZ cII H.size σ U := by
  have sub : ∀ q, AA ad H.size q → A q := fun q h => by
    rcases h with ⟨k, hk, rfl⟩ | h
    · exact hW.2.1.2 (ix k) _ (wld_at hk.1 hk.2)
    · exact hA q (Nat.le_trans hW.2.2.1 h)
  refine ⟨by rw [hU], by rw [hU]; exact hW.1, va_K.moved hwm.alike hK, hW.2.1.weaken (fun _ _ _ _ => trivial), n_warm hwm hN, fun g hg => ?_⟩
  rw [hU]
  exact ⟨((va_Z.kept (hSt g hg).1 hW.2.2.2.1).moved hwm.alike).narrow sub, ((va_T.kept (hSt g hg).2 hW.2.2.2.1).moved hwm.alike).narrow sub⟩
theorem WP_blind {D : va_G} {ad : Nat → Nat} {cI cZ cII : ClassId} {sz : Nat} {σ : SS} {As : List Value} : FrameBlind (va_Pc As (WP D ad cI cZ cII sz σ)) := by
  intro a U g mk q
  obtain ⟨q0, q1, qP, qK, qD, qN, qS⟩ := q
  exact ⟨q0, q1, qP, va_K.moved (u := U) (U := U.calling g mk a) (Vm.Alike.refl U.vm) qK, qD, n_same (u := U) rfl qN, fun g' hg => ⟨(qS g' hg).1.moved (Vm.Alike.refl U.vm), (qS g' hg).2.moved (Vm.Alike.refl U.vm)⟩⟩
section CALLS
variable {M M' : MD} {d pc q : Nat} {sc : Scr} {L : List (Option Value)} {st : List Value} {σ : SS} {Q : Option Value → SS → Prop}
/-- behind a call -/
theorem c_behind {p : Program} {l : Launch} {e : Env} {R : Room} {s : State} {m : MethodId} {args : Array Value} {below : List Frame} {meth : Method} {c : Code} {D : va_G} {ad : Nat → Nat} {cI cZ cII : ClassId} {A : Nat → Prop} {cells slots : Nat} {Z : State → Prop} {H : Heap} {locs : List Loc} {ls : Array Slot} {st0 : List Value} {a : Array Value} (hA : ∀ q, s.heap.size ≤ q → A q) (hW : Wd D ad cI cZ cII A s σ H locs)
    (hr : va_Run p l e R s m args below meth c H locs cells slots 0 0 (F0 m pc ls st0) (st.map (rv ad)) (QZ D ad cI cZ cII H.size Q a) (AA ad H.size))
    (kk : ∀ (r : Option Value) (σ' : SS) (H1 : Heap) (locs1 : List Loc), Q r σ' → Wd D ad cI cZ cII A s σ' H1 locs1 → W p l e R s m args below meth c H1 locs1 cells slots Z (F0 m (pc + 3) ls ((r.toList ++ st).map (rv ad)))) : W p l e R s m args below meth c H locs cells slots Z (F0 m pc ls st0) := by
  have sub : ∀ q, AA ad H.size q → A q := fun q h => by
    rcases h with ⟨k, hk, rfl⟩ | h
    · exact hW.2.1.2 (ix k) _ (wld_at hk.1 hk.2)
    · exact hA q (Nat.le_trans hW.2.2.1 h)
  intro T hT X
  obtain ⟨v, s₀, t, T', L0, h0, X', hL, e1, e2, ⟨⟨r, σ', hv, hQ, hP1, hD1⟩, hz, hk⟩, stp⟩ := hr T hT X
  cases hv
  rw [h0] at hz hk
  have hS := hW.2.2
  obtain ⟨t2, a1, b1⟩ := kk r σ' T'.heap (locs ++ L0) hQ ⟨by rw [e1]; exact hP1, hD1.weaken (fun _ x _ h => sub x.1 h), ⟨Nat.le_trans hS.1 (by rw [e1]; exact hz), fun q h1 h2 => by rw [e1, hk q (Nat.lt_of_lt_of_le h1 hS.1) (fun z => h2 (sub q z))]; exact hS.2.1 q h1 h2, fun q hq => by
      rcases List.mem_append.mp hq with h | h
      · exact hS.2.2 q h
      · exact sub _ (hL q h)⟩⟩ T' rfl X'
  refine ⟨t2, stp t2 ?_, b1⟩
  rw [List.map_append] at a1
  cases r with
  | none => exact a1
  | some v => exact a1
theorem good_all {M' : MD} (h : Cond.code (my M') (mc M') (ml M') (mr M') ∈ g_tbl) : GoodIn g_tbl (Cond.code (my M') (mc M') (ml M') (mr M') :: g_tbl) := fun w hw => by
  rcases List.mem_cons.mp hw with rfl | hw
  · exact ⟨h, g_good h⟩
  · exact ⟨hw, g_good hw⟩
theorem v_callV0 {idx ci n pp : Nat} {As vs : List Value} (hd : decode (mc M) pc = .ok (.invokevirtual idx, 3)) (hq : pc + 3 = q) (hl : LKV (mo M) idx M' n ci) (hdd : 1 ≤ d) (hn : As.length = n) (ho : obj pp σ = some (ci, vs)) (hs : (st.map fun v => v.category).sum ≤ 8) (k : CT0 M' (d - 1) (.ref pp :: As) σ (fun r σ1 => VV0 M d sc q L (r.toList ++ st) σ1 Q)) : VV0 M d sc pc L (As.reverse ++ .ref pp :: st) σ Q := by
  subst hq
  intro p l e R s m args below meth c D ad cI cZ cII A cells slots Z C hZ H locs ls hW hL
  obtain ⟨hx, hb, hml, hr, hlk, hts, hown, hnw, hK, hSt, hA, hR, hlaw⟩ := id C
  obtain ⟨⟨⟨hcode, hini, hdesc, hml'⟩, hinst, hsel, hcls⟩, hlink⟩ := hl
  have hst : (As.reverse ++ .ref pp :: st).map (rv ad) = (As.map (rv ad)).reverse ++ .ref (ad pp) :: st.map (rv ad) := by simp [List.map_reverse, rv]
  rw [hst]
  have hG := good_all hcode
  obtain ⟨qc, hqc, hqn⟩ := Option.map_eq_some_iff.mp hcls
  have hrv := va_recv hK hW.1 hqc (wld_obj ho)
  rw [hqn] at hrv
  have r1 := hR.1
  have r2 := hR.2.1
  refine c_behind hA hW (va_runV (As := As.map (rv ad)) (rest := st.map (rv ad)) (b := ad pp) (n := n) ⟨hx, hb, hml, hown, hts⟩ (k _ (fun _ _ h => h) l D ad cI cZ cII H.size) ⟨callB_of n hts hG rfl rfl rfl (hts _ hini) (hts _ hlink) hdesc ⟨by show d - 1 + 1 ≤ R.frames; omega, by show 8 + (ml M' + 11) + 35 * (d - 1) ≤ R.locals; omega⟩, hts _ hinst, hts _ hsel⟩ ⟨WP_blind, hrv, fun U hU hwm => ⟨by simp [rv], WP_of hK hnw hSt hA hW U hU hwm⟩⟩ rfl (by rw [List.length_map]; exact hn) hL.2.1 rfl (lv_room (by rw [rv_cats]; exact hs)) hd ⟨hR.2.2.1, hR.2.2.2⟩) (fun r σ' H1 locs1 hQ hW1 => ?_)
  exact hQ p l e R s m args below meth c D ad cI cZ cII A cells slots Z C hZ H1 locs1 ls hW1 hL
theorem v_callN0 {idx ci n pp : Nat} {As vs : List Value} (hd : decode (mc M) pc = .ok (.invokevirtual idx, 3)) (hq : pc + 3 = q) (hl : LKN (mo M) idx M' n ci) (hdd : 1 ≤ d) (hn : As.length = n) (ho : obj pp σ = some (ci, vs)) (hs : (st.map fun v => v.category).sum ≤ 8) (k : CT0 M' (d - 1) (.ref pp :: As) σ (fun r σ1 => VV0 M d sc q L (r.toList ++ st) σ1 Q)) : VV0 M d sc pc L (As.reverse ++ .ref pp :: st) σ Q := by
  subst hq
  intro p l e R s m args below meth c D ad cI cZ cII A cells slots Z C hZ H locs ls hW hL
  obtain ⟨hx, hb, hml, hr, hlk, hts, hown, hnw, hK, hSt, hA, hR, hlaw⟩ := id C
  obtain ⟨⟨⟨hcode, hini, hdesc, hml'⟩, hinst, hsel, hcls⟩, host, hlink⟩ := hl
  have hst : (As.reverse ++ .ref pp :: st).map (rv ad) = (As.map (rv ad)).reverse ++ .ref (ad pp) :: st.map (rv ad) := by simp [List.map_reverse, rv]
  rw [hst]
  have hG := good_all hcode
  obtain ⟨qc, hqc, hqn⟩ := Option.map_eq_some_iff.mp hcls
  have hrv := va_recv hK hW.1 hqc (wld_obj ho)
  rw [hqn] at hrv
  have r1 := hR.1
  have r2 := hR.2.1
  refine c_behind hA hW (va_runVN (As := As.map (rv ad)) (rest := st.map (rv ad)) (b := ad pp) (n := n) ⟨hx, hb, hml, hown, hts⟩ (k _ (fun _ _ h => h) l D ad cI cZ cII H.size) ⟨va_cnB n hts hG rfl rfl rfl (hnw _ hlink) (hts _ hini) hdesc ⟨by show d - 1 + 1 ≤ R.frames; omega, by show 8 + (ml M' + 11) + 35 * (d - 1) ≤ R.locals; omega⟩, hts _ hinst, hts _ hsel⟩ ⟨WP_blind, hrv, fun U hU hwm => ⟨by simp [rv], WP_of hK hnw hSt hA hW U hU hwm⟩⟩ rfl (by rw [List.length_map]; exact hn) hL.2.1 rfl (lv_room (by rw [rv_cats]; exact hs)) hd ⟨hR.2.2.1, hR.2.2.2⟩) (fun r σ' H1 locs1 hQ hW1 => ?_)
  exact hQ p l e R s m args below meth c D ad cI cZ cII A cells slots Z C hZ H1 locs1 ls hW1 hL
theorem v_callS0 {idx n : Nat} {As : List Value} (hd : decode (mc M) pc = .ok (.invokestatic idx, 3)) (hq : pc + 3 = q) (hl : LKS (mo M) idx M' n) (hdd : 1 ≤ d) (hn : As.length = n) (hs : (st.map fun v => v.category).sum ≤ 8) (k : CT0 M' (d - 1) As σ (fun r σ1 => VV0 M d sc q L (r.toList ++ st) σ1 Q)) : VV0 M d sc pc L (As.reverse ++ st) σ Q := by
  subst hq
  intro p l e R s m args below meth c D ad cI cZ cII A cells slots Z C hZ H locs ls hW hL
  obtain ⟨hx, hb, hml, hr, hlk, hts, hown, hnw, hK, hSt, hA, hR, hlaw⟩ := id C
  obtain ⟨⟨hcode, hini, hdesc, hml'⟩, hlink, hstat⟩ := hl
  have hst : (As.reverse ++ st).map (rv ad) = (As.map (rv ad)).reverse ++ st.map (rv ad) := by simp [List.map_reverse]
  rw [hst]
  have hG := good_all hcode
  have r1 := hR.1
  have r2 := hR.2.1
  refine c_behind hA hW (va_runS (As := As.map (rv ad)) (rest := st.map (rv ad)) (n := n) ⟨hx, hb, hml, hown, hts⟩ (k _ (fun _ _ h => h) l D ad cI cZ cII H.size) ⟨callB_of n hts hG rfl rfl rfl (hts _ hini) (hts _ hlink) hdesc ⟨by show d - 1 + 1 ≤ R.frames; omega, by show 8 + (ml M' + 11) + 35 * (d - 1) ≤ R.locals; omega⟩, hts _ hstat⟩ ⟨WP_blind, fun U hU hwm => ⟨rfl, WP_of hK hnw hSt hA hW U hU hwm⟩⟩ rfl (by rw [List.length_map]; exact hn) hL.2.1 rfl (lv_room (by rw [rv_cats]; exact hs)) hd ⟨hR.2.2.1, hR.2.2.2⟩) (fun r σ' H1 locs1 hQ hW1 => ?_)
  exact hQ p l e R s m args below meth c D ad cI cZ cII A cells slots Z C hZ H1 locs1 ls hW1 hL
/-- the ends -/
theorem v_ret0 (hd : decode (mc M) pc = .ok (.return_, 1)) (hr : mr M = none) (k : Q none σ) : VV0 M d sc pc L [] σ Q := by
  intro p l e R s m args below meth c D ad cI cZ cII A cells slots Z C hZ H locs ls hW hL
  exact hZ none σ H locs ls pc ⟨hd, hr⟩ k hW
theorem v_iret {x : Int32} (hd : decode (mc M) pc = .ok (.ireturn, 1)) (hr : mr M = some .int) (k : Q (some (.int x)) σ) : VV0 M d sc pc L [.int x] σ Q := by
  intro p l e R s m args below meth c D ad cI cZ cII A cells slots Z C hZ H locs ls hW hL
  exact hZ (some (.int x)) σ H locs ls pc ⟨hd, .int, hr, rfl⟩ k hW
theorem v_zret {x : Int32} (hd : decode (mc M) pc = .ok (.ireturn, 1)) (hr : mr M = some .boolean) (hx : x = 0 ∨ x = 1) (k : Q (some (.int x)) σ) : VV0 M d sc pc L [.int x] σ Q := by
  intro p l e R s m args below meth c D ad cI cZ cII A cells slots Z C hZ H locs ls hW hL
  exact hZ (some (.int x)) σ H locs ls pc ⟨hd, .boolean, hr, by rcases hx with rfl | rfl <;> decide⟩ k hW
theorem v_lret {x : Int64} (hd : decode (mc M) pc = .ok (.lreturn, 1)) (hr : mr M = some .long) (k : Q (some (.long x)) σ) : VV0 M d sc pc L [.long x] σ Q := by
  intro p l e R s m args below meth c D ad cI cZ cII A cells slots Z C hZ H locs ls hW hL
  exact hZ (some (.long x)) σ H locs ls pc ⟨hd, hr⟩ k hW
end CALLS
