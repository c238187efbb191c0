/-! CONTRACTS of a method that reads the script -/
def WPS (D : va_G) (ad : Nat → Nat) (cI cZ cII : ClassId) (sz : Nat) (σ : SS) (sc : Scr) (U : State) : Prop := WP D ad cI cZ cII sz σ U ∧ va_X (ad 102) sc.1 sc.2 U U.heap ∧ ad 102 < sz ∧ ¬ AA ad sz (ad 102)
def CTS0 (M : MD) (d : Nat) (sc : Scr) (As : List Value) (σ : SS) (Q : Option Value → SS → Prop) : Prop :=
  ∀ Q' : Option Value → SS → Prop, (∀ r σ', Q r σ' → Q' r σ') → ∀ (l : Launch) (D : va_G) (ad : Nat → Nat) (cI cZ cII : ClassId) (sz : Nat),
    Met l (my M) (Cond.code (my M) (mc M) (ml M) (mr M) :: g_tbl) (rmd d) (va_Pc (As.map (rv ad)) (WPS D ad cI cZ cII sz σ sc)) (QZ D ad cI cZ cII sz Q') 0 0 (AA ad sz)
theorem CTS_of0 {M : MD} {d : Nat} {sc : Scr} {As : List Value} {σ : SS} {Q : Option Value → SS → Prop} {L : List (Option Value)} (hy : plainName (my M).cls = true) (hcls : RN (mo M) = (my M).cls) (hn : (ent As).length ≤ ml M) (hL : ent As ++ List.replicate (ml M - (ent As).length) none = L) (k : VV0 M d sc 0 L [] σ Q) : CTS0 M d sc As σ Q := by
  intro Q' hQ l D ad cI cZ cII sz
  refine Met.ofW (cc := mc M) (maxL := ml M) (ret := mr M) hy rfl ?_
  intro p e s m args below meth c s₁ B hml hv
  obtain ⟨rfl, ⟨hsz, hP, hK, hD0, hN, hSt⟩, hX, hbl, hnA⟩ := hv
  have hts := atoms_spec (ws := Cond.code (my M) (mc M) (ml M) (mr M) :: g_tbl) B.pre
  have hown : s.vm.findClass (RN (mo M)) = some m.cls := by rw [hcls]; exact findClass_of_methodNamed B.named
  have hlocks := B.notSynchronized
  subst hsz
  have hS : va_S (AA ad s.heap.size) s.heap s.heap [] := va_S.rf
  have hD := w_AA s.heap.size hD0
  have hlen : (lg_sl (As.map (rv ad))).length ≤ ml M := by rw [ent_len]; exact hn
  have hl := lv_entry (As.map (rv ad)) hlen
  rw [lg_entry_eq]
  generalize (lg_sl (As.map (rv ad)) ++ List.replicate (ml M - (lg_sl (As.map (rv ad))).length) Slot.unset).toArray = ls at hl ⊢
  have hLH : LH ad ls (ml M) L := by
    subst hL
    refine ⟨by rw [List.length_append, List.length_replicate]; omega, hl.1, hl.2.1, fun i v hv => ?_⟩
    have h1 := ent_args (ad := ad) _ As 0 i v hv
    rw [Nat.zero_add] at h1
    exact hl.2.2 _ h1
  refine k p l e (headSpec (Cond.code (my M) (mc M) (ml M) (mr M) :: g_tbl) (rmd d)).room s m ((As.map (rv ad)).toArray) below meth c D ad cI cZ cII (AA ad s.heap.size) 0 0 _ ⟨B.exec, B.bytes, hml, B.returns, hlocks, fun w hw => hts w (List.mem_cons_of_mem _ hw), hown, hN, hK, hSt, fun q hq => Or.inr hq, ⟨Nat.le_refl _, Nat.le_refl _, Nat.zero_le _, Nat.zero_le _⟩, fun _ => ⟨hX, hbl, hnA⟩⟩ ?_ s.heap [] ls ⟨hP, hD, hS⟩ hLH
  intro r σ' H locs ls' pc' hret hq hW
  have post : ∀ t : State, t.heap = H → s.WarmedH t.vm → QZ D ad cI cZ cII s.heap.size Q' ((As.map (rv ad)).toArray) s (.returned (r.map (rv ad))) t := fun t ht _ => ⟨⟨r, σ', rfl, hQ r σ' hq, by rw [ht]; exact hW.1, hW.2.1⟩, hW.2.2.F ht⟩
  match r, hret, post with
  | none, hret, post => exact W.vret B.exec B.bytes (B.returns.trans hret.2) post hW.2.2.2.2 hret.1 hlocks
  | some (.int v), hret, post =>
    obtain ⟨h1, ty, h2, h3⟩ := hret
    exact W.zret B.exec B.bytes (B.returns.trans h2) h3 post hW.2.2.2.2 h1 hlocks
  | some (.long v), hret, post => exact W.lret B.exec B.bytes (B.returns.trans hret.2) post hW.2.2.2.2 hret.1 hlocks
theorem WPS_blind {D : va_G} {ad : Nat → Nat} {cI cZ cII : ClassId} {sz : Nat} {σ : SS} {sc : Scr} {As : List Value} : FrameBlind (va_Pc As (WPS D ad cI cZ cII sz σ sc)) := by
  intro a U g mk q
  obtain ⟨q0, ⟨q1, qP, qK, qD, qN, qS⟩, qX, qb, qA⟩ := q
  exact ⟨q0, ⟨q1, qP, va_K.moved (u := U) (U := U.calling g mk a) (Vm.Alike.refl U.vm) qK, qD, n_same (u := U) rfl qN, fun g' hg => ⟨(qS g' hg).1.moved (Vm.Alike.refl U.vm), (qS g' hg).2.moved (Vm.Alike.refl U.vm)⟩⟩, va_X.moved (u := U) (U := U.calling g mk a) (Vm.Alike.refl U.vm) qX, qb, qA⟩
section CALLSS
variable {M M' : MD} {d pc q : Nat} {sc : Scr} {L : List (Option Value)} {st : List Value} {σ : SS} {Q : Option Value → SS → Prop}
theorem v_callSS0 {idx n : Nat} {As : List Value} (hd : decode (mc M) pc = .ok (.invokestatic idx, 3)) (hq : pc + 3 = q) (hl : LKS (mo M) idx M' n) (hdd : 1 ≤ d) (hn : As.length = n) (hs : (st.map fun v => v.category).sum ≤ 8) (hS : hasS M = true) (k : CTS0 M' (d - 1) sc As σ (fun r σ1 => VV0 M d sc q L (r.toList ++ st) σ1 Q)) : VV0 M d sc pc L (As.reverse ++ st) σ Q := by
  subst hq
  intro p l e R s m args below meth c D ad cI cZ cII A cells slots Z C hZ H locs ls hW hL
  obtain ⟨hx, hb, hml, hr, hlk, hts, hown, hnw, hK, hSt, hA, hR, hlaw⟩ := id C
  obtain ⟨⟨hcode, hini, hdesc, hml'⟩, hlink, hstat⟩ := hl
  have hst : (As.reverse ++ st).map (rv ad) = (As.map (rv ad)).reverse ++ st.map (rv ad) := by simp [List.map_reverse]
  rw [hst]
  have hG := good_all hcode
  have r1 := hR.1
  obtain ⟨x1, x2, x3⟩ := hlaw hS
  have sub : ∀ q, AA ad H.size q → A q := fun q h => by
    rcases h with ⟨k, hk, rfl⟩ | h
    · exact hW.2.1.2 (ix k) _ (wld_at hk.1 hk.2)
    · exact hA q (Nat.le_trans hW.2.2.1 h)
  have r2 := hR.2.1
  refine c_behind hA hW (va_runS (As := As.map (rv ad)) (rest := st.map (rv ad)) (n := n) ⟨hx, hb, hml, hown, hts⟩ (k _ (fun _ _ h => h) l D ad cI cZ cII H.size) ⟨callB_of n hts hG rfl rfl rfl (hts _ hini) (hts _ hlink) hdesc ⟨by show d - 1 + 1 ≤ R.frames; omega, by show 8 + (ml M' + 11) + 35 * (d - 1) ≤ R.locals; omega⟩, hts _ hstat⟩ ⟨WPS_blind, fun U hU hwm => ⟨rfl, WP_of hK hnw hSt hA hW U hU hwm, by rw [hU]; exact (x1.kept (hW.2.2.2.1 _ x2 x3)).moved hwm.alike, Nat.lt_of_lt_of_le x2 hW.2.2.1, fun z => x3 (sub _ z)⟩⟩ rfl (by rw [List.length_map]; exact hn) hL.2.1 rfl (lv_room (by rw [rv_cats]; exact hs)) hd ⟨hR.2.2.1, hR.2.2.2⟩) (fun r σ' H1 locs1 hQ hW1 => ?_)
  exact hQ p l e R s m args below meth c D ad cI cZ cII A cells slots Z C hZ H1 locs1 ls hW1 hL
end CALLSS
