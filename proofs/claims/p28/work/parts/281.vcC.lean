/-! VC by program: the law reads its script -/
set_option maxRecDepth 20000 in
theorem bL_cell_0 {d : Nat} {σ : SS} {sc : Scr} {K : Int32 → SS → Prop} (p2 : Int32)   (h : (((nI sc.1) ≤ p2) → (K (((nI 7919) * (p2 + (nI 3))) * (p2 + (nI 11))) σ)) ∧ ((¬ (nI sc.1) ≤ p2) → ((vp_in p2 sc.1) ∧ (K (sc.2 p2.toNatClampNeg) σ)))) : VV mL_cell d sc 0 [some (.ref 102), some (.int p2)] [] σ (Qi K) := by
  refine v_iload_n (q := 1) dL_cell_0 rfl rfl ?_
  refine v_aload_n (q := 2) dL_cell_1 rfl rfl ?_
  refine v_slen (q := 3) rfl dL_cell_2 rfl ?_
  refine v_icmp_ge (t := 12) (q := 6) dL_cell_3 rfl (by decide) (fun c => ?_) (fun c => ?_)
  · have h := h.1 (c)
    refine v_sipush (v := (nI 7919)) (q := 15) dL_cell_12 rfl (by decide) ?_
    refine v_iload_n (q := 16) dL_cell_15 rfl rfl ?_
    refine v_iconst (v := (nI 3)) (q := 17) dL_cell_16 rfl (by decide) ?_
    refine v_iadd (q := 18) dL_cell_17 rfl ?_
    refine v_imul (q := 19) dL_cell_18 rfl ?_
    refine v_iload_n (q := 20) dL_cell_19 rfl rfl ?_
    refine v_bipush (v := (nI 11)) (q := 22) dL_cell_20 rfl (by decide) ?_
    refine v_iadd (q := 23) dL_cell_22 rfl ?_
    refine v_imul (q := 24) dL_cell_23 rfl ?_
    exact v_iret dL_cell_24 rfl ⟨_, rfl, h⟩
  · have h := h.2 (c)
    refine v_aload_n (q := 7) dL_cell_6 rfl rfl ?_
    refine v_iload_n (q := 8) dL_cell_7 rfl rfl ?_
    refine v_sld (q := 9) rfl dL_cell_8 rfl h.1 ?_
    have h := h.2
    refine v_goto (q := 24) dL_cell_9 (by decide) ?_
    exact v_iret dL_cell_24 rfl ⟨_, rfl, h⟩
theorem s_cell {d : Nat} {sc : Scr} {k : Int32} {σ : SS} {Q : Option Value → SS → Prop} (hk : sc.1 < 2 ^ 31 ∧ ¬ k < 0) (h : ∀ y : Int32, Q (some (.int y)) σ) : CTS0 mL_cell (d + 2) sc [.ref 102, .int k] σ Q := by
  have hb : VV mL_cell d sc 0 [some (.ref 102), some (.int k)] [] σ (Qi (fun y s => s = σ)) := by
    obtain ⟨j, hj, rfl⟩ := nI_of hk.2
    refine bL_cell_0 (K := fun _ s => s = σ) _ ⟨fun _ => rfl, fun c => ⟨?_, rfl⟩⟩
    by_cases q : j < sc.1
    · exact vp_in_nI q hk.1
    · exact absurd (nI_le (by omega) hj) c
  intro Q' hQ
  exact CTS_of0 (Q := Qi (fun y s => s = σ)) (by decide +kernel) rfl (Nat.le_of_ble_eq_true rfl) rfl hb Q' (fun r s ⟨y, e1, e2⟩ => by
    subst e1
    subst e2
    exact hQ _ _ (h y))
/-- the script's number at a place, or past its end another: any int -/
theorem v_cell {M : MD} {d pc q idx : Nat} {sc : Scr} {L : List (Option Value)} {st : List Value} {σ : SS} {Q : Option Value → SS → Prop} {k : Int32} (hd : decode (mc M) pc = .ok (.invokestatic idx, 3)) (hq : pc + 3 = q) (hS : hasS M = true) (hl : LKS (mo M) idx mL_cell 2) (hdd : 1 ≤ d) (hs : (st.map fun v => v.category).sum ≤ 8) (hk : sc.1 < 2 ^ 31 ∧ ¬ k < 0) (h : ∀ y : Int32, VV M d sc q L (.int y :: st) σ Q) : VV M d sc pc L (.int k :: .ref 102 :: st) σ Q :=
  v_callSS0 (As := [.ref 102, .int k]) (n := 2) (d := d + 2) hd hq hl (by omega) rfl hs hS (by
    rw [d_sh hdd]
    exact s_cell hk h)
