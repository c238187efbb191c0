/-! VC by program: the class -/
set_option maxRecDepth 20000 in
theorem bX0_keep_0 {d : Nat} {σ : SS} {K : SS → Prop}   (hd1 : 1 ≤ d) (h : (vp_in (σ.2.1 0) 4) ∧ (CTv mX2_copyTo (d - 1) [.ref 1, .ref (27 + (σ.2.1 0).toNatClampNeg)] σ (fun s3 => K (sF (sF s3 0 (((s3.2.1 0) + (nI 1)) - ((s3.2.1 0) + (nI 1)) / (nI 4) * (nI 4))) 1 (if (nI 4) < (((sF s3 0 (((s3.2.1 0) + (nI 1)) - ((s3.2.1 0) + (nI 1)) / (nI 4) * (nI 4))).2.1 1) + (nI 1)) then (nI 4) else (((sF s3 0 (((s3.2.1 0) + (nI 1)) - ((s3.2.1 0) + (nI 1)) / (nI 4) * (nI 4))).2.1 1) + (nI 1))))))) : VV mX0_keep d s00 0 [some (.ref 2), some (.ref 1)] [] σ (Qv K) := by
  refine v_aload_n (q := 1) dX0_keep_0 rfl rfl ?_
  refine v_aload_n (q := 2) dX0_keep_1 rfl rfl ?_
  refine v_get (q := 5) dX0_keep_2 rfl fl_0_13 rfl rfl ?_
  refine v_aload_n (q := 6) dX0_keep_5 rfl rfl ?_
  refine v_get (q := 9) dX0_keep_6 rfl fl_0_18 rfl rfl ?_
  refine v_aald (n := 4) (b := 27) (q := 10) dX0_keep_9 rfl (by decide) h.1 ?_
  have hv1 := h.1
  have h := h.2
  refine v_callN (As := [.ref (27 + (σ.2.1 0).toNatClampNeg)]) (n := 1) (q := 13) dX0_keep_10 rfl lk_0_22 hd1 rfl rfl (Nat.le_of_ble_eq_true rfl) (CT.imp h (fun r s3 h => ?_))
  obtain ⟨rfl, h⟩ := h
  show VV mX0_keep d s00 13 [some (.ref 2), some (.ref 1)] [] s3 (Qv K)
  refine v_aload_n (q := 14) dX0_keep_13 rfl rfl ?_
  refine v_aload_n (q := 15) dX0_keep_14 rfl rfl ?_
  refine v_get (q := 18) dX0_keep_15 rfl fl_0_18 rfl rfl ?_
  refine v_iconst (v := (nI 1)) (q := 19) dX0_keep_18 rfl (by decide) ?_
  refine v_iadd (q := 20) dX0_keep_19 rfl ?_
  refine v_iconst (v := (nI 4)) (q := 21) dX0_keep_20 rfl (by decide) ?_
  refine v_irem (q := 22) dX0_keep_21 rfl (by decide) ?_
  refine v_put (q := 25) dX0_keep_22 rfl fp_0_18 rfl rfl ?_
  refine v_aload_n (q := 26) dX0_keep_25 rfl rfl ?_
  refine v_aload_n (q := 27) dX0_keep_26 rfl rfl ?_
  refine v_get (q := 30) dX0_keep_27 rfl fl_0_26 rfl rfl ?_
  refine v_iconst (v := (nI 1)) (q := 31) dX0_keep_30 rfl (by decide) ?_
  refine v_iadd (q := 32) dX0_keep_31 rfl ?_
  refine v_iconst (v := (nI 4)) (q := 33) dX0_keep_32 rfl (by decide) ?_
  refine v_min (q := 36) dX0_keep_33 rfl lm_0_29 hd1 (Nat.le_of_ble_eq_true rfl) ?_
  refine v_put (q := 39) dX0_keep_36 rfl fp_0_26 rfl rfl ?_
  exact v_ret0 dX0_keep_39 rfl ⟨rfl, h⟩
theorem eX0_keep {d : Nat} {σ : SS} {K : SS → Prop}   (hd1 : 1 ≤ d) (h : (vp_in (σ.2.1 0) 4) ∧ (CTv mX2_copyTo (d - 1) [.ref 1, .ref (27 + (σ.2.1 0).toNatClampNeg)] σ (fun s3 => K (sF (sF s3 0 (((s3.2.1 0) + (nI 1)) - ((s3.2.1 0) + (nI 1)) / (nI 4) * (nI 4))) 1 (if (nI 4) < (((sF s3 0 (((s3.2.1 0) + (nI 1)) - ((s3.2.1 0) + (nI 1)) / (nI 4) * (nI 4))).2.1 1) + (nI 1)) then (nI 4) else (((sF s3 0 (((s3.2.1 0) + (nI 1)) - ((s3.2.1 0) + (nI 1)) / (nI 4) * (nI 4))).2.1 1) + (nI 1))))))) : CTv mX0_keep d [.ref 2, .ref 1] σ K := CT_of (Q := (Qv K)) (by decide +kernel) rfl (by decide) (Nat.le_of_ble_eq_true rfl) rfl (bX0_keep_0  hd1 h)
set_option maxRecDepth 20000 in
theorem bX0_restoreInto_0 {d : Nat} {σ : SS} {K : Int32 → SS → Prop}   (hd1 : 1 ≤ d) (h : (((σ.2.1 1) ≤ 0) → (K (σ.2.1 1) σ)) ∧ ((¬ (σ.2.1 1) ≤ 0) → ((vp_in ((sF (sF σ 0 ((((σ.2.1 0) + (nI 4)) - (nI 1)) - (((σ.2.1 0) + (nI 4)) - (nI 1)) / (nI 4) * (nI 4))) 1 (((sF σ 0 ((((σ.2.1 0) + (nI 4)) - (nI 1)) - (((σ.2.1 0) + (nI 4)) - (nI 1)) / (nI 4) * (nI 4))).2.1 1) - (nI 1))).2.1 0) 4) ∧ (CTv mX2_copyFrom (d - 1) [.ref 1, .ref (27 + ((sF (sF σ 0 ((((σ.2.1 0) + (nI 4)) - (nI 1)) - (((σ.2.1 0) + (nI 4)) - (nI 1)) / (nI 4) * (nI 4))) 1 (((sF σ 0 ((((σ.2.1 0) + (nI 4)) - (nI 1)) - (((σ.2.1 0) + (nI 4)) - (nI 1)) / (nI 4) * (nI 4))).2.1 1) - (nI 1))).2.1 0).toNatClampNeg)] (sF (sF σ 0 ((((σ.2.1 0) + (nI 4)) - (nI 1)) - (((σ.2.1 0) + (nI 4)) - (nI 1)) / (nI 4) * (nI 4))) 1 (((sF σ 0 ((((σ.2.1 0) + (nI 4)) - (nI 1)) - (((σ.2.1 0) + (nI 4)) - (nI 1)) / (nI 4) * (nI 4))).2.1 1) - (nI 1))) (fun s3 => K (s3.2.1 1) s3))))) : VV mX0_restoreInto d s00 0 [some (.ref 2), some (.ref 1)] [] σ (Qi K) := by
  refine v_aload_n (q := 1) dX0_restoreInto_0 rfl rfl ?_
  refine v_get (q := 4) dX0_restoreInto_1 rfl fl_0_26 rfl rfl ?_
  refine v_if_le (t := 44) (q := 7) dX0_restoreInto_4 rfl (by decide) (fun c => ?_) (fun c => ?_)
  · have h := h.1 (c)
    refine v_aload_n (q := 45) dX0_restoreInto_44 rfl rfl ?_
    refine v_get (q := 48) dX0_restoreInto_45 rfl fl_0_26 rfl rfl ?_
    exact v_iret dX0_restoreInto_48 rfl ⟨_, rfl, h⟩
  · have h := h.2 (c)
    refine v_aload_n (q := 8) dX0_restoreInto_7 rfl rfl ?_
    refine v_aload_n (q := 9) dX0_restoreInto_8 rfl rfl ?_
    refine v_get (q := 12) dX0_restoreInto_9 rfl fl_0_18 rfl rfl ?_
    refine v_iconst (v := (nI 4)) (q := 13) dX0_restoreInto_12 rfl (by decide) ?_
    refine v_iadd (q := 14) dX0_restoreInto_13 rfl ?_
    refine v_iconst (v := (nI 1)) (q := 15) dX0_restoreInto_14 rfl (by decide) ?_
    refine v_isub (q := 16) dX0_restoreInto_15 rfl ?_
    refine v_iconst (v := (nI 4)) (q := 17) dX0_restoreInto_16 rfl (by decide) ?_
    refine v_irem (q := 18) dX0_restoreInto_17 rfl (by decide) ?_
    refine v_put (q := 21) dX0_restoreInto_18 rfl fp_0_18 rfl rfl ?_
    refine v_aload_n (q := 22) dX0_restoreInto_21 rfl rfl ?_
    refine v_dup (q := 23) dX0_restoreInto_22 rfl rfl ?_
    refine v_get (q := 26) dX0_restoreInto_23 rfl fl_0_26 rfl rfl ?_
    refine v_iconst (v := (nI 1)) (q := 27) dX0_restoreInto_26 rfl (by decide) ?_
    refine v_isub (q := 28) dX0_restoreInto_27 rfl ?_
    refine v_put (q := 31) dX0_restoreInto_28 rfl fp_0_26 rfl rfl ?_
    refine v_aload_n (q := 32) dX0_restoreInto_31 rfl rfl ?_
    refine v_aload_n (q := 33) dX0_restoreInto_32 rfl rfl ?_
    refine v_get (q := 36) dX0_restoreInto_33 rfl fl_0_13 rfl rfl ?_
    refine v_aload_n (q := 37) dX0_restoreInto_36 rfl rfl ?_
    refine v_get (q := 40) dX0_restoreInto_37 rfl fl_0_18 rfl rfl ?_
    refine v_aald (n := 4) (b := 27) (q := 41) dX0_restoreInto_40 rfl (by decide) h.1 ?_
    have hv1 := h.1
    have h := h.2
    refine v_callN (As := [.ref (27 + ((sF (sF σ 0 ((((σ.2.1 0) + (nI 4)) - (nI 1)) - (((σ.2.1 0) + (nI 4)) - (nI 1)) / (nI 4) * (nI 4))) 1 (((sF σ 0 ((((σ.2.1 0) + (nI 4)) - (nI 1)) - (((σ.2.1 0) + (nI 4)) - (nI 1)) / (nI 4) * (nI 4))).2.1 1) - (nI 1))).2.1 0).toNatClampNeg)]) (n := 1) (q := 44) dX0_restoreInto_41 rfl lk_0_35 hd1 rfl rfl (Nat.le_of_ble_eq_true rfl) (CT.imp h (fun r s3 h => ?_))
    obtain ⟨rfl, h⟩ := h
    show VV mX0_restoreInto d s00 44 [some (.ref 2), some (.ref 1)] [] s3 (Qi K)
    refine v_aload_n (q := 45) dX0_restoreInto_44 rfl rfl ?_
    refine v_get (q := 48) dX0_restoreInto_45 rfl fl_0_26 rfl rfl ?_
    exact v_iret dX0_restoreInto_48 rfl ⟨_, rfl, h⟩
theorem eX0_restoreInto {d : Nat} {σ : SS} {K : Int32 → SS → Prop}   (hd1 : 1 ≤ d) (h : (((σ.2.1 1) ≤ 0) → (K (σ.2.1 1) σ)) ∧ ((¬ (σ.2.1 1) ≤ 0) → ((vp_in ((sF (sF σ 0 ((((σ.2.1 0) + (nI 4)) - (nI 1)) - (((σ.2.1 0) + (nI 4)) - (nI 1)) / (nI 4) * (nI 4))) 1 (((sF σ 0 ((((σ.2.1 0) + (nI 4)) - (nI 1)) - (((σ.2.1 0) + (nI 4)) - (nI 1)) / (nI 4) * (nI 4))).2.1 1) - (nI 1))).2.1 0) 4) ∧ (CTv mX2_copyFrom (d - 1) [.ref 1, .ref (27 + ((sF (sF σ 0 ((((σ.2.1 0) + (nI 4)) - (nI 1)) - (((σ.2.1 0) + (nI 4)) - (nI 1)) / (nI 4) * (nI 4))) 1 (((sF σ 0 ((((σ.2.1 0) + (nI 4)) - (nI 1)) - (((σ.2.1 0) + (nI 4)) - (nI 1)) / (nI 4) * (nI 4))).2.1 1) - (nI 1))).2.1 0).toNatClampNeg)] (sF (sF σ 0 ((((σ.2.1 0) + (nI 4)) - (nI 1)) - (((σ.2.1 0) + (nI 4)) - (nI 1)) / (nI 4) * (nI 4))) 1 (((sF σ 0 ((((σ.2.1 0) + (nI 4)) - (nI 1)) - (((σ.2.1 0) + (nI 4)) - (nI 1)) / (nI 4) * (nI 4))).2.1 1) - (nI 1))) (fun s3 => K (s3.2.1 1) s3))))) : CTi mX0_restoreInto d [.ref 2, .ref 1] σ K := CT_of (Q := (Qi K)) (by decide +kernel) rfl (by decide) (Nat.le_of_ble_eq_true rfl) rfl (bX0_restoreInto_0  hd1 h)
set_option maxRecDepth 20000 in
theorem bX1_clear_0 {d : Nat} {σ : SS} {K : SS → Prop} {se w f : Nat} (hse : Sen se w f)  (h : K (sF σ f (nI 0))) : VV mX1_clear d s00 0 [some (.ref se)] [] σ (Qv K) := by
  refine v_aload_n (q := 1) dX1_clear_0 rfl rfl ?_
  refine v_iconst (v := (nI 0)) (q := 2) dX1_clear_1 rfl (by decide) ?_
  refine v_put (q := 5) dX1_clear_2 rfl fp_1_15 (hse.1 _) hse.2.1 ?_
  exact v_ret0 dX1_clear_5 rfl ⟨rfl, h⟩
theorem eX1_clear {d : Nat} {σ : SS} {K : SS → Prop} {se w f : Nat} (hse : Sen se w f)  (h : K (sF σ f (nI 0))) : CTv mX1_clear d [.ref se] σ K := CT_of (Q := (Qv K)) (by decide +kernel) rfl (by decide) (Nat.le_of_ble_eq_true rfl) rfl (bX1_clear_0 hse  h)
set_option maxRecDepth 20000 in
theorem bX1_append_0 {d : Nat} {σ : SS} {K : SS → Prop} {se w f : Nat} (p1 : Int32) (hse : Sen se w f)  (h : (((nI 10) ≤ (σ.2.1 f)) → (K σ)) ∧ ((¬ (nI 10) ≤ (σ.2.1 f)) → ((vp_in (σ.2.1 f) 10) ∧ (K (sF (sA σ w (σ.2.1 f).toNatClampNeg p1) f (((sA σ w (σ.2.1 f).toNatClampNeg p1).2.1 f) + (nI 1))))))) : VV mX1_append d s00 0 [some (.ref se), some (.int p1)] [] σ (Qv K) := by
  refine v_aload_n (q := 1) dX1_append_0 rfl rfl ?_
  refine v_get (q := 4) dX1_append_1 rfl fl_1_15 (hse.1 _) rfl ?_
  refine v_bipush (v := (nI 10)) (q := 6) dX1_append_4 rfl (by decide) ?_
  refine v_icmp_ge (t := 29) (q := 9) dX1_append_6 rfl (by decide) (fun c => ?_) (fun c => ?_)
  · have h := h.1 (c)
    exact v_ret0 dX1_append_29 rfl ⟨rfl, h⟩
  · have h := h.2 (c)
    refine v_aload_n (q := 10) dX1_append_9 rfl rfl ?_
    refine v_get (q := 13) dX1_append_10 rfl fl_1_9 (hse.1 _) rfl ?_
    refine v_aload_n (q := 14) dX1_append_13 rfl rfl ?_
    refine v_get (q := 17) dX1_append_14 rfl fl_1_15 (hse.1 _) rfl ?_
    refine v_iload_n (q := 18) dX1_append_17 rfl rfl ?_
    refine v_iast (q := 19) dX1_append_18 rfl hse.2.2.1 (by rw [hse.2.2.2.1]; exact h.1) ?_
    have h := h.2
    refine v_aload_n (q := 20) dX1_append_19 rfl rfl ?_
    refine v_dup (q := 21) dX1_append_20 rfl rfl ?_
    refine v_get (q := 24) dX1_append_21 rfl fl_1_15 (hse.1 _) rfl ?_
    refine v_iconst (v := (nI 1)) (q := 25) dX1_append_24 rfl (by decide) ?_
    refine v_iadd (q := 26) dX1_append_25 rfl ?_
    refine v_put (q := 29) dX1_append_26 rfl fp_1_15 (hse.1 _) hse.2.1 ?_
    exact v_ret0 dX1_append_29 rfl ⟨rfl, h⟩
theorem eX1_append {d : Nat} {σ : SS} {K : SS → Prop} {se w f : Nat} (p1 : Int32) (hse : Sen se w f)  (h : (((nI 10) ≤ (σ.2.1 f)) → (K σ)) ∧ ((¬ (nI 10) ≤ (σ.2.1 f)) → ((vp_in (σ.2.1 f) 10) ∧ (K (sF (sA σ w (σ.2.1 f).toNatClampNeg p1) f (((sA σ w (σ.2.1 f).toNatClampNeg p1).2.1 f) + (nI 1))))))) : CTv mX1_append d [.ref se, .int p1] σ K := CT_of (Q := (Qv K)) (by decide +kernel) rfl (by decide) (Nat.le_of_ble_eq_true rfl) rfl (bX1_append_0 p1 hse  h)
set_option maxRecDepth 20000 in
theorem bX2_copyTo_0 {d : Nat} {σ : SS} {K : SS → Prop} {rp : Nat} (hrp : 27 ≤ rp ∧ rp < 31) (hd1 : 1 ≤ d) (h : K (sR σ rp (va_cpy (σ.1 12) (σ.1 rp) (nI 0).toNatClampNeg (nI 0).toNatClampNeg (nI 654).toNatClampNeg))) : VV mX2_copyTo d s00 0 [some (.ref 1), some (.ref rp)] [] σ (Qv K) := by
  refine v_aload_n (q := 1) dX2_copyTo_0 rfl rfl ?_
  refine v_get (q := 4) dX2_copyTo_1 rfl fl_2_11 rfl rfl ?_
  refine v_iconst (v := (nI 0)) (q := 5) dX2_copyTo_4 rfl (by decide) ?_
  refine v_aload_n (q := 6) dX2_copyTo_5 rfl rfl ?_
  refine v_iconst (v := (nI 0)) (q := 7) dX2_copyTo_6 rfl (by decide) ?_
  refine v_sipush (v := (nI 654)) (q := 10) dX2_copyTo_7 rfl (by decide) ?_
  refine v_copy (q := 13) dX2_copyTo_10 rfl ac_2_39 hd1 (isI_d rfl) (isI_h hrp) (by decide) (by decide) (by decide) (by decide +kernel) (by rw [al_h hrp]; decide +kernel) ?_
  exact v_ret0 dX2_copyTo_13 rfl ⟨rfl, h⟩
theorem eX2_copyTo {d : Nat} {σ : SS} {K : SS → Prop} {rp : Nat} (hrp : 27 ≤ rp ∧ rp < 31) (hd1 : 1 ≤ d) (h : K (sR σ rp (va_cpy (σ.1 12) (σ.1 rp) (nI 0).toNatClampNeg (nI 0).toNatClampNeg (nI 654).toNatClampNeg))) : CTv mX2_copyTo d [.ref 1, .ref rp] σ K := CT_of (Q := (Qv K)) (by decide +kernel) rfl (by decide) (Nat.le_of_ble_eq_true rfl) rfl (bX2_copyTo_0 hrp hd1 h)
set_option maxRecDepth 20000 in
theorem bX2_copyFrom_0 {d : Nat} {σ : SS} {K : SS → Prop} {rp : Nat} (hrp : 27 ≤ rp ∧ rp < 31) (hd1 : 1 ≤ d) (h : K (sR σ 12 (va_cpy (σ.1 rp) (σ.1 12) (nI 0).toNatClampNeg (nI 0).toNatClampNeg (nI 654).toNatClampNeg))) : VV mX2_copyFrom d s00 0 [some (.ref 1), some (.ref rp)] [] σ (Qv K) := by
  refine v_aload_n (q := 1) dX2_copyFrom_0 rfl rfl ?_
  refine v_iconst (v := (nI 0)) (q := 2) dX2_copyFrom_1 rfl (by decide) ?_
  refine v_aload_n (q := 3) dX2_copyFrom_2 rfl rfl ?_
  refine v_get (q := 6) dX2_copyFrom_3 rfl fl_2_11 rfl rfl ?_
  refine v_iconst (v := (nI 0)) (q := 7) dX2_copyFrom_6 rfl (by decide) ?_
  refine v_sipush (v := (nI 654)) (q := 10) dX2_copyFrom_7 rfl (by decide) ?_
  refine v_copy (q := 13) dX2_copyFrom_10 rfl ac_2_39 hd1 (isI_h hrp) (isI_d rfl) (by decide) (by decide) (by decide) (by rw [al_h hrp]; decide +kernel) (by decide +kernel) ?_
  exact v_ret0 dX2_copyFrom_13 rfl ⟨rfl, h⟩
theorem eX2_copyFrom {d : Nat} {σ : SS} {K : SS → Prop} {rp : Nat} (hrp : 27 ≤ rp ∧ rp < 31) (hd1 : 1 ≤ d) (h : K (sR σ 12 (va_cpy (σ.1 rp) (σ.1 12) (nI 0).toNatClampNeg (nI 0).toNatClampNeg (nI 654).toNatClampNeg))) : CTv mX2_copyFrom d [.ref 1, .ref rp] σ K := CT_of (Q := (Qv K)) (by decide +kernel) rfl (by decide) (Nat.le_of_ble_eq_true rfl) rfl (bX2_copyFrom_0 hrp hd1 h)
set_option maxRecDepth 20000 in
theorem bX2_memberCell_0 {d : Nat} {σ : SS} {K : Int32 → SS → Prop} (p1 : Int32) (p2 : Int32)   (h : K (((nI 10) + (p1 * (nI 2))) + p2) σ) : VV mX2_memberCell d s00 0 [some (.int p1), some (.int p2)] [] σ (Qi K) := by
  refine v_bipush (v := (nI 10)) (q := 2) dX2_memberCell_0 rfl (by decide) ?_
  refine v_iload_n (q := 3) dX2_memberCell_2 rfl rfl ?_
  refine v_iconst (v := (nI 2)) (q := 4) dX2_memberCell_3 rfl (by decide) ?_
  refine v_imul (q := 5) dX2_memberCell_4 rfl ?_
  refine v_iadd (q := 6) dX2_memberCell_5 rfl ?_
  refine v_iload_n (q := 7) dX2_memberCell_6 rfl rfl ?_
  refine v_iadd (q := 8) dX2_memberCell_7 rfl ?_
  exact v_iret dX2_memberCell_8 rfl ⟨_, rfl, h⟩
theorem eX2_memberCell {d : Nat} {σ : SS} {K : Int32 → SS → Prop} (p1 : Int32) (p2 : Int32)   (h : K (((nI 10) + (p1 * (nI 2))) + p2) σ) : CTi mX2_memberCell d [.int p1, .int p2] σ K := CT_of (Q := (Qi K)) (by decide +kernel) rfl (by decide) (Nat.le_of_ble_eq_true rfl) rfl (bX2_memberCell_0 p1 p2  h)
set_option maxRecDepth 20000 in
theorem bX2_phraseCell_0 {d : Nat} {σ : SS} {K : Int32 → SS → Prop} (p1 : Int32) (p2 : Int32)   (h : K (((nI 22) + (p1 * (nI 16))) + p2) σ) : VV mX2_phraseCell d s00 0 [some (.int p1), some (.int p2)] [] σ (Qi K) := by
  refine v_bipush (v := (nI 22)) (q := 2) dX2_phraseCell_0 rfl (by decide) ?_
  refine v_iload_n (q := 3) dX2_phraseCell_2 rfl rfl ?_
  refine v_bipush (v := (nI 16)) (q := 5) dX2_phraseCell_3 rfl (by decide) ?_
  refine v_imul (q := 6) dX2_phraseCell_5 rfl ?_
  refine v_iadd (q := 7) dX2_phraseCell_6 rfl ?_
  refine v_iload_n (q := 8) dX2_phraseCell_7 rfl rfl ?_
  refine v_iadd (q := 9) dX2_phraseCell_8 rfl ?_
  exact v_iret dX2_phraseCell_9 rfl ⟨_, rfl, h⟩
theorem eX2_phraseCell {d : Nat} {σ : SS} {K : Int32 → SS → Prop} (p1 : Int32) (p2 : Int32)   (h : K (((nI 22) + (p1 * (nI 16))) + p2) σ) : CTi mX2_phraseCell d [.int p1, .int p2] σ K := CT_of (Q := (Qi K)) (by decide +kernel) rfl (by decide) (Nat.le_of_ble_eq_true rfl) rfl (bX2_phraseCell_0 p1 p2  h)
set_option maxRecDepth 20000 in
theorem bX2_noteCell_0 {d : Nat} {σ : SS} {K : Int32 → SS → Prop} (p1 : Int32) (p2 : Int32)   (h : K (((nI 342) + (p1 * (nI 13))) + p2) σ) : VV mX2_noteCell d s00 0 [some (.int p1), some (.int p2)] [] σ (Qi K) := by
  refine v_sipush (v := (nI 342)) (q := 3) dX2_noteCell_0 rfl (by decide) ?_
  refine v_iload_n (q := 4) dX2_noteCell_3 rfl rfl ?_
  refine v_bipush (v := (nI 13)) (q := 6) dX2_noteCell_4 rfl (by decide) ?_
  refine v_imul (q := 7) dX2_noteCell_6 rfl ?_
  refine v_iadd (q := 8) dX2_noteCell_7 rfl ?_
  refine v_iload_n (q := 9) dX2_noteCell_8 rfl rfl ?_
  refine v_iadd (q := 10) dX2_noteCell_9 rfl ?_
  exact v_iret dX2_noteCell_10 rfl ⟨_, rfl, h⟩
theorem eX2_noteCell {d : Nat} {σ : SS} {K : Int32 → SS → Prop} (p1 : Int32) (p2 : Int32)   (h : K (((nI 342) + (p1 * (nI 13))) + p2) σ) : CTi mX2_noteCell d [.int p1, .int p2] σ K := CT_of (Q := (Qi K)) (by decide +kernel) rfl (by decide) (Nat.le_of_ble_eq_true rfl) rfl (bX2_noteCell_0 p1 p2  h)
set_option maxRecDepth 20000 in
theorem bX2_members_0 {d : Nat} {σ : SS} {K : Int32 → SS → Prop}    (h : (vp_in (nI 0) 654) ∧ (K (σ.1 12 (nI 0).toNatClampNeg) σ)) : VV mX2_members d s00 0 [some (.ref 1)] [] σ (Qi K) := by
  refine v_aload_n (q := 1) dX2_members_0 rfl rfl ?_
  refine v_iconst (v := (nI 0)) (q := 2) dX2_members_1 rfl (by decide) ?_
  refine v_at (q := 5) dX2_members_2 rfl lk_2_45 (Nat.le_of_ble_eq_true rfl) h.1 ?_
  have h := h.2
  exact v_iret dX2_members_5 rfl ⟨_, rfl, h⟩
theorem eX2_members {d : Nat} {σ : SS} {K : Int32 → SS → Prop}    (h : (vp_in (nI 0) 654) ∧ (K (σ.1 12 (nI 0).toNatClampNeg) σ)) : CTi mX2_members d [.ref 1] σ K := CT_of (Q := (Qi K)) (by decide +kernel) rfl (by decide) (Nat.le_of_ble_eq_true rfl) rfl (bX2_members_0   h)
set_option maxRecDepth 20000 in
theorem bX2_phrases_0 {d : Nat} {σ : SS} {K : Int32 → SS → Prop}    (h : (vp_in (nI 1) 654) ∧ (K (σ.1 12 (nI 1).toNatClampNeg) σ)) : VV mX2_phrases d s00 0 [some (.ref 1)] [] σ (Qi K) := by
  refine v_aload_n (q := 1) dX2_phrases_0 rfl rfl ?_
  refine v_iconst (v := (nI 1)) (q := 2) dX2_phrases_1 rfl (by decide) ?_
  refine v_at (q := 5) dX2_phrases_2 rfl lk_2_45 (Nat.le_of_ble_eq_true rfl) h.1 ?_
  have h := h.2
  exact v_iret dX2_phrases_5 rfl ⟨_, rfl, h⟩
theorem eX2_phrases {d : Nat} {σ : SS} {K : Int32 → SS → Prop}    (h : (vp_in (nI 1) 654) ∧ (K (σ.1 12 (nI 1).toNatClampNeg) σ)) : CTi mX2_phrases d [.ref 1] σ K := CT_of (Q := (Qi K)) (by decide +kernel) rfl (by decide) (Nat.le_of_ble_eq_true rfl) rfl (bX2_phrases_0   h)
set_option maxRecDepth 20000 in
theorem bX2_notes_0 {d : Nat} {σ : SS} {K : Int32 → SS → Prop}    (h : (vp_in (nI 2) 654) ∧ (K (σ.1 12 (nI 2).toNatClampNeg) σ)) : VV mX2_notes d s00 0 [some (.ref 1)] [] σ (Qi K) := by
  refine v_aload_n (q := 1) dX2_notes_0 rfl rfl ?_
  refine v_iconst (v := (nI 2)) (q := 2) dX2_notes_1 rfl (by decide) ?_
  refine v_at (q := 5) dX2_notes_2 rfl lk_2_45 (Nat.le_of_ble_eq_true rfl) h.1 ?_
  have h := h.2
  exact v_iret dX2_notes_5 rfl ⟨_, rfl, h⟩
theorem eX2_notes {d : Nat} {σ : SS} {K : Int32 → SS → Prop}    (h : (vp_in (nI 2) 654) ∧ (K (σ.1 12 (nI 2).toNatClampNeg) σ)) : CTi mX2_notes d [.ref 1] σ K := CT_of (Q := (Qi K)) (by decide +kernel) rfl (by decide) (Nat.le_of_ble_eq_true rfl) rfl (bX2_notes_0   h)
set_option maxRecDepth 20000 in
theorem bX2_tick_0 {d : Nat} {σ : SS} {K : Int32 → SS → Prop}    (h : (vp_in (nI 3) 654) ∧ (K (σ.1 12 (nI 3).toNatClampNeg) σ)) : VV mX2_tick d s00 0 [some (.ref 1)] [] σ (Qi K) := by
  refine v_aload_n (q := 1) dX2_tick_0 rfl rfl ?_
  refine v_iconst (v := (nI 3)) (q := 2) dX2_tick_1 rfl (by decide) ?_
  refine v_at (q := 5) dX2_tick_2 rfl lk_2_45 (Nat.le_of_ble_eq_true rfl) h.1 ?_
  have h := h.2
  exact v_iret dX2_tick_5 rfl ⟨_, rfl, h⟩
theorem eX2_tick {d : Nat} {σ : SS} {K : Int32 → SS → Prop}    (h : (vp_in (nI 3) 654) ∧ (K (σ.1 12 (nI 3).toNatClampNeg) σ)) : CTi mX2_tick d [.ref 1] σ K := CT_of (Q := (Qi K)) (by decide +kernel) rfl (by decide) (Nat.le_of_ble_eq_true rfl) rfl (bX2_tick_0   h)
set_option maxRecDepth 20000 in
theorem bX2_hasMember_0 {d : Nat} {σ : SS} {K : Int32 → SS → Prop} (p1 : Int32)  (hd1 : 1 ≤ d) (h : ((p1 < 0) → (K (nI 0) σ)) ∧ ((¬ p1 < 0) → (CTi mX2_members (d - 1) [.ref 1] σ (fun x1 s2 => ((x1 ≤ p1) → (K (nI 0) s2)) ∧ ((¬ x1 ≤ p1) → (K (nI 1) s2)))))) : VV mX2_hasMember d s00 0 [some (.ref 1), some (.int p1)] [] σ (Qi K) := by
  refine v_iload_n (q := 1) dX2_hasMember_0 rfl rfl ?_
  refine v_if_lt (t := 16) (q := 4) dX2_hasMember_1 rfl (by decide) (fun c => ?_) (fun c => ?_)
  · have h := h.1 (c)
    refine v_iconst (v := (nI 0)) (q := 17) dX2_hasMember_16 rfl (by decide) ?_
    exact v_zret dX2_hasMember_17 rfl (by decide) ⟨_, rfl, h⟩
  · have h := h.2 (c)
    refine v_iload_n (q := 5) dX2_hasMember_4 rfl rfl ?_
    refine v_aload_n (q := 6) dX2_hasMember_5 rfl rfl ?_
    refine v_callV (As := []) (n := 0) (q := 9) dX2_hasMember_6 rfl lk_2_53 hd1 rfl rfl (Nat.le_of_ble_eq_true rfl) (CT.imp h (fun r s2 h => ?_))
    obtain ⟨x1, rfl, h⟩ := h
    show VV mX2_hasMember d s00 9 [some (.ref 1), some (.int p1)] [.int x1, .int p1] s2 (Qi K)
    refine v_icmp_ge (t := 16) (q := 12) dX2_hasMember_9 rfl (by decide) (fun c => ?_) (fun c => ?_)
    · have h := h.1 (c)
      refine v_iconst (v := (nI 0)) (q := 17) dX2_hasMember_16 rfl (by decide) ?_
      exact v_zret dX2_hasMember_17 rfl (by decide) ⟨_, rfl, h⟩
    · have h := h.2 (c)
      refine v_iconst (v := (nI 1)) (q := 13) dX2_hasMember_12 rfl (by decide) ?_
      refine v_goto (q := 17) dX2_hasMember_13 (by decide) ?_
      exact v_zret dX2_hasMember_17 rfl (by decide) ⟨_, rfl, h⟩
theorem eX2_hasMember {d : Nat} {σ : SS} {K : Int32 → SS → Prop} (p1 : Int32)  (hd1 : 1 ≤ d) (h : ((p1 < 0) → (K (nI 0) σ)) ∧ ((¬ p1 < 0) → (CTi mX2_members (d - 1) [.ref 1] σ (fun x1 s2 => ((x1 ≤ p1) → (K (nI 0) s2)) ∧ ((¬ x1 ≤ p1) → (K (nI 1) s2)))))) : CTi mX2_hasMember d [.ref 1, .int p1] σ K := CT_of (Q := (Qi K)) (by decide +kernel) rfl (by decide) (Nat.le_of_ble_eq_true rfl) rfl (bX2_hasMember_0 p1 hd1 h)
set_option maxRecDepth 20000 in
theorem bX2_hasPhrase_0 {d : Nat} {σ : SS} {K : Int32 → SS → Prop} (p1 : Int32)  (hd1 : 1 ≤ d) (h : ((p1 < 0) → (K (nI 0) σ)) ∧ ((¬ p1 < 0) → (CTi mX2_phrases (d - 1) [.ref 1] σ (fun x1 s2 => ((x1 ≤ p1) → (K (nI 0) s2)) ∧ ((¬ x1 ≤ p1) → (K (nI 1) s2)))))) : VV mX2_hasPhrase d s00 0 [some (.ref 1), some (.int p1)] [] σ (Qi K) := by
  refine v_iload_n (q := 1) dX2_hasPhrase_0 rfl rfl ?_
  refine v_if_lt (t := 16) (q := 4) dX2_hasPhrase_1 rfl (by decide) (fun c => ?_) (fun c => ?_)
  · have h := h.1 (c)
    refine v_iconst (v := (nI 0)) (q := 17) dX2_hasPhrase_16 rfl (by decide) ?_
    exact v_zret dX2_hasPhrase_17 rfl (by decide) ⟨_, rfl, h⟩
  · have h := h.2 (c)
    refine v_iload_n (q := 5) dX2_hasPhrase_4 rfl rfl ?_
    refine v_aload_n (q := 6) dX2_hasPhrase_5 rfl rfl ?_
    refine v_callV (As := []) (n := 0) (q := 9) dX2_hasPhrase_6 rfl lk_2_57 hd1 rfl rfl (Nat.le_of_ble_eq_true rfl) (CT.imp h (fun r s2 h => ?_))
    obtain ⟨x1, rfl, h⟩ := h
    show VV mX2_hasPhrase d s00 9 [some (.ref 1), some (.int p1)] [.int x1, .int p1] s2 (Qi K)
    refine v_icmp_ge (t := 16) (q := 12) dX2_hasPhrase_9 rfl (by decide) (fun c => ?_) (fun c => ?_)
    · have h := h.1 (c)
      refine v_iconst (v := (nI 0)) (q := 17) dX2_hasPhrase_16 rfl (by decide) ?_
      exact v_zret dX2_hasPhrase_17 rfl (by decide) ⟨_, rfl, h⟩
    · have h := h.2 (c)
      refine v_iconst (v := (nI 1)) (q := 13) dX2_hasPhrase_12 rfl (by decide) ?_
      refine v_goto (q := 17) dX2_hasPhrase_13 (by decide) ?_
      exact v_zret dX2_hasPhrase_17 rfl (by decide) ⟨_, rfl, h⟩
theorem eX2_hasPhrase {d : Nat} {σ : SS} {K : Int32 → SS → Prop} (p1 : Int32)  (hd1 : 1 ≤ d) (h : ((p1 < 0) → (K (nI 0) σ)) ∧ ((¬ p1 < 0) → (CTi mX2_phrases (d - 1) [.ref 1] σ (fun x1 s2 => ((x1 ≤ p1) → (K (nI 0) s2)) ∧ ((¬ x1 ≤ p1) → (K (nI 1) s2)))))) : CTi mX2_hasPhrase d [.ref 1, .int p1] σ K := CT_of (Q := (Qi K)) (by decide +kernel) rfl (by decide) (Nat.le_of_ble_eq_true rfl) rfl (bX2_hasPhrase_0 p1 hd1 h)
set_option maxRecDepth 20000 in
theorem bX2_hasNote_0 {d : Nat} {σ : SS} {K : Int32 → SS → Prop} (p1 : Int32)  (hd1 : 1 ≤ d) (h : ((p1 < 0) → (K (nI 0) σ)) ∧ ((¬ p1 < 0) → (CTi mX2_notes (d - 1) [.ref 1] σ (fun x1 s2 => ((x1 ≤ p1) → (K (nI 0) s2)) ∧ ((¬ x1 ≤ p1) → (K (nI 1) s2)))))) : VV mX2_hasNote d s00 0 [some (.ref 1), some (.int p1)] [] σ (Qi K) := by
  refine v_iload_n (q := 1) dX2_hasNote_0 rfl rfl ?_
  refine v_if_lt (t := 16) (q := 4) dX2_hasNote_1 rfl (by decide) (fun c => ?_) (fun c => ?_)
  · have h := h.1 (c)
    refine v_iconst (v := (nI 0)) (q := 17) dX2_hasNote_16 rfl (by decide) ?_
    exact v_zret dX2_hasNote_17 rfl (by decide) ⟨_, rfl, h⟩
  · have h := h.2 (c)
    refine v_iload_n (q := 5) dX2_hasNote_4 rfl rfl ?_
    refine v_aload_n (q := 6) dX2_hasNote_5 rfl rfl ?_
    refine v_callV (As := []) (n := 0) (q := 9) dX2_hasNote_6 rfl lk_2_60 hd1 rfl rfl (Nat.le_of_ble_eq_true rfl) (CT.imp h (fun r s2 h => ?_))
    obtain ⟨x1, rfl, h⟩ := h
    show VV mX2_hasNote d s00 9 [some (.ref 1), some (.int p1)] [.int x1, .int p1] s2 (Qi K)
    refine v_icmp_ge (t := 16) (q := 12) dX2_hasNote_9 rfl (by decide) (fun c => ?_) (fun c => ?_)
    · have h := h.1 (c)
      refine v_iconst (v := (nI 0)) (q := 17) dX2_hasNote_16 rfl (by decide) ?_
      exact v_zret dX2_hasNote_17 rfl (by decide) ⟨_, rfl, h⟩
    · have h := h.2 (c)
      refine v_iconst (v := (nI 1)) (q := 13) dX2_hasNote_12 rfl (by decide) ?_
      refine v_goto (q := 17) dX2_hasNote_13 (by decide) ?_
      exact v_zret dX2_hasNote_17 rfl (by decide) ⟨_, rfl, h⟩
theorem eX2_hasNote {d : Nat} {σ : SS} {K : Int32 → SS → Prop} (p1 : Int32)  (hd1 : 1 ≤ d) (h : ((p1 < 0) → (K (nI 0) σ)) ∧ ((¬ p1 < 0) → (CTi mX2_notes (d - 1) [.ref 1] σ (fun x1 s2 => ((x1 ≤ p1) → (K (nI 0) s2)) ∧ ((¬ x1 ≤ p1) → (K (nI 1) s2)))))) : CTi mX2_hasNote d [.ref 1, .int p1] σ K := CT_of (Q := (Qi K)) (by decide +kernel) rfl (by decide) (Nat.le_of_ble_eq_true rfl) rfl (bX2_hasNote_0 p1 hd1 h)
set_option maxRecDepth 20000 in
theorem bX2_settingOf_0 {d : Nat} {σ : SS} {K : Int32 → SS → Prop} (p1 : Int32)   (h : (vp_in ((nI 5) + p1) 654) ∧ (K (σ.1 12 ((nI 5) + p1).toNatClampNeg) σ)) : VV mX2_settingOf d s00 0 [some (.ref 1), some (.int p1)] [] σ (Qi K) := by
  refine v_aload_n (q := 1) dX2_settingOf_0 rfl rfl ?_
  refine v_iconst (v := (nI 5)) (q := 2) dX2_settingOf_1 rfl (by decide) ?_
  refine v_iload_n (q := 3) dX2_settingOf_2 rfl rfl ?_
  refine v_iadd (q := 4) dX2_settingOf_3 rfl ?_
  refine v_at (q := 7) dX2_settingOf_4 rfl lk_2_45 (Nat.le_of_ble_eq_true rfl) h.1 ?_
  have h := h.2
  exact v_iret dX2_settingOf_7 rfl ⟨_, rfl, h⟩
theorem eX2_settingOf {d : Nat} {σ : SS} {K : Int32 → SS → Prop} (p1 : Int32)   (h : (vp_in ((nI 5) + p1) 654) ∧ (K (σ.1 12 ((nI 5) + p1).toNatClampNeg) σ)) : CTi mX2_settingOf d [.ref 1, .int p1] σ K := CT_of (Q := (Qi K)) (by decide +kernel) rfl (by decide) (Nat.le_of_ble_eq_true rfl) rfl (bX2_settingOf_0 p1  h)
set_option maxRecDepth 20000 in
theorem bX2_changeSetting_0 {d : Nat} {σ : SS} {K : SS → Prop} (p1 : Int32) (p2 : Int32)   (h : (vp_in ((nI 5) + p1) 654) ∧ (K (sA σ 12 ((nI 5) + p1).toNatClampNeg p2))) : VV mX2_changeSetting d s00 0 [some (.ref 1), some (.int p1), some (.int p2)] [] σ (Qv K) := by
  refine v_aload_n (q := 1) dX2_changeSetting_0 rfl rfl ?_
  refine v_iconst (v := (nI 5)) (q := 2) dX2_changeSetting_1 rfl (by decide) ?_
  refine v_iload_n (q := 3) dX2_changeSetting_2 rfl rfl ?_
  refine v_iadd (q := 4) dX2_changeSetting_3 rfl ?_
  refine v_iload_n (q := 5) dX2_changeSetting_4 rfl rfl ?_
  refine v_putc (q := 8) dX2_changeSetting_5 rfl lk_2_49 (Nat.le_of_ble_eq_true rfl) h.1 ?_
  have h := h.2
  exact v_ret0 dX2_changeSetting_8 rfl ⟨rfl, h⟩
theorem eX2_changeSetting {d : Nat} {σ : SS} {K : SS → Prop} (p1 : Int32) (p2 : Int32)   (h : (vp_in ((nI 5) + p1) 654) ∧ (K (sA σ 12 ((nI 5) + p1).toNatClampNeg p2))) : CTv mX2_changeSetting d [.ref 1, .int p1, .int p2] σ K := CT_of (Q := (Qv K)) (by decide +kernel) rfl (by decide) (Nat.le_of_ble_eq_true rfl) rfl (bX2_changeSetting_0 p1 p2  h)
set_option maxRecDepth 20000 in
theorem bX2_moveTick_0 {d : Nat} {σ : SS} {K : Int32 → SS → Prop} (p1 : Int32)   (h : (vp_in (nI 3) 654) ∧ ((vp_in (nI 3) 654) ∧ (K ((sA σ 12 (nI 3).toNatClampNeg (σ.1 12 (nI 3).toNatClampNeg + p1)).1 12 (nI 3).toNatClampNeg) (sA σ 12 (nI 3).toNatClampNeg (σ.1 12 (nI 3).toNatClampNeg + p1))))) : VV mX2_moveTick d s00 0 [some (.ref 1), some (.int p1)] [] σ (Qi K) := by
  refine v_aload_n (q := 1) dX2_moveTick_0 rfl rfl ?_
  refine v_iconst (v := (nI 3)) (q := 2) dX2_moveTick_1 rfl (by decide) ?_
  refine v_iload_n (q := 3) dX2_moveTick_2 rfl rfl ?_
  refine v_incc (q := 6) dX2_moveTick_3 rfl lk_2_63 (Nat.le_of_ble_eq_true rfl) h.1 ?_
  have h := h.2
  refine v_aload_n (q := 7) dX2_moveTick_6 rfl rfl ?_
  refine v_iconst (v := (nI 3)) (q := 8) dX2_moveTick_7 rfl (by decide) ?_
  refine v_at (q := 11) dX2_moveTick_8 rfl lk_2_45 (Nat.le_of_ble_eq_true rfl) h.1 ?_
  have h := h.2
  exact v_iret dX2_moveTick_11 rfl ⟨_, rfl, h⟩
theorem eX2_moveTick {d : Nat} {σ : SS} {K : Int32 → SS → Prop} (p1 : Int32)   (h : (vp_in (nI 3) 654) ∧ ((vp_in (nI 3) 654) ∧ (K ((sA σ 12 (nI 3).toNatClampNeg (σ.1 12 (nI 3).toNatClampNeg + p1)).1 12 (nI 3).toNatClampNeg) (sA σ 12 (nI 3).toNatClampNeg (σ.1 12 (nI 3).toNatClampNeg + p1))))) : CTi mX2_moveTick d [.ref 1, .int p1] σ K := CT_of (Q := (Qi K)) (by decide +kernel) rfl (by decide) (Nat.le_of_ble_eq_true rfl) rfl (bX2_moveTick_0 p1  h)
set_option maxRecDepth 20000 in
theorem bX2_startMember_0 {d : Nat} {σ : SS} {K : Int32 → SS → Prop}   (hd1 : 1 ≤ d) (h : (vp_in (nI 0) 654) ∧ ((vp_in (nI 0) 654) ∧ (CTi mX2_memberCell (d - 1) [.int (σ.1 12 (nI 0).toNatClampNeg), .int (nI 0)] (sA σ 12 (nI 0).toNatClampNeg (σ.1 12 (nI 0).toNatClampNeg + (nI 1))) (fun x1 s2 => (vp_in x1 654) ∧ (CTi mX2_memberCell (d - 1) [.int (σ.1 12 (nI 0).toNatClampNeg), .int (nI 1)] (sA s2 12 x1.toNatClampNeg (nI 40)) (fun x3 s4 => (vp_in x3 654) ∧ (K (σ.1 12 (nI 0).toNatClampNeg) (sA s4 12 x3.toNatClampNeg (nI 0))))))))) : VV mX2_startMember d s00 0 [some (.ref 1), none] [] σ (Qi K) := by
  refine v_aload_n (q := 1) dX2_startMember_0 rfl rfl ?_
  refine v_iconst (v := (nI 0)) (q := 2) dX2_startMember_1 rfl (by decide) ?_
  refine v_at (q := 5) dX2_startMember_2 rfl lk_2_45 (Nat.le_of_ble_eq_true rfl) h.1 ?_
  have h := h.2
  refine v_istore_n (q := 6) dX2_startMember_5 rfl (by decide) rfl ?_
  refine v_aload_n (q := 7) dX2_startMember_6 rfl rfl ?_
  refine v_iconst (v := (nI 0)) (q := 8) dX2_startMember_7 rfl (by decide) ?_
  refine v_iconst (v := (nI 1)) (q := 9) dX2_startMember_8 rfl (by decide) ?_
  refine v_incc (q := 12) dX2_startMember_9 rfl lk_2_63 (Nat.le_of_ble_eq_true rfl) h.1 ?_
  have h := h.2
  refine v_aload_n (q := 13) dX2_startMember_12 rfl rfl ?_
  refine v_iload_n (q := 14) dX2_startMember_13 rfl rfl ?_
  refine v_iconst (v := (nI 0)) (q := 15) dX2_startMember_14 rfl (by decide) ?_
  refine v_callS (As := [.int (σ.1 12 (nI 0).toNatClampNeg), .int (nI 0)]) (n := 2) (q := 18) dX2_startMember_15 rfl lk_2_66 hd1 rfl (Nat.le_of_ble_eq_true rfl) (CT.imp h (fun r s2 h => ?_))
  obtain ⟨x1, rfl, h⟩ := h
  show VV mX2_startMember d s00 18 [some (.ref 1), some (.int (σ.1 12 (nI 0).toNatClampNeg))] [.int x1, .ref 1] s2 (Qi K)
  refine v_bipush (v := (nI 40)) (q := 20) dX2_startMember_18 rfl (by decide) ?_
  refine v_putc (q := 23) dX2_startMember_20 rfl lk_2_49 (Nat.le_of_ble_eq_true rfl) h.1 ?_
  have h := h.2
  refine v_aload_n (q := 24) dX2_startMember_23 rfl rfl ?_
  refine v_iload_n (q := 25) dX2_startMember_24 rfl rfl ?_
  refine v_iconst (v := (nI 1)) (q := 26) dX2_startMember_25 rfl (by decide) ?_
  refine v_callS (As := [.int (σ.1 12 (nI 0).toNatClampNeg), .int (nI 1)]) (n := 2) (q := 29) dX2_startMember_26 rfl lk_2_66 hd1 rfl (Nat.le_of_ble_eq_true rfl) (CT.imp h (fun r s4 h => ?_))
  obtain ⟨x3, rfl, h⟩ := h
  show VV mX2_startMember d s00 29 [some (.ref 1), some (.int (σ.1 12 (nI 0).toNatClampNeg))] [.int x3, .ref 1] s4 (Qi K)
  refine v_iconst (v := (nI 0)) (q := 30) dX2_startMember_29 rfl (by decide) ?_
  refine v_putc (q := 33) dX2_startMember_30 rfl lk_2_49 (Nat.le_of_ble_eq_true rfl) h.1 ?_
  have h := h.2
  refine v_iload_n (q := 34) dX2_startMember_33 rfl rfl ?_
  exact v_iret dX2_startMember_34 rfl ⟨_, rfl, h⟩
theorem eX2_startMember {d : Nat} {σ : SS} {K : Int32 → SS → Prop}   (hd1 : 1 ≤ d) (h : (vp_in (nI 0) 654) ∧ ((vp_in (nI 0) 654) ∧ (CTi mX2_memberCell (d - 1) [.int (σ.1 12 (nI 0).toNatClampNeg), .int (nI 0)] (sA σ 12 (nI 0).toNatClampNeg (σ.1 12 (nI 0).toNatClampNeg + (nI 1))) (fun x1 s2 => (vp_in x1 654) ∧ (CTi mX2_memberCell (d - 1) [.int (σ.1 12 (nI 0).toNatClampNeg), .int (nI 1)] (sA s2 12 x1.toNatClampNeg (nI 40)) (fun x3 s4 => (vp_in x3 654) ∧ (K (σ.1 12 (nI 0).toNatClampNeg) (sA s4 12 x3.toNatClampNeg (nI 0))))))))) : CTi mX2_startMember d [.ref 1] σ K := CT_of (Q := (Qi K)) (by decide +kernel) rfl (by decide) (Nat.le_of_ble_eq_true rfl) rfl (bX2_startMember_0  hd1 h)
set_option maxRecDepth 20000 in
theorem bX2_priceOf_0 {d : Nat} {σ : SS} {K : Int32 → SS → Prop} (p1 : Int32)  (hd1 : 1 ≤ d) (h : CTi mX2_memberCell (d - 1) [.int p1, .int (nI 0)] σ (fun x1 s2 => (vp_in x1 654) ∧ (K (s2.1 12 x1.toNatClampNeg) s2))) : VV mX2_priceOf d s00 0 [some (.ref 1), some (.int p1)] [] σ (Qi K) := by
  refine v_aload_n (q := 1) dX2_priceOf_0 rfl rfl ?_
  refine v_iload_n (q := 2) dX2_priceOf_1 rfl rfl ?_
  refine v_iconst (v := (nI 0)) (q := 3) dX2_priceOf_2 rfl (by decide) ?_
  refine v_callS (As := [.int p1, .int (nI 0)]) (n := 2) (q := 6) dX2_priceOf_3 rfl lk_2_66 hd1 rfl (Nat.le_of_ble_eq_true rfl) (CT.imp h (fun r s2 h => ?_))
  obtain ⟨x1, rfl, h⟩ := h
  show VV mX2_priceOf d s00 6 [some (.ref 1), some (.int p1)] [.int x1, .ref 1] s2 (Qi K)
  refine v_at (q := 9) dX2_priceOf_6 rfl lk_2_45 (Nat.le_of_ble_eq_true rfl) h.1 ?_
  have h := h.2
  exact v_iret dX2_priceOf_9 rfl ⟨_, rfl, h⟩
theorem eX2_priceOf {d : Nat} {σ : SS} {K : Int32 → SS → Prop} (p1 : Int32)  (hd1 : 1 ≤ d) (h : CTi mX2_memberCell (d - 1) [.int p1, .int (nI 0)] σ (fun x1 s2 => (vp_in x1 654) ∧ (K (s2.1 12 x1.toNatClampNeg) s2))) : CTi mX2_priceOf d [.ref 1, .int p1] σ K := CT_of (Q := (Qi K)) (by decide +kernel) rfl (by decide) (Nat.le_of_ble_eq_true rfl) rfl (bX2_priceOf_0 p1 hd1 h)
set_option maxRecDepth 20000 in
theorem bX2_changePrice_0 {d : Nat} {σ : SS} {K : SS → Prop} (p1 : Int32) (p2 : Int32)  (hd1 : 1 ≤ d) (h : CTi mX2_memberCell (d - 1) [.int p1, .int (nI 0)] σ (fun x1 s2 => (vp_in x1 654) ∧ (K (sA s2 12 x1.toNatClampNeg p2)))) : VV mX2_changePrice d s00 0 [some (.ref 1), some (.int p1), some (.int p2)] [] σ (Qv K) := by
  refine v_aload_n (q := 1) dX2_changePrice_0 rfl rfl ?_
  refine v_iload_n (q := 2) dX2_changePrice_1 rfl rfl ?_
  refine v_iconst (v := (nI 0)) (q := 3) dX2_changePrice_2 rfl (by decide) ?_
  refine v_callS (As := [.int p1, .int (nI 0)]) (n := 2) (q := 6) dX2_changePrice_3 rfl lk_2_66 hd1 rfl (Nat.le_of_ble_eq_true rfl) (CT.imp h (fun r s2 h => ?_))
  obtain ⟨x1, rfl, h⟩ := h
  show VV mX2_changePrice d s00 6 [some (.ref 1), some (.int p1), some (.int p2)] [.int x1, .ref 1] s2 (Qv K)
  refine v_iload_n (q := 7) dX2_changePrice_6 rfl rfl ?_
  refine v_putc (q := 10) dX2_changePrice_7 rfl lk_2_49 (Nat.le_of_ble_eq_true rfl) h.1 ?_
  have h := h.2
  exact v_ret0 dX2_changePrice_10 rfl ⟨rfl, h⟩
theorem eX2_changePrice {d : Nat} {σ : SS} {K : SS → Prop} (p1 : Int32) (p2 : Int32)  (hd1 : 1 ≤ d) (h : CTi mX2_memberCell (d - 1) [.int p1, .int (nI 0)] σ (fun x1 s2 => (vp_in x1 654) ∧ (K (sA s2 12 x1.toNatClampNeg p2)))) : CTv mX2_changePrice d [.ref 1, .int p1, .int p2] σ K := CT_of (Q := (Qv K)) (by decide +kernel) rfl (by decide) (Nat.le_of_ble_eq_true rfl) rfl (bX2_changePrice_0 p1 p2 hd1 h)
set_option maxRecDepth 20000 in
theorem bX2_memberProperty_0 {d : Nat} {σ : SS} {K : Int32 → SS → Prop} (p1 : Int32) (p2 : Int32)  (hd1 : 1 ≤ d) (h : (p2 = nI 0 → (CTi mX2_memberCell (d - 1) [.int p1, .int p2] σ (fun x1 s2 => (vp_in x1 654) ∧ (K (s2.1 12 x1.toNatClampNeg) s2)))) ∧ (p2 = nI 1 → (CTi mX2_memberCell (d - 1) [.int p1, .int p2] σ (fun x3 s4 => (vp_in x3 654) ∧ (K (s4.1 12 x3.toNatClampNeg) s4)))) ∧ (p2 = nI 2 → (CTi mX2_countOwned (d - 1) [.ref 1, .int p1] σ (fun x5 s6 => K x5 s6))) ∧ (p2 = nI 3 → (CTi mX2_countUsesNoted (d - 1) [.ref 1, .int p1] σ (fun x7 s8 => K x7 s8))) ∧ ((∀ k : Nat, k < 4 → ¬ p2 = nI k) → (CTi mX2_sumGot (d - 1) [.ref 1, .int p1] σ (fun x9 s10 => K x9 s10)))) : VV mX2_memberProperty d s00 0 [some (.ref 1), some (.int p1), some (.int p2)] [] σ (Qi K) := by
  refine v_iload_n (q := 1) dX2_memberProperty_0 rfl rfl ?_
  refine v_tsw (n := 4) (t := 54) (tg := fun k => match k with | 0 => 32 | 1 => 32 | 2 => 42 | _ => 48) dX2_memberProperty_1 rfl (by decide) ?_ (by decide) (fun k hk c => ?_) (fun c => ?_)
  · intro k hk
    rcases (show k = 0 ∨ k = 1 ∨ k = 2 ∨ k = 3 by omega) with rfl | rfl | rfl | rfl
    all_goals exact ⟨_, rfl, by decide⟩
  · rcases (show k = 0 ∨ k = 1 ∨ k = 2 ∨ k = 3 by omega) with rfl | rfl | rfl | rfl
    · have h := h.1 c
      refine v_aload_n (q := 33) dX2_memberProperty_32 rfl rfl ?_
      refine v_iload_n (q := 34) dX2_memberProperty_33 rfl rfl ?_
      refine v_iload_n (q := 35) dX2_memberProperty_34 rfl rfl ?_
      refine v_callS (As := [.int p1, .int p2]) (n := 2) (q := 38) dX2_memberProperty_35 rfl lk_2_66 hd1 rfl (Nat.le_of_ble_eq_true rfl) (CT.imp h (fun r s2 h => ?_))
      obtain ⟨x1, rfl, h⟩ := h
      show VV mX2_memberProperty d s00 38 [some (.ref 1), some (.int p1), some (.int p2)] [.int x1, .ref 1] s2 (Qi K)
      refine v_at (q := 41) dX2_memberProperty_38 rfl lk_2_45 (Nat.le_of_ble_eq_true rfl) h.1 ?_
      have h := h.2
      exact v_iret dX2_memberProperty_41 rfl ⟨_, rfl, h⟩
    · have h := h.2.1 c
      refine v_aload_n (q := 33) dX2_memberProperty_32 rfl rfl ?_
      refine v_iload_n (q := 34) dX2_memberProperty_33 rfl rfl ?_
      refine v_iload_n (q := 35) dX2_memberProperty_34 rfl rfl ?_
      refine v_callS (As := [.int p1, .int p2]) (n := 2) (q := 38) dX2_memberProperty_35 rfl lk_2_66 hd1 rfl (Nat.le_of_ble_eq_true rfl) (CT.imp h (fun r s4 h => ?_))
      obtain ⟨x3, rfl, h⟩ := h
      show VV mX2_memberProperty d s00 38 [some (.ref 1), some (.int p1), some (.int p2)] [.int x3, .ref 1] s4 (Qi K)
      refine v_at (q := 41) dX2_memberProperty_38 rfl lk_2_45 (Nat.le_of_ble_eq_true rfl) h.1 ?_
      have h := h.2
      exact v_iret dX2_memberProperty_41 rfl ⟨_, rfl, h⟩
    · have h := h.2.2.1 c
      refine v_aload_n (q := 43) dX2_memberProperty_42 rfl rfl ?_
      refine v_iload_n (q := 44) dX2_memberProperty_43 rfl rfl ?_
      refine v_callV (As := [.int p1]) (n := 1) (q := 47) dX2_memberProperty_44 rfl lk_2_70 hd1 rfl rfl (Nat.le_of_ble_eq_true rfl) (CT.imp h (fun r s6 h => ?_))
      obtain ⟨x5, rfl, h⟩ := h
      show VV mX2_memberProperty d s00 47 [some (.ref 1), some (.int p1), some (.int p2)] [.int x5] s6 (Qi K)
      exact v_iret dX2_memberProperty_47 rfl ⟨_, rfl, h⟩
    · have h := h.2.2.2.1 c
      refine v_aload_n (q := 49) dX2_memberProperty_48 rfl rfl ?_
      refine v_iload_n (q := 50) dX2_memberProperty_49 rfl rfl ?_
      refine v_callV (As := [.int p1]) (n := 1) (q := 53) dX2_memberProperty_50 rfl lk_2_73 hd1 rfl rfl (Nat.le_of_ble_eq_true rfl) (CT.imp h (fun r s8 h => ?_))
      obtain ⟨x7, rfl, h⟩ := h
      show VV mX2_memberProperty d s00 53 [some (.ref 1), some (.int p1), some (.int p2)] [.int x7] s8 (Qi K)
      exact v_iret dX2_memberProperty_53 rfl ⟨_, rfl, h⟩
  · have h := h.2.2.2.2 c
    refine v_aload_n (q := 55) dX2_memberProperty_54 rfl rfl ?_
    refine v_iload_n (q := 56) dX2_memberProperty_55 rfl rfl ?_
    refine v_callV (As := [.int p1]) (n := 1) (q := 59) dX2_memberProperty_56 rfl lk_2_76 hd1 rfl rfl (Nat.le_of_ble_eq_true rfl) (CT.imp h (fun r s10 h => ?_))
    obtain ⟨x9, rfl, h⟩ := h
    show VV mX2_memberProperty d s00 59 [some (.ref 1), some (.int p1), some (.int p2)] [.int x9] s10 (Qi K)
    exact v_iret dX2_memberProperty_59 rfl ⟨_, rfl, h⟩
theorem eX2_memberProperty {d : Nat} {σ : SS} {K : Int32 → SS → Prop} (p1 : Int32) (p2 : Int32)  (hd1 : 1 ≤ d) (h : (p2 = nI 0 → (CTi mX2_memberCell (d - 1) [.int p1, .int p2] σ (fun x1 s2 => (vp_in x1 654) ∧ (K (s2.1 12 x1.toNatClampNeg) s2)))) ∧ (p2 = nI 1 → (CTi mX2_memberCell (d - 1) [.int p1, .int p2] σ (fun x3 s4 => (vp_in x3 654) ∧ (K (s4.1 12 x3.toNatClampNeg) s4)))) ∧ (p2 = nI 2 → (CTi mX2_countOwned (d - 1) [.ref 1, .int p1] σ (fun x5 s6 => K x5 s6))) ∧ (p2 = nI 3 → (CTi mX2_countUsesNoted (d - 1) [.ref 1, .int p1] σ (fun x7 s8 => K x7 s8))) ∧ ((∀ k : Nat, k < 4 → ¬ p2 = nI k) → (CTi mX2_sumGot (d - 1) [.ref 1, .int p1] σ (fun x9 s10 => K x9 s10)))) : CTi mX2_memberProperty d [.ref 1, .int p1, .int p2] σ K := CT_of (Q := (Qi K)) (by decide +kernel) rfl (by decide) (Nat.le_of_ble_eq_true rfl) rfl (bX2_memberProperty_0 p1 p2 hd1 h)
set_option maxRecDepth 20000 in
theorem bX2_countOwned_0 {d : Nat} {σ : SS} {K : Int32 → SS → Prop} (p1 : Int32)   (h : VV mX2_countOwned d s00 4 [some (.ref 1), some (.int p1), some (.int (nI 0)), some (.int (nI 0))] [] σ (Qi K)) : VV mX2_countOwned d s00 0 [some (.ref 1), some (.int p1), none, none] [] σ (Qi K) := by
  refine v_iconst (v := (nI 0)) (q := 1) dX2_countOwned_0 rfl (by decide) ?_
  refine v_istore_n (q := 2) dX2_countOwned_1 rfl (by decide) rfl ?_
  refine v_iconst (v := (nI 0)) (q := 3) dX2_countOwned_2 rfl (by decide) ?_
  refine v_istore_n (q := 4) dX2_countOwned_3 rfl (by decide) rfl ?_
  exact h
theorem eX2_countOwned {d : Nat} {σ : SS} {K : Int32 → SS → Prop} (p1 : Int32)   (h : VV mX2_countOwned d s00 4 [some (.ref 1), some (.int p1), some (.int (nI 0)), some (.int (nI 0))] [] σ (Qi K)) : CTi mX2_countOwned d [.ref 1, .int p1] σ K := CT_of (Q := (Qi K)) (by decide +kernel) rfl (by decide) (Nat.le_of_ble_eq_true rfl) rfl (bX2_countOwned_0 p1  h)
set_option maxRecDepth 20000 in
theorem bX2_countOwned_4 {d : Nat} {σ : SS} {K : Int32 → SS → Prop} (v1 : Int32) (v2 : Int32) (v3 : Int32)  (hd1 : 1 ≤ d) (h : CTi mX2_phrases (d - 1) [.ref 1] σ (fun x1 s2 => ((x1 ≤ v3) → (K v2 s2)) ∧ ((¬ x1 ≤ v3) → (CTi mX2_isLive (d - 1) [.ref 1, .int v3] s2 (fun x3 s4 => ((x3 = 0) → (VV mX2_countOwned d s00 4 [some (.ref 1), some (.int v1), some (.int v2), some (.int (v3 + nI 1))] [] s4 (Qi K))) ∧ ((¬ x3 = 0) → (CTi mX2_ownerOf (d - 1) [.ref 1, .int v3] s4 (fun x5 s6 => ((¬ x5 = v1) → (VV mX2_countOwned d s00 4 [some (.ref 1), some (.int v1), some (.int v2), some (.int (v3 + nI 1))] [] s6 (Qi K))) ∧ ((x5 = v1) → (VV mX2_countOwned d s00 4 [some (.ref 1), some (.int v1), some (.int (v2 + nI 1)), some (.int (v3 + nI 1))] [] s6 (Qi K))))))))))) : VV mX2_countOwned d s00 4 [some (.ref 1), some (.int v1), some (.int v2), some (.int v3)] [] σ (Qi K) := by
  refine v_iload_n (q := 5) dX2_countOwned_4 rfl rfl ?_
  refine v_aload_n (q := 6) dX2_countOwned_5 rfl rfl ?_
  refine v_callV (As := []) (n := 0) (q := 9) dX2_countOwned_6 rfl lk_2_57 hd1 rfl rfl (Nat.le_of_ble_eq_true rfl) (CT.imp h (fun r s2 h => ?_))
  obtain ⟨x1, rfl, h⟩ := h
  show VV mX2_countOwned d s00 9 [some (.ref 1), some (.int v1), some (.int v2), some (.int v3)] [.int x1, .int v3] s2 (Qi K)
  refine v_icmp_ge (t := 38) (q := 12) dX2_countOwned_9 rfl (by decide) (fun c => ?_) (fun c => ?_)
  · have h := h.1 (c)
    refine v_iload_n (q := 39) dX2_countOwned_38 rfl rfl ?_
    exact v_iret dX2_countOwned_39 rfl ⟨_, rfl, h⟩
  · have h := h.2 (c)
    refine v_aload_n (q := 13) dX2_countOwned_12 rfl rfl ?_
    refine v_iload_n (q := 14) dX2_countOwned_13 rfl rfl ?_
    refine v_callV (As := [.int v3]) (n := 1) (q := 17) dX2_countOwned_14 rfl lk_2_79 hd1 rfl rfl (Nat.le_of_ble_eq_true rfl) (CT.imp h (fun r s4 h => ?_))
    obtain ⟨x3, rfl, h⟩ := h
    show VV mX2_countOwned d s00 17 [some (.ref 1), some (.int v1), some (.int v2), some (.int v3)] [.int x3] s4 (Qi K)
    refine v_if_eq (t := 32) (q := 20) dX2_countOwned_17 rfl (by decide) (fun c => ?_) (fun c => ?_)
    · have h := h.1 (c)
      refine v_iinc (y := (v3 + nI 1)) (q := 35) dX2_countOwned_32 rfl rfl (congrArg (fun z => v3 + z) (by decide)) (by decide) rfl ?_
      refine v_goto (q := 4) dX2_countOwned_35 (by decide) ?_
      exact h
    · have h := h.2 (c)
      refine v_aload_n (q := 21) dX2_countOwned_20 rfl rfl ?_
      refine v_iload_n (q := 22) dX2_countOwned_21 rfl rfl ?_
      refine v_callV (As := [.int v3]) (n := 1) (q := 25) dX2_countOwned_22 rfl lk_2_83 hd1 rfl rfl (Nat.le_of_ble_eq_true rfl) (CT.imp h (fun r s6 h => ?_))
      obtain ⟨x5, rfl, h⟩ := h
      show VV mX2_countOwned d s00 25 [some (.ref 1), some (.int v1), some (.int v2), some (.int v3)] [.int x5] s6 (Qi K)
      refine v_iload_n (q := 26) dX2_countOwned_25 rfl rfl ?_
      refine v_icmp_ne (t := 32) (q := 29) dX2_countOwned_26 rfl (by decide) (fun c => ?_) (fun c => ?_)
      · have h := h.1 (c)
        refine v_iinc (y := (v3 + nI 1)) (q := 35) dX2_countOwned_32 rfl rfl (congrArg (fun z => v3 + z) (by decide)) (by decide) rfl ?_
        refine v_goto (q := 4) dX2_countOwned_35 (by decide) ?_
        exact h
      · have h := h.2 (c)
        refine v_iinc (y := (v2 + nI 1)) (q := 32) dX2_countOwned_29 rfl rfl (congrArg (fun z => v2 + z) (by decide)) (by decide) rfl ?_
        refine v_iinc (y := (v3 + nI 1)) (q := 35) dX2_countOwned_32 rfl rfl (congrArg (fun z => v3 + z) (by decide)) (by decide) rfl ?_
        refine v_goto (q := 4) dX2_countOwned_35 (by decide) ?_
        exact h
set_option maxRecDepth 20000 in
theorem bX2_countUsesNoted_0 {d : Nat} {σ : SS} {K : Int32 → SS → Prop} (p1 : Int32)   (h : VV mX2_countUsesNoted d s00 4 [some (.ref 1), some (.int p1), some (.int (nI 0)), some (.int (nI 0))] [] σ (Qi K)) : VV mX2_countUsesNoted d s00 0 [some (.ref 1), some (.int p1), none, none] [] σ (Qi K) := by
  refine v_iconst (v := (nI 0)) (q := 1) dX2_countUsesNoted_0 rfl (by decide) ?_
  refine v_istore_n (q := 2) dX2_countUsesNoted_1 rfl (by decide) rfl ?_
  refine v_iconst (v := (nI 0)) (q := 3) dX2_countUsesNoted_2 rfl (by decide) ?_
  refine v_istore_n (q := 4) dX2_countUsesNoted_3 rfl (by decide) rfl ?_
  exact h
theorem eX2_countUsesNoted {d : Nat} {σ : SS} {K : Int32 → SS → Prop} (p1 : Int32)   (h : VV mX2_countUsesNoted d s00 4 [some (.ref 1), some (.int p1), some (.int (nI 0)), some (.int (nI 0))] [] σ (Qi K)) : CTi mX2_countUsesNoted d [.ref 1, .int p1] σ K := CT_of (Q := (Qi K)) (by decide +kernel) rfl (by decide) (Nat.le_of_ble_eq_true rfl) rfl (bX2_countUsesNoted_0 p1  h)
set_option maxRecDepth 20000 in
theorem bX2_countUsesNoted_4 {d : Nat} {σ : SS} {K : Int32 → SS → Prop} (v1 : Int32) (v2 : Int32) (v3 : Int32)  (hd1 : 1 ≤ d) (h : CTi mX2_notes (d - 1) [.ref 1] σ (fun x1 s2 => ((x1 ≤ v3) → (K v2 s2)) ∧ ((¬ x1 ≤ v3) → (CTi mX2_noteProperty (d - 1) [.ref 1, .int v3, .int (nI 0)] s2 (fun x3 s4 => ((¬ x3 = v1) → (VV mX2_countUsesNoted d s00 4 [some (.ref 1), some (.int v1), some (.int v2), some (.int (v3 + nI 1))] [] s4 (Qi K))) ∧ ((x3 = v1) → (VV mX2_countUsesNoted d s00 4 [some (.ref 1), some (.int v1), some (.int (v2 + nI 1)), some (.int (v3 + nI 1))] [] s4 (Qi K)))))))) : VV mX2_countUsesNoted d s00 4 [some (.ref 1), some (.int v1), some (.int v2), some (.int v3)] [] σ (Qi K) := by
  refine v_iload_n (q := 5) dX2_countUsesNoted_4 rfl rfl ?_
  refine v_aload_n (q := 6) dX2_countUsesNoted_5 rfl rfl ?_
  refine v_callV (As := []) (n := 0) (q := 9) dX2_countUsesNoted_6 rfl lk_2_60 hd1 rfl rfl (Nat.le_of_ble_eq_true rfl) (CT.imp h (fun r s2 h => ?_))
  obtain ⟨x1, rfl, h⟩ := h
  show VV mX2_countUsesNoted d s00 9 [some (.ref 1), some (.int v1), some (.int v2), some (.int v3)] [.int x1, .int v3] s2 (Qi K)
  refine v_icmp_ge (t := 31) (q := 12) dX2_countUsesNoted_9 rfl (by decide) (fun c => ?_) (fun c => ?_)
  · have h := h.1 (c)
    refine v_iload_n (q := 32) dX2_countUsesNoted_31 rfl rfl ?_
    exact v_iret dX2_countUsesNoted_32 rfl ⟨_, rfl, h⟩
  · have h := h.2 (c)
    refine v_aload_n (q := 13) dX2_countUsesNoted_12 rfl rfl ?_
    refine v_iload_n (q := 14) dX2_countUsesNoted_13 rfl rfl ?_
    refine v_iconst (v := (nI 0)) (q := 15) dX2_countUsesNoted_14 rfl (by decide) ?_
    refine v_callV (As := [.int v3, .int (nI 0)]) (n := 2) (q := 18) dX2_countUsesNoted_15 rfl lk_2_86 hd1 rfl rfl (Nat.le_of_ble_eq_true rfl) (CT.imp h (fun r s4 h => ?_))
    obtain ⟨x3, rfl, h⟩ := h
    show VV mX2_countUsesNoted d s00 18 [some (.ref 1), some (.int v1), some (.int v2), some (.int v3)] [.int x3] s4 (Qi K)
    refine v_iload_n (q := 19) dX2_countUsesNoted_18 rfl rfl ?_
    refine v_icmp_ne (t := 25) (q := 22) dX2_countUsesNoted_19 rfl (by decide) (fun c => ?_) (fun c => ?_)
    · have h := h.1 (c)
      refine v_iinc (y := (v3 + nI 1)) (q := 28) dX2_countUsesNoted_25 rfl rfl (congrArg (fun z => v3 + z) (by decide)) (by decide) rfl ?_
      refine v_goto (q := 4) dX2_countUsesNoted_28 (by decide) ?_
      exact h
    · have h := h.2 (c)
      refine v_iinc (y := (v2 + nI 1)) (q := 25) dX2_countUsesNoted_22 rfl rfl (congrArg (fun z => v2 + z) (by decide)) (by decide) rfl ?_
      refine v_iinc (y := (v3 + nI 1)) (q := 28) dX2_countUsesNoted_25 rfl rfl (congrArg (fun z => v3 + z) (by decide)) (by decide) rfl ?_
      refine v_goto (q := 4) dX2_countUsesNoted_28 (by decide) ?_
      exact h
set_option maxRecDepth 20000 in
theorem bX2_sumGot_0 {d : Nat} {σ : SS} {K : Int32 → SS → Prop} (p1 : Int32)   (h : VV mX2_sumGot d s00 4 [some (.ref 1), some (.int p1), some (.int (nI 0)), some (.int (nI 0))] [] σ (Qi K)) : VV mX2_sumGot d s00 0 [some (.ref 1), some (.int p1), none, none] [] σ (Qi K) := by
  refine v_iconst (v := (nI 0)) (q := 1) dX2_sumGot_0 rfl (by decide) ?_
  refine v_istore_n (q := 2) dX2_sumGot_1 rfl (by decide) rfl ?_
  refine v_iconst (v := (nI 0)) (q := 3) dX2_sumGot_2 rfl (by decide) ?_
  refine v_istore_n (q := 4) dX2_sumGot_3 rfl (by decide) rfl ?_
  exact h
theorem eX2_sumGot {d : Nat} {σ : SS} {K : Int32 → SS → Prop} (p1 : Int32)   (h : VV mX2_sumGot d s00 4 [some (.ref 1), some (.int p1), some (.int (nI 0)), some (.int (nI 0))] [] σ (Qi K)) : CTi mX2_sumGot d [.ref 1, .int p1] σ K := CT_of (Q := (Qi K)) (by decide +kernel) rfl (by decide) (Nat.le_of_ble_eq_true rfl) rfl (bX2_sumGot_0 p1  h)
set_option maxRecDepth 20000 in
theorem bX2_sumGot_4 {d : Nat} {σ : SS} {K : Int32 → SS → Prop} (v1 : Int32) (v2 : Int32) (v3 : Int32)  (hd1 : 1 ≤ d) (h : CTi mX2_notes (d - 1) [.ref 1] σ (fun x1 s2 => ((x1 ≤ v3) → (K v2 s2)) ∧ ((¬ x1 ≤ v3) → (CTi mX2_isPaidBack (d - 1) [.ref 1, .int v3] s2 (fun x3 s4 => ((¬ x3 = 0) → (VV mX2_sumGot d s00 4 [some (.ref 1), some (.int v1), some (.int v2), some (.int (v3 + nI 1))] [] s4 (Qi K))) ∧ ((x3 = 0) → (CTi mX2_noteProperty (d - 1) [.ref 1, .int v3, .int ((nI 7) + v1)] s4 (fun x5 s6 => VV mX2_sumGot d s00 4 [some (.ref 1), some (.int v1), some (.int (v2 + x5)), some (.int (v3 + nI 1))] [] s6 (Qi K))))))))) : VV mX2_sumGot d s00 4 [some (.ref 1), some (.int v1), some (.int v2), some (.int v3)] [] σ (Qi K) := by
  refine v_iload_n (q := 5) dX2_sumGot_4 rfl rfl ?_
  refine v_aload_n (q := 6) dX2_sumGot_5 rfl rfl ?_
  refine v_callV (As := []) (n := 0) (q := 9) dX2_sumGot_6 rfl lk_2_60 hd1 rfl rfl (Nat.le_of_ble_eq_true rfl) (CT.imp h (fun r s2 h => ?_))
  obtain ⟨x1, rfl, h⟩ := h
  show VV mX2_sumGot d s00 9 [some (.ref 1), some (.int v1), some (.int v2), some (.int v3)] [.int x1, .int v3] s2 (Qi K)
  refine v_icmp_ge (t := 38) (q := 12) dX2_sumGot_9 rfl (by decide) (fun c => ?_) (fun c => ?_)
  · have h := h.1 (c)
    refine v_iload_n (q := 39) dX2_sumGot_38 rfl rfl ?_
    exact v_iret dX2_sumGot_39 rfl ⟨_, rfl, h⟩
  · have h := h.2 (c)
    refine v_aload_n (q := 13) dX2_sumGot_12 rfl rfl ?_
    refine v_iload_n (q := 14) dX2_sumGot_13 rfl rfl ?_
    refine v_callV (As := [.int v3]) (n := 1) (q := 17) dX2_sumGot_14 rfl lk_2_89 hd1 rfl rfl (Nat.le_of_ble_eq_true rfl) (CT.imp h (fun r s4 h => ?_))
    obtain ⟨x3, rfl, h⟩ := h
    show VV mX2_sumGot d s00 17 [some (.ref 1), some (.int v1), some (.int v2), some (.int v3)] [.int x3] s4 (Qi K)
    refine v_if_ne (t := 32) (q := 20) dX2_sumGot_17 rfl (by decide) (fun c => ?_) (fun c => ?_)
    · have h := h.1 (c)
      refine v_iinc (y := (v3 + nI 1)) (q := 35) dX2_sumGot_32 rfl rfl (congrArg (fun z => v3 + z) (by decide)) (by decide) rfl ?_
      refine v_goto (q := 4) dX2_sumGot_35 (by decide) ?_
      exact h
    · have h := h.2 (c)
      refine v_iload_n (q := 21) dX2_sumGot_20 rfl rfl ?_
      refine v_aload_n (q := 22) dX2_sumGot_21 rfl rfl ?_
      refine v_iload_n (q := 23) dX2_sumGot_22 rfl rfl ?_
      refine v_bipush (v := (nI 7)) (q := 25) dX2_sumGot_23 rfl (by decide) ?_
      refine v_iload_n (q := 26) dX2_sumGot_25 rfl rfl ?_
      refine v_iadd (q := 27) dX2_sumGot_26 rfl ?_
      refine v_callV (As := [.int v3, .int ((nI 7) + v1)]) (n := 2) (q := 30) dX2_sumGot_27 rfl lk_2_86 hd1 rfl rfl (Nat.le_of_ble_eq_true rfl) (CT.imp h (fun r s6 h => ?_))
      obtain ⟨x5, rfl, h⟩ := h
      show VV mX2_sumGot d s00 30 [some (.ref 1), some (.int v1), some (.int v2), some (.int v3)] [.int x5, .int v2] s6 (Qi K)
      refine v_iadd (q := 31) dX2_sumGot_30 rfl ?_
      refine v_istore_n (q := 32) dX2_sumGot_31 rfl (by decide) rfl ?_
      refine v_iinc (y := (v3 + nI 1)) (q := 35) dX2_sumGot_32 rfl rfl (congrArg (fun z => v3 + z) (by decide)) (by decide) rfl ?_
      refine v_goto (q := 4) dX2_sumGot_35 (by decide) ?_
      exact h
set_option maxRecDepth 20000 in
theorem bX2_countOf_0 {d : Nat} {σ : SS} {K : Int32 → SS → Prop} (p1 : Int32)  (hd1 : 1 ≤ d) (h : (p1 = nI 0 → (CTi mX2_members (d - 1) [.ref 1] σ (fun x1 s2 => K x1 s2))) ∧ (p1 = nI 1 → (CTi mX2_phrases (d - 1) [.ref 1] σ (fun x3 s4 => K x3 s4))) ∧ (p1 = nI 2 → (CTi mX2_countLive (d - 1) [.ref 1] σ (fun x5 s6 => K x5 s6))) ∧ (p1 = nI 3 → (CTi mX2_notes (d - 1) [.ref 1] σ (fun x7 s8 => K x7 s8))) ∧ (p1 = nI 4 → (CTi mX2_countPaidBack (d - 1) [.ref 1] σ (fun x9 s10 => K x9 s10))) ∧ (p1 = nI 5 → (CTi mX2_tick (d - 1) [.ref 1] σ (fun x11 s12 => K x11 s12))) ∧ (p1 = nI 6 → ((vp_in (nI 4) 654) ∧ (K (σ.1 12 (nI 4).toNatClampNeg) σ))) ∧ (p1 = nI 7 → (CTi mX2_countConflicts (d - 1) [.ref 1] σ (fun x13 s14 => K x13 s14))) ∧ ((∀ k : Nat, k < 8 → ¬ p1 = nI k) → (CTi mX2_settingOf (d - 1) [.ref 1, .int (p1 - (nI 8))] σ (fun x15 s16 => K x15 s16)))) : VV mX2_countOf d s00 0 [some (.ref 1), some (.int p1)] [] σ (Qi K) := by
  refine v_iload_n (q := 1) dX2_countOf_0 rfl rfl ?_
  refine v_tsw (n := 8) (t := 89) (tg := fun k => match k with | 0 => 48 | 1 => 53 | 2 => 58 | 3 => 63 | 4 => 68 | 5 => 73 | 6 => 78 | _ => 84) dX2_countOf_1 rfl (by decide) ?_ (by decide) (fun k hk c => ?_) (fun c => ?_)
  · intro k hk
    rcases (show k = 0 ∨ k = 1 ∨ k = 2 ∨ k = 3 ∨ k = 4 ∨ k = 5 ∨ k = 6 ∨ k = 7 by omega) with rfl | rfl | rfl | rfl | rfl | rfl | rfl | rfl
    all_goals exact ⟨_, rfl, by decide⟩
  · rcases (show k = 0 ∨ k = 1 ∨ k = 2 ∨ k = 3 ∨ k = 4 ∨ k = 5 ∨ k = 6 ∨ k = 7 by omega) with rfl | rfl | rfl | rfl | rfl | rfl | rfl | rfl
    · have h := h.1 c
      refine v_aload_n (q := 49) dX2_countOf_48 rfl rfl ?_
      refine v_callV (As := []) (n := 0) (q := 52) dX2_countOf_49 rfl lk_2_53 hd1 rfl rfl (Nat.le_of_ble_eq_true rfl) (CT.imp h (fun r s2 h => ?_))
      obtain ⟨x1, rfl, h⟩ := h
      show VV mX2_countOf d s00 52 [some (.ref 1), some (.int p1)] [.int x1] s2 (Qi K)
      exact v_iret dX2_countOf_52 rfl ⟨_, rfl, h⟩
    · have h := h.2.1 c
      refine v_aload_n (q := 54) dX2_countOf_53 rfl rfl ?_
      refine v_callV (As := []) (n := 0) (q := 57) dX2_countOf_54 rfl lk_2_57 hd1 rfl rfl (Nat.le_of_ble_eq_true rfl) (CT.imp h (fun r s4 h => ?_))
      obtain ⟨x3, rfl, h⟩ := h
      show VV mX2_countOf d s00 57 [some (.ref 1), some (.int p1)] [.int x3] s4 (Qi K)
      exact v_iret dX2_countOf_57 rfl ⟨_, rfl, h⟩
    · have h := h.2.2.1 c
      refine v_aload_n (q := 59) dX2_countOf_58 rfl rfl ?_
      refine v_callV (As := []) (n := 0) (q := 62) dX2_countOf_59 rfl lk_2_92 hd1 rfl rfl (Nat.le_of_ble_eq_true rfl) (CT.imp h (fun r s6 h => ?_))
      obtain ⟨x5, rfl, h⟩ := h
      show VV mX2_countOf d s00 62 [some (.ref 1), some (.int p1)] [.int x5] s6 (Qi K)
      exact v_iret dX2_countOf_62 rfl ⟨_, rfl, h⟩
    · have h := h.2.2.2.1 c
      refine v_aload_n (q := 64) dX2_countOf_63 rfl rfl ?_
      refine v_callV (As := []) (n := 0) (q := 67) dX2_countOf_64 rfl lk_2_60 hd1 rfl rfl (Nat.le_of_ble_eq_true rfl) (CT.imp h (fun r s8 h => ?_))
      obtain ⟨x7, rfl, h⟩ := h
      show VV mX2_countOf d s00 67 [some (.ref 1), some (.int p1)] [.int x7] s8 (Qi K)
      exact v_iret dX2_countOf_67 rfl ⟨_, rfl, h⟩
    · have h := h.2.2.2.2.1 c
      refine v_aload_n (q := 69) dX2_countOf_68 rfl rfl ?_
      refine v_callV (As := []) (n := 0) (q := 72) dX2_countOf_69 rfl lk_2_95 hd1 rfl rfl (Nat.le_of_ble_eq_true rfl) (CT.imp h (fun r s10 h => ?_))
      obtain ⟨x9, rfl, h⟩ := h
      show VV mX2_countOf d s00 72 [some (.ref 1), some (.int p1)] [.int x9] s10 (Qi K)
      exact v_iret dX2_countOf_72 rfl ⟨_, rfl, h⟩
    · have h := h.2.2.2.2.2.1 c
      refine v_aload_n (q := 74) dX2_countOf_73 rfl rfl ?_
      refine v_callV (As := []) (n := 0) (q := 77) dX2_countOf_74 rfl lk_2_98 hd1 rfl rfl (Nat.le_of_ble_eq_true rfl) (CT.imp h (fun r s12 h => ?_))
      obtain ⟨x11, rfl, h⟩ := h
      show VV mX2_countOf d s00 77 [some (.ref 1), some (.int p1)] [.int x11] s12 (Qi K)
      exact v_iret dX2_countOf_77 rfl ⟨_, rfl, h⟩
    · have h := h.2.2.2.2.2.2.1 c
      refine v_aload_n (q := 79) dX2_countOf_78 rfl rfl ?_
      refine v_iconst (v := (nI 4)) (q := 80) dX2_countOf_79 rfl (by decide) ?_
      refine v_at (q := 83) dX2_countOf_80 rfl lk_2_45 (Nat.le_of_ble_eq_true rfl) h.1 ?_
      have h := h.2
      exact v_iret dX2_countOf_83 rfl ⟨_, rfl, h⟩
    · have h := h.2.2.2.2.2.2.2.1 c
      refine v_aload_n (q := 85) dX2_countOf_84 rfl rfl ?_
      refine v_callV (As := []) (n := 0) (q := 88) dX2_countOf_85 rfl lk_2_101 hd1 rfl rfl (Nat.le_of_ble_eq_true rfl) (CT.imp h (fun r s14 h => ?_))
      obtain ⟨x13, rfl, h⟩ := h
      show VV mX2_countOf d s00 88 [some (.ref 1), some (.int p1)] [.int x13] s14 (Qi K)
      exact v_iret dX2_countOf_88 rfl ⟨_, rfl, h⟩
  · have h := h.2.2.2.2.2.2.2.2 c
    refine v_aload_n (q := 90) dX2_countOf_89 rfl rfl ?_
    refine v_iload_n (q := 91) dX2_countOf_90 rfl rfl ?_
    refine v_bipush (v := (nI 8)) (q := 93) dX2_countOf_91 rfl (by decide) ?_
    refine v_isub (q := 94) dX2_countOf_93 rfl ?_
    refine v_callV (As := [.int (p1 - (nI 8))]) (n := 1) (q := 97) dX2_countOf_94 rfl lk_2_104 hd1 rfl rfl (Nat.le_of_ble_eq_true rfl) (CT.imp h (fun r s16 h => ?_))
    obtain ⟨x15, rfl, h⟩ := h
    show VV mX2_countOf d s00 97 [some (.ref 1), some (.int p1)] [.int x15] s16 (Qi K)
    exact v_iret dX2_countOf_97 rfl ⟨_, rfl, h⟩
theorem eX2_countOf {d : Nat} {σ : SS} {K : Int32 → SS → Prop} (p1 : Int32)  (hd1 : 1 ≤ d) (h : (p1 = nI 0 → (CTi mX2_members (d - 1) [.ref 1] σ (fun x1 s2 => K x1 s2))) ∧ (p1 = nI 1 → (CTi mX2_phrases (d - 1) [.ref 1] σ (fun x3 s4 => K x3 s4))) ∧ (p1 = nI 2 → (CTi mX2_countLive (d - 1) [.ref 1] σ (fun x5 s6 => K x5 s6))) ∧ (p1 = nI 3 → (CTi mX2_notes (d - 1) [.ref 1] σ (fun x7 s8 => K x7 s8))) ∧ (p1 = nI 4 → (CTi mX2_countPaidBack (d - 1) [.ref 1] σ (fun x9 s10 => K x9 s10))) ∧ (p1 = nI 5 → (CTi mX2_tick (d - 1) [.ref 1] σ (fun x11 s12 => K x11 s12))) ∧ (p1 = nI 6 → ((vp_in (nI 4) 654) ∧ (K (σ.1 12 (nI 4).toNatClampNeg) σ))) ∧ (p1 = nI 7 → (CTi mX2_countConflicts (d - 1) [.ref 1] σ (fun x13 s14 => K x13 s14))) ∧ ((∀ k : Nat, k < 8 → ¬ p1 = nI k) → (CTi mX2_settingOf (d - 1) [.ref 1, .int (p1 - (nI 8))] σ (fun x15 s16 => K x15 s16)))) : CTi mX2_countOf d [.ref 1, .int p1] σ K := CT_of (Q := (Qi K)) (by decide +kernel) rfl (by decide) (Nat.le_of_ble_eq_true rfl) rfl (bX2_countOf_0 p1 hd1 h)
set_option maxRecDepth 20000 in
theorem bX2_countLive_0 {d : Nat} {σ : SS} {K : Int32 → SS → Prop}    (h : VV mX2_countLive d s00 4 [some (.ref 1), some (.int (nI 0)), some (.int (nI 0))] [] σ (Qi K)) : VV mX2_countLive d s00 0 [some (.ref 1), none, none] [] σ (Qi K) := by
  refine v_iconst (v := (nI 0)) (q := 1) dX2_countLive_0 rfl (by decide) ?_
  refine v_istore_n (q := 2) dX2_countLive_1 rfl (by decide) rfl ?_
  refine v_iconst (v := (nI 0)) (q := 3) dX2_countLive_2 rfl (by decide) ?_
  refine v_istore_n (q := 4) dX2_countLive_3 rfl (by decide) rfl ?_
  exact h
theorem eX2_countLive {d : Nat} {σ : SS} {K : Int32 → SS → Prop}    (h : VV mX2_countLive d s00 4 [some (.ref 1), some (.int (nI 0)), some (.int (nI 0))] [] σ (Qi K)) : CTi mX2_countLive d [.ref 1] σ K := CT_of (Q := (Qi K)) (by decide +kernel) rfl (by decide) (Nat.le_of_ble_eq_true rfl) rfl (bX2_countLive_0   h)
set_option maxRecDepth 20000 in
theorem bX2_countLive_4 {d : Nat} {σ : SS} {K : Int32 → SS → Prop} (v1 : Int32) (v2 : Int32)  (hd1 : 1 ≤ d) (h : CTi mX2_phrases (d - 1) [.ref 1] σ (fun x1 s2 => ((x1 ≤ v2) → (K v1 s2)) ∧ ((¬ x1 ≤ v2) → (CTi mX2_isLive (d - 1) [.ref 1, .int v2] s2 (fun x3 s4 => ((x3 = 0) → (VV mX2_countLive d s00 4 [some (.ref 1), some (.int v1), some (.int (v2 + nI 1))] [] s4 (Qi K))) ∧ ((¬ x3 = 0) → (VV mX2_countLive d s00 4 [some (.ref 1), some (.int (v1 + nI 1)), some (.int (v2 + nI 1))] [] s4 (Qi K)))))))) : VV mX2_countLive d s00 4 [some (.ref 1), some (.int v1), some (.int v2)] [] σ (Qi K) := by
  refine v_iload_n (q := 5) dX2_countLive_4 rfl rfl ?_
  refine v_aload_n (q := 6) dX2_countLive_5 rfl rfl ?_
  refine v_callV (As := []) (n := 0) (q := 9) dX2_countLive_6 rfl lk_2_57 hd1 rfl rfl (Nat.le_of_ble_eq_true rfl) (CT.imp h (fun r s2 h => ?_))
  obtain ⟨x1, rfl, h⟩ := h
  show VV mX2_countLive d s00 9 [some (.ref 1), some (.int v1), some (.int v2)] [.int x1, .int v2] s2 (Qi K)
  refine v_icmp_ge (t := 29) (q := 12) dX2_countLive_9 rfl (by decide) (fun c => ?_) (fun c => ?_)
  · have h := h.1 (c)
    refine v_iload_n (q := 30) dX2_countLive_29 rfl rfl ?_
    exact v_iret dX2_countLive_30 rfl ⟨_, rfl, h⟩
  · have h := h.2 (c)
    refine v_aload_n (q := 13) dX2_countLive_12 rfl rfl ?_
    refine v_iload_n (q := 14) dX2_countLive_13 rfl rfl ?_
    refine v_callV (As := [.int v2]) (n := 1) (q := 17) dX2_countLive_14 rfl lk_2_79 hd1 rfl rfl (Nat.le_of_ble_eq_true rfl) (CT.imp h (fun r s4 h => ?_))
    obtain ⟨x3, rfl, h⟩ := h
    show VV mX2_countLive d s00 17 [some (.ref 1), some (.int v1), some (.int v2)] [.int x3] s4 (Qi K)
    refine v_if_eq (t := 23) (q := 20) dX2_countLive_17 rfl (by decide) (fun c => ?_) (fun c => ?_)
    · have h := h.1 (c)
      refine v_iinc (y := (v2 + nI 1)) (q := 26) dX2_countLive_23 rfl rfl (congrArg (fun z => v2 + z) (by decide)) (by decide) rfl ?_
      refine v_goto (q := 4) dX2_countLive_26 (by decide) ?_
      exact h
    · have h := h.2 (c)
      refine v_iinc (y := (v1 + nI 1)) (q := 23) dX2_countLive_20 rfl rfl (congrArg (fun z => v1 + z) (by decide)) (by decide) rfl ?_
      refine v_iinc (y := (v2 + nI 1)) (q := 26) dX2_countLive_23 rfl rfl (congrArg (fun z => v2 + z) (by decide)) (by decide) rfl ?_
      refine v_goto (q := 4) dX2_countLive_26 (by decide) ?_
      exact h
set_option maxRecDepth 20000 in
theorem bX2_countPaidBack_0 {d : Nat} {σ : SS} {K : Int32 → SS → Prop}    (h : VV mX2_countPaidBack d s00 4 [some (.ref 1), some (.int (nI 0)), some (.int (nI 0))] [] σ (Qi K)) : VV mX2_countPaidBack d s00 0 [some (.ref 1), none, none] [] σ (Qi K) := by
  refine v_iconst (v := (nI 0)) (q := 1) dX2_countPaidBack_0 rfl (by decide) ?_
  refine v_istore_n (q := 2) dX2_countPaidBack_1 rfl (by decide) rfl ?_
  refine v_iconst (v := (nI 0)) (q := 3) dX2_countPaidBack_2 rfl (by decide) ?_
  refine v_istore_n (q := 4) dX2_countPaidBack_3 rfl (by decide) rfl ?_
  exact h
theorem eX2_countPaidBack {d : Nat} {σ : SS} {K : Int32 → SS → Prop}    (h : VV mX2_countPaidBack d s00 4 [some (.ref 1), some (.int (nI 0)), some (.int (nI 0))] [] σ (Qi K)) : CTi mX2_countPaidBack d [.ref 1] σ K := CT_of (Q := (Qi K)) (by decide +kernel) rfl (by decide) (Nat.le_of_ble_eq_true rfl) rfl (bX2_countPaidBack_0   h)
set_option maxRecDepth 20000 in
theorem bX2_countPaidBack_4 {d : Nat} {σ : SS} {K : Int32 → SS → Prop} (v1 : Int32) (v2 : Int32)  (hd1 : 1 ≤ d) (h : CTi mX2_notes (d - 1) [.ref 1] σ (fun x1 s2 => ((x1 ≤ v2) → (K v1 s2)) ∧ ((¬ x1 ≤ v2) → (CTi mX2_isPaidBack (d - 1) [.ref 1, .int v2] s2 (fun x3 s4 => ((x3 = 0) → (VV mX2_countPaidBack d s00 4 [some (.ref 1), some (.int v1), some (.int (v2 + nI 1))] [] s4 (Qi K))) ∧ ((¬ x3 = 0) → (VV mX2_countPaidBack d s00 4 [some (.ref 1), some (.int (v1 + nI 1)), some (.int (v2 + nI 1))] [] s4 (Qi K)))))))) : VV mX2_countPaidBack d s00 4 [some (.ref 1), some (.int v1), some (.int v2)] [] σ (Qi K) := by
  refine v_iload_n (q := 5) dX2_countPaidBack_4 rfl rfl ?_
  refine v_aload_n (q := 6) dX2_countPaidBack_5 rfl rfl ?_
  refine v_callV (As := []) (n := 0) (q := 9) dX2_countPaidBack_6 rfl lk_2_60 hd1 rfl rfl (Nat.le_of_ble_eq_true rfl) (CT.imp h (fun r s2 h => ?_))
  obtain ⟨x1, rfl, h⟩ := h
  show VV mX2_countPaidBack d s00 9 [some (.ref 1), some (.int v1), some (.int v2)] [.int x1, .int v2] s2 (Qi K)
  refine v_icmp_ge (t := 29) (q := 12) dX2_countPaidBack_9 rfl (by decide) (fun c => ?_) (fun c => ?_)
  · have h := h.1 (c)
    refine v_iload_n (q := 30) dX2_countPaidBack_29 rfl rfl ?_
    exact v_iret dX2_countPaidBack_30 rfl ⟨_, rfl, h⟩
  · have h := h.2 (c)
    refine v_aload_n (q := 13) dX2_countPaidBack_12 rfl rfl ?_
    refine v_iload_n (q := 14) dX2_countPaidBack_13 rfl rfl ?_
    refine v_callV (As := [.int v2]) (n := 1) (q := 17) dX2_countPaidBack_14 rfl lk_2_89 hd1 rfl rfl (Nat.le_of_ble_eq_true rfl) (CT.imp h (fun r s4 h => ?_))
    obtain ⟨x3, rfl, h⟩ := h
    show VV mX2_countPaidBack d s00 17 [some (.ref 1), some (.int v1), some (.int v2)] [.int x3] s4 (Qi K)
    refine v_if_eq (t := 23) (q := 20) dX2_countPaidBack_17 rfl (by decide) (fun c => ?_) (fun c => ?_)
    · have h := h.1 (c)
      refine v_iinc (y := (v2 + nI 1)) (q := 26) dX2_countPaidBack_23 rfl rfl (congrArg (fun z => v2 + z) (by decide)) (by decide) rfl ?_
      refine v_goto (q := 4) dX2_countPaidBack_26 (by decide) ?_
      exact h
    · have h := h.2 (c)
      refine v_iinc (y := (v1 + nI 1)) (q := 23) dX2_countPaidBack_20 rfl rfl (congrArg (fun z => v1 + z) (by decide)) (by decide) rfl ?_
      refine v_iinc (y := (v2 + nI 1)) (q := 26) dX2_countPaidBack_23 rfl rfl (congrArg (fun z => v2 + z) (by decide)) (by decide) rfl ?_
      refine v_goto (q := 4) dX2_countPaidBack_26 (by decide) ?_
      exact h
set_option maxRecDepth 20000 in
theorem bX2_countConflicts_0 {d : Nat} {σ : SS} {K : Int32 → SS → Prop}    (h : VV mX2_countConflicts d s00 4 [some (.ref 1), some (.int (nI 0)), some (.int (nI 0))] [] σ (Qi K)) : VV mX2_countConflicts d s00 0 [some (.ref 1), none, none] [] σ (Qi K) := by
  refine v_iconst (v := (nI 0)) (q := 1) dX2_countConflicts_0 rfl (by decide) ?_
  refine v_istore_n (q := 2) dX2_countConflicts_1 rfl (by decide) rfl ?_
  refine v_iconst (v := (nI 0)) (q := 3) dX2_countConflicts_2 rfl (by decide) ?_
  refine v_istore_n (q := 4) dX2_countConflicts_3 rfl (by decide) rfl ?_
  exact h
theorem eX2_countConflicts {d : Nat} {σ : SS} {K : Int32 → SS → Prop}    (h : VV mX2_countConflicts d s00 4 [some (.ref 1), some (.int (nI 0)), some (.int (nI 0))] [] σ (Qi K)) : CTi mX2_countConflicts d [.ref 1] σ K := CT_of (Q := (Qi K)) (by decide +kernel) rfl (by decide) (Nat.le_of_ble_eq_true rfl) rfl (bX2_countConflicts_0   h)
set_option maxRecDepth 20000 in
theorem bX2_countConflicts_4 {d : Nat} {σ : SS} {K : Int32 → SS → Prop} (v1 : Int32) (v2 : Int32)  (hd1 : 1 ≤ d) (h : CTi mX2_phrases (d - 1) [.ref 1] σ (fun x1 s2 => ((x1 ≤ v2) → (K (v1 / (nI 2)) s2)) ∧ ((¬ x1 ≤ v2) → (CTi mX2_conflictsOf (d - 1) [.ref 1, .int v2] s2 (fun x3 s4 => VV mX2_countConflicts d s00 4 [some (.ref 1), some (.int (v1 + x3)), some (.int (v2 + nI 1))] [] s4 (Qi K)))))) : VV mX2_countConflicts d s00 4 [some (.ref 1), some (.int v1), some (.int v2)] [] σ (Qi K) := by
  refine v_iload_n (q := 5) dX2_countConflicts_4 rfl rfl ?_
  refine v_aload_n (q := 6) dX2_countConflicts_5 rfl rfl ?_
  refine v_callV (As := []) (n := 0) (q := 9) dX2_countConflicts_6 rfl lk_2_57 hd1 rfl rfl (Nat.le_of_ble_eq_true rfl) (CT.imp h (fun r s2 h => ?_))
  obtain ⟨x1, rfl, h⟩ := h
  show VV mX2_countConflicts d s00 9 [some (.ref 1), some (.int v1), some (.int v2)] [.int x1, .int v2] s2 (Qi K)
  refine v_icmp_ge (t := 26) (q := 12) dX2_countConflicts_9 rfl (by decide) (fun c => ?_) (fun c => ?_)
  · have h := h.1 (c)
    refine v_iload_n (q := 27) dX2_countConflicts_26 rfl rfl ?_
    refine v_iconst (v := (nI 2)) (q := 28) dX2_countConflicts_27 rfl (by decide) ?_
    refine v_idiv (q := 29) dX2_countConflicts_28 rfl (by decide) ?_
    exact v_iret dX2_countConflicts_29 rfl ⟨_, rfl, h⟩
  · have h := h.2 (c)
    refine v_iload_n (q := 13) dX2_countConflicts_12 rfl rfl ?_
    refine v_aload_n (q := 14) dX2_countConflicts_13 rfl rfl ?_
    refine v_iload_n (q := 15) dX2_countConflicts_14 rfl rfl ?_
    refine v_callV (As := [.int v2]) (n := 1) (q := 18) dX2_countConflicts_15 rfl lk_2_107 hd1 rfl rfl (Nat.le_of_ble_eq_true rfl) (CT.imp h (fun r s4 h => ?_))
    obtain ⟨x3, rfl, h⟩ := h
    show VV mX2_countConflicts d s00 18 [some (.ref 1), some (.int v1), some (.int v2)] [.int x3, .int v1] s4 (Qi K)
    refine v_iadd (q := 19) dX2_countConflicts_18 rfl ?_
    refine v_istore_n (q := 20) dX2_countConflicts_19 rfl (by decide) rfl ?_
    refine v_iinc (y := (v2 + nI 1)) (q := 23) dX2_countConflicts_20 rfl rfl (congrArg (fun z => v2 + z) (by decide)) (by decide) rfl ?_
    refine v_goto (q := 4) dX2_countConflicts_23 (by decide) ?_
    exact h
set_option maxRecDepth 20000 in
theorem bX2_startPhrase_0 {d : Nat} {σ : SS} {K : Int32 → SS → Prop} (p1 : Int32) (p2 : Int32) (p3 : Int32) {se w f : Nat} (hse : Sen se w f) (hd1 : 1 ≤ d) (h : (vp_in (nI 1) 654) ∧ ((vp_in (nI 1) 654) ∧ (CTi mX2_phraseCell (d - 1) [.int (σ.1 12 (nI 1).toNatClampNeg), .int (nI 0)] (sA σ 12 (nI 1).toNatClampNeg (σ.1 12 (nI 1).toNatClampNeg + (nI 1))) (fun x1 s2 => (vp_in x1 654) ∧ (CTi mX2_phraseCell (d - 1) [.int (σ.1 12 (nI 1).toNatClampNeg), .int (nI 1)] (sA s2 12 x1.toNatClampNeg p1) (fun x3 s4 => (vp_in x3 654) ∧ (CTi mX2_phraseCell (d - 1) [.int (σ.1 12 (nI 1).toNatClampNeg), .int (nI 2)] (sA s4 12 x3.toNatClampNeg (s4.2.1 f)) (fun x5 s6 => (vp_in x5 654) ∧ (CTi mX2_phraseCell (d - 1) [.int (σ.1 12 (nI 1).toNatClampNeg), .int (nI 3)] (sA s6 12 x5.toNatClampNeg p2) (fun x7 s8 => (vp_in x7 654) ∧ (CTi mX2_phraseCell (d - 1) [.int (σ.1 12 (nI 1).toNatClampNeg), .int (nI 4)] (sA s8 12 x7.toNatClampNeg p3) (fun x9 s10 => (vp_in x9 654) ∧ (CTi mX2_phraseCell (d - 1) [.int (σ.1 12 (nI 1).toNatClampNeg), .int (nI 5)] (sA s10 12 x9.toNatClampNeg (nI 1)) (fun x11 s12 => (vp_in x11 654) ∧ (VV mX2_startPhrase d s00 86 [some (.ref 1), some (.int p1), some (.int p2), some (.int p3), some (.ref se), some (.int (σ.1 12 (nI 1).toNatClampNeg)), some (.int (nI 0))] [] (sA s12 12 x11.toNatClampNeg (nI 0)) (Qi K)))))))))))))))) : VV mX2_startPhrase d s00 0 [some (.ref 1), some (.int p1), some (.int p2), some (.int p3), some (.ref se), none, none] [] σ (Qi K) := by
  refine v_aload_n (q := 1) dX2_startPhrase_0 rfl rfl ?_
  refine v_iconst (v := (nI 1)) (q := 2) dX2_startPhrase_1 rfl (by decide) ?_
  refine v_at (q := 5) dX2_startPhrase_2 rfl lk_2_45 (Nat.le_of_ble_eq_true rfl) h.1 ?_
  have h := h.2
  refine v_istore (q := 7) dX2_startPhrase_5 rfl (by decide) rfl ?_
  refine v_aload_n (q := 8) dX2_startPhrase_7 rfl rfl ?_
  refine v_iconst (v := (nI 1)) (q := 9) dX2_startPhrase_8 rfl (by decide) ?_
  refine v_iconst (v := (nI 1)) (q := 10) dX2_startPhrase_9 rfl (by decide) ?_
  refine v_incc (q := 13) dX2_startPhrase_10 rfl lk_2_63 (Nat.le_of_ble_eq_true rfl) h.1 ?_
  have h := h.2
  refine v_aload_n (q := 14) dX2_startPhrase_13 rfl rfl ?_
  refine v_iload (q := 16) dX2_startPhrase_14 rfl rfl ?_
  refine v_iconst (v := (nI 0)) (q := 17) dX2_startPhrase_16 rfl (by decide) ?_
  refine v_callS (As := [.int (σ.1 12 (nI 1).toNatClampNeg), .int (nI 0)]) (n := 2) (q := 20) dX2_startPhrase_17 rfl lk_2_110 hd1 rfl (Nat.le_of_ble_eq_true rfl) (CT.imp h (fun r s2 h => ?_))
  obtain ⟨x1, rfl, h⟩ := h
  show VV mX2_startPhrase d s00 20 [some (.ref 1), some (.int p1), some (.int p2), some (.int p3), some (.ref se), some (.int (σ.1 12 (nI 1).toNatClampNeg)), none] [.int x1, .ref 1] s2 (Qi K)
  refine v_iload_n (q := 21) dX2_startPhrase_20 rfl rfl ?_
  refine v_putc (q := 24) dX2_startPhrase_21 rfl lk_2_49 (Nat.le_of_ble_eq_true rfl) h.1 ?_
  have h := h.2
  refine v_aload_n (q := 25) dX2_startPhrase_24 rfl rfl ?_
  refine v_iload (q := 27) dX2_startPhrase_25 rfl rfl ?_
  refine v_iconst (v := (nI 1)) (q := 28) dX2_startPhrase_27 rfl (by decide) ?_
  refine v_callS (As := [.int (σ.1 12 (nI 1).toNatClampNeg), .int (nI 1)]) (n := 2) (q := 31) dX2_startPhrase_28 rfl lk_2_110 hd1 rfl (Nat.le_of_ble_eq_true rfl) (CT.imp h (fun r s4 h => ?_))
  obtain ⟨x3, rfl, h⟩ := h
  show VV mX2_startPhrase d s00 31 [some (.ref 1), some (.int p1), some (.int p2), some (.int p3), some (.ref se), some (.int (σ.1 12 (nI 1).toNatClampNeg)), none] [.int x3, .ref 1] s4 (Qi K)
  refine v_aload (q := 33) dX2_startPhrase_31 rfl rfl ?_
  refine v_get (q := 36) dX2_startPhrase_33 rfl fl_2_113 (hse.1 _) rfl ?_
  refine v_putc (q := 39) dX2_startPhrase_36 rfl lk_2_49 (Nat.le_of_ble_eq_true rfl) h.1 ?_
  have h := h.2
  refine v_aload_n (q := 40) dX2_startPhrase_39 rfl rfl ?_
  refine v_iload (q := 42) dX2_startPhrase_40 rfl rfl ?_
  refine v_iconst (v := (nI 2)) (q := 43) dX2_startPhrase_42 rfl (by decide) ?_
  refine v_callS (As := [.int (σ.1 12 (nI 1).toNatClampNeg), .int (nI 2)]) (n := 2) (q := 46) dX2_startPhrase_43 rfl lk_2_110 hd1 rfl (Nat.le_of_ble_eq_true rfl) (CT.imp h (fun r s6 h => ?_))
  obtain ⟨x5, rfl, h⟩ := h
  show VV mX2_startPhrase d s00 46 [some (.ref 1), some (.int p1), some (.int p2), some (.int p3), some (.ref se), some (.int (σ.1 12 (nI 1).toNatClampNeg)), none] [.int x5, .ref 1] s6 (Qi K)
  refine v_iload_n (q := 47) dX2_startPhrase_46 rfl rfl ?_
  refine v_putc (q := 50) dX2_startPhrase_47 rfl lk_2_49 (Nat.le_of_ble_eq_true rfl) h.1 ?_
  have h := h.2
  refine v_aload_n (q := 51) dX2_startPhrase_50 rfl rfl ?_
  refine v_iload (q := 53) dX2_startPhrase_51 rfl rfl ?_
  refine v_iconst (v := (nI 3)) (q := 54) dX2_startPhrase_53 rfl (by decide) ?_
  refine v_callS (As := [.int (σ.1 12 (nI 1).toNatClampNeg), .int (nI 3)]) (n := 2) (q := 57) dX2_startPhrase_54 rfl lk_2_110 hd1 rfl (Nat.le_of_ble_eq_true rfl) (CT.imp h (fun r s8 h => ?_))
  obtain ⟨x7, rfl, h⟩ := h
  show VV mX2_startPhrase d s00 57 [some (.ref 1), some (.int p1), some (.int p2), some (.int p3), some (.ref se), some (.int (σ.1 12 (nI 1).toNatClampNeg)), none] [.int x7, .ref 1] s8 (Qi K)
  refine v_iload_n (q := 58) dX2_startPhrase_57 rfl rfl ?_
  refine v_putc (q := 61) dX2_startPhrase_58 rfl lk_2_49 (Nat.le_of_ble_eq_true rfl) h.1 ?_
  have h := h.2
  refine v_aload_n (q := 62) dX2_startPhrase_61 rfl rfl ?_
  refine v_iload (q := 64) dX2_startPhrase_62 rfl rfl ?_
  refine v_iconst (v := (nI 4)) (q := 65) dX2_startPhrase_64 rfl (by decide) ?_
  refine v_callS (As := [.int (σ.1 12 (nI 1).toNatClampNeg), .int (nI 4)]) (n := 2) (q := 68) dX2_startPhrase_65 rfl lk_2_110 hd1 rfl (Nat.le_of_ble_eq_true rfl) (CT.imp h (fun r s10 h => ?_))
  obtain ⟨x9, rfl, h⟩ := h
  show VV mX2_startPhrase d s00 68 [some (.ref 1), some (.int p1), some (.int p2), some (.int p3), some (.ref se), some (.int (σ.1 12 (nI 1).toNatClampNeg)), none] [.int x9, .ref 1] s10 (Qi K)
  refine v_iconst (v := (nI 1)) (q := 69) dX2_startPhrase_68 rfl (by decide) ?_
  refine v_putc (q := 72) dX2_startPhrase_69 rfl lk_2_49 (Nat.le_of_ble_eq_true rfl) h.1 ?_
  have h := h.2
  refine v_aload_n (q := 73) dX2_startPhrase_72 rfl rfl ?_
  refine v_iload (q := 75) dX2_startPhrase_73 rfl rfl ?_
  refine v_iconst (v := (nI 5)) (q := 76) dX2_startPhrase_75 rfl (by decide) ?_
  refine v_callS (As := [.int (σ.1 12 (nI 1).toNatClampNeg), .int (nI 5)]) (n := 2) (q := 79) dX2_startPhrase_76 rfl lk_2_110 hd1 rfl (Nat.le_of_ble_eq_true rfl) (CT.imp h (fun r s12 h => ?_))
  obtain ⟨x11, rfl, h⟩ := h
  show VV mX2_startPhrase d s00 79 [some (.ref 1), some (.int p1), some (.int p2), some (.int p3), some (.ref se), some (.int (σ.1 12 (nI 1).toNatClampNeg)), none] [.int x11, .ref 1] s12 (Qi K)
  refine v_iconst (v := (nI 0)) (q := 80) dX2_startPhrase_79 rfl (by decide) ?_
  refine v_putc (q := 83) dX2_startPhrase_80 rfl lk_2_49 (Nat.le_of_ble_eq_true rfl) h.1 ?_
  have h := h.2
  refine v_iconst (v := (nI 0)) (q := 84) dX2_startPhrase_83 rfl (by decide) ?_
  refine v_istore (q := 86) dX2_startPhrase_84 rfl (by decide) rfl ?_
  exact h
theorem eX2_startPhrase {d : Nat} {σ : SS} {K : Int32 → SS → Prop} (p1 : Int32) (p2 : Int32) (p3 : Int32) {se w f : Nat} (hse : Sen se w f) (hd1 : 1 ≤ d) (h : (vp_in (nI 1) 654) ∧ ((vp_in (nI 1) 654) ∧ (CTi mX2_phraseCell (d - 1) [.int (σ.1 12 (nI 1).toNatClampNeg), .int (nI 0)] (sA σ 12 (nI 1).toNatClampNeg (σ.1 12 (nI 1).toNatClampNeg + (nI 1))) (fun x1 s2 => (vp_in x1 654) ∧ (CTi mX2_phraseCell (d - 1) [.int (σ.1 12 (nI 1).toNatClampNeg), .int (nI 1)] (sA s2 12 x1.toNatClampNeg p1) (fun x3 s4 => (vp_in x3 654) ∧ (CTi mX2_phraseCell (d - 1) [.int (σ.1 12 (nI 1).toNatClampNeg), .int (nI 2)] (sA s4 12 x3.toNatClampNeg (s4.2.1 f)) (fun x5 s6 => (vp_in x5 654) ∧ (CTi mX2_phraseCell (d - 1) [.int (σ.1 12 (nI 1).toNatClampNeg), .int (nI 3)] (sA s6 12 x5.toNatClampNeg p2) (fun x7 s8 => (vp_in x7 654) ∧ (CTi mX2_phraseCell (d - 1) [.int (σ.1 12 (nI 1).toNatClampNeg), .int (nI 4)] (sA s8 12 x7.toNatClampNeg p3) (fun x9 s10 => (vp_in x9 654) ∧ (CTi mX2_phraseCell (d - 1) [.int (σ.1 12 (nI 1).toNatClampNeg), .int (nI 5)] (sA s10 12 x9.toNatClampNeg (nI 1)) (fun x11 s12 => (vp_in x11 654) ∧ (VV mX2_startPhrase d s00 86 [some (.ref 1), some (.int p1), some (.int p2), some (.int p3), some (.ref se), some (.int (σ.1 12 (nI 1).toNatClampNeg)), some (.int (nI 0))] [] (sA s12 12 x11.toNatClampNeg (nI 0)) (Qi K)))))))))))))))) : CTi mX2_startPhrase d [.ref 1, .int p1, .int p2, .int p3, .ref se] σ K := CT_of (Q := (Qi K)) (by decide +kernel) rfl (by decide) (Nat.le_of_ble_eq_true rfl) rfl (bX2_startPhrase_0 p1 p2 p3 hse hd1 h)
set_option maxRecDepth 20000 in
theorem bX2_startPhrase_86 {d : Nat} {σ : SS} {K : Int32 → SS → Prop} {se w f : Nat} (v1 : Int32) (v2 : Int32) (v3 : Int32) (v5 : Int32) (v6 : Int32) (hse : Sen se w f) (hd1 : 1 ≤ d) (h : (((σ.2.1 f) ≤ v6) → (K v5 σ)) ∧ ((¬ (σ.2.1 f) ≤ v6) → (CTi mX2_phraseCell (d - 1) [.int v5, .int ((nI 6) + v6)] σ (fun x1 s2 => (vp_in v6 10) ∧ (¬ (s2.2.1 f) ≤ v6) ∧ ((vp_in x1 654) ∧ (VV mX2_startPhrase d s00 86 [some (.ref 1), some (.int v1), some (.int v2), some (.int v3), some (.ref se), some (.int v5), some (.int (v6 + nI 1))] [] (sA s2 12 x1.toNatClampNeg (s2.1 w v6.toNatClampNeg)) (Qi K))))))) : VV mX2_startPhrase d s00 86 [some (.ref 1), some (.int v1), some (.int v2), some (.int v3), some (.ref se), some (.int v5), some (.int v6)] [] σ (Qi K) := by
  refine v_iload (q := 88) dX2_startPhrase_86 rfl rfl ?_
  refine v_aload (q := 90) dX2_startPhrase_88 rfl rfl ?_
  refine v_get (q := 93) dX2_startPhrase_90 rfl fl_2_113 (hse.1 _) rfl ?_
  refine v_icmp_ge (t := 123) (q := 96) dX2_startPhrase_93 rfl (by decide) (fun c => ?_) (fun c => ?_)
  · have h := h.1 (c)
    refine v_iload (q := 125) dX2_startPhrase_123 rfl rfl ?_
    exact v_iret dX2_startPhrase_125 rfl ⟨_, rfl, h⟩
  · have h := h.2 (c)
    refine v_aload_n (q := 97) dX2_startPhrase_96 rfl rfl ?_
    refine v_iload (q := 99) dX2_startPhrase_97 rfl rfl ?_
    refine v_bipush (v := (nI 6)) (q := 101) dX2_startPhrase_99 rfl (by decide) ?_
    refine v_iload (q := 103) dX2_startPhrase_101 rfl rfl ?_
    refine v_iadd (q := 104) dX2_startPhrase_103 rfl ?_
    refine v_callS (As := [.int v5, .int ((nI 6) + v6)]) (n := 2) (q := 107) dX2_startPhrase_104 rfl lk_2_110 hd1 rfl (Nat.le_of_ble_eq_true rfl) (CT.imp h (fun r s2 h => ?_))
    obtain ⟨x1, rfl, h⟩ := h
    show VV mX2_startPhrase d s00 107 [some (.ref 1), some (.int v1), some (.int v2), some (.int v3), some (.ref se), some (.int v5), some (.int v6)] [.int x1, .ref 1] s2 (Qi K)
    refine v_aload (q := 109) dX2_startPhrase_107 rfl rfl ?_
    refine v_iload (q := 111) dX2_startPhrase_109 rfl rfl ?_
    refine v_wordAt (q := 114) dX2_startPhrase_111 rfl lk_2_117 hse (Nat.le_of_ble_eq_true rfl) h.1 h.2.1 ?_
    have h := h.2.2
    refine v_putc (q := 117) dX2_startPhrase_114 rfl lk_2_49 (Nat.le_of_ble_eq_true rfl) h.1 ?_
    have h := h.2
    refine v_iinc (y := (v6 + nI 1)) (q := 120) dX2_startPhrase_117 rfl rfl (congrArg (fun z => v6 + z) (by decide)) (by decide) rfl ?_
    refine v_goto (q := 86) dX2_startPhrase_120 (by decide) ?_
    exact h
set_option maxRecDepth 20000 in
theorem bX2_phraseProperty_0 {d : Nat} {σ : SS} {K : Int32 → SS → Prop} (p1 : Int32) (p2 : Int32)  (hd1 : 1 ≤ d) (h : ((¬ p2 = (nI 6)) → (CTi mX2_phraseCell (d - 1) [.int p1, .int p2] σ (fun x1 s2 => (vp_in x1 654) ∧ (K (s2.1 12 x1.toNatClampNeg) s2)))) ∧ ((p2 = (nI 6)) → (CTi mX2_conflictsOf (d - 1) [.ref 1, .int p1] σ (fun x3 s4 => K x3 s4)))) : VV mX2_phraseProperty d s00 0 [some (.ref 1), some (.int p1), some (.int p2)] [] σ (Qi K) := by
  refine v_iload_n (q := 1) dX2_phraseProperty_0 rfl rfl ?_
  refine v_bipush (v := (nI 6)) (q := 3) dX2_phraseProperty_1 rfl (by decide) ?_
  refine v_icmp_ne (t := 14) (q := 6) dX2_phraseProperty_3 rfl (by decide) (fun c => ?_) (fun c => ?_)
  · have h := h.1 (c)
    refine v_aload_n (q := 15) dX2_phraseProperty_14 rfl rfl ?_
    refine v_iload_n (q := 16) dX2_phraseProperty_15 rfl rfl ?_
    refine v_iload_n (q := 17) dX2_phraseProperty_16 rfl rfl ?_
    refine v_callS (As := [.int p1, .int p2]) (n := 2) (q := 20) dX2_phraseProperty_17 rfl lk_2_110 hd1 rfl (Nat.le_of_ble_eq_true rfl) (CT.imp h (fun r s2 h => ?_))
    obtain ⟨x1, rfl, h⟩ := h
    show VV mX2_phraseProperty d s00 20 [some (.ref 1), some (.int p1), some (.int p2)] [.int x1, .ref 1] s2 (Qi K)
    refine v_at (q := 23) dX2_phraseProperty_20 rfl lk_2_45 (Nat.le_of_ble_eq_true rfl) h.1 ?_
    have h := h.2
    exact v_iret dX2_phraseProperty_23 rfl ⟨_, rfl, h⟩
  · have h := h.2 (c)
    refine v_aload_n (q := 7) dX2_phraseProperty_6 rfl rfl ?_
    refine v_iload_n (q := 8) dX2_phraseProperty_7 rfl rfl ?_
    refine v_callV (As := [.int p1]) (n := 1) (q := 11) dX2_phraseProperty_8 rfl lk_2_107 hd1 rfl rfl (Nat.le_of_ble_eq_true rfl) (CT.imp h (fun r s4 h => ?_))
    obtain ⟨x3, rfl, h⟩ := h
    show VV mX2_phraseProperty d s00 11 [some (.ref 1), some (.int p1), some (.int p2)] [.int x3] s4 (Qi K)
    refine v_goto (q := 23) dX2_phraseProperty_11 (by decide) ?_
    exact v_iret dX2_phraseProperty_23 rfl ⟨_, rfl, h⟩
theorem eX2_phraseProperty {d : Nat} {σ : SS} {K : Int32 → SS → Prop} (p1 : Int32) (p2 : Int32)  (hd1 : 1 ≤ d) (h : ((¬ p2 = (nI 6)) → (CTi mX2_phraseCell (d - 1) [.int p1, .int p2] σ (fun x1 s2 => (vp_in x1 654) ∧ (K (s2.1 12 x1.toNatClampNeg) s2)))) ∧ ((p2 = (nI 6)) → (CTi mX2_conflictsOf (d - 1) [.ref 1, .int p1] σ (fun x3 s4 => K x3 s4)))) : CTi mX2_phraseProperty d [.ref 1, .int p1, .int p2] σ K := CT_of (Q := (Qi K)) (by decide +kernel) rfl (by decide) (Nat.le_of_ble_eq_true rfl) rfl (bX2_phraseProperty_0 p1 p2 hd1 h)
set_option maxRecDepth 20000 in
theorem bX2_ownerOf_0 {d : Nat} {σ : SS} {K : Int32 → SS → Prop} (p1 : Int32)  (hd1 : 1 ≤ d) (h : CTi mX2_phraseCell (d - 1) [.int p1, .int (nI 0)] σ (fun x1 s2 => (vp_in x1 654) ∧ (K (s2.1 12 x1.toNatClampNeg) s2))) : VV mX2_ownerOf d s00 0 [some (.ref 1), some (.int p1)] [] σ (Qi K) := by
  refine v_aload_n (q := 1) dX2_ownerOf_0 rfl rfl ?_
  refine v_iload_n (q := 2) dX2_ownerOf_1 rfl rfl ?_
  refine v_iconst (v := (nI 0)) (q := 3) dX2_ownerOf_2 rfl (by decide) ?_
  refine v_callS (As := [.int p1, .int (nI 0)]) (n := 2) (q := 6) dX2_ownerOf_3 rfl lk_2_110 hd1 rfl (Nat.le_of_ble_eq_true rfl) (CT.imp h (fun r s2 h => ?_))
  obtain ⟨x1, rfl, h⟩ := h
  show VV mX2_ownerOf d s00 6 [some (.ref 1), some (.int p1)] [.int x1, .ref 1] s2 (Qi K)
  refine v_at (q := 9) dX2_ownerOf_6 rfl lk_2_45 (Nat.le_of_ble_eq_true rfl) h.1 ?_
  have h := h.2
  exact v_iret dX2_ownerOf_9 rfl ⟨_, rfl, h⟩
theorem eX2_ownerOf {d : Nat} {σ : SS} {K : Int32 → SS → Prop} (p1 : Int32)  (hd1 : 1 ≤ d) (h : CTi mX2_phraseCell (d - 1) [.int p1, .int (nI 0)] σ (fun x1 s2 => (vp_in x1 654) ∧ (K (s2.1 12 x1.toNatClampNeg) s2))) : CTi mX2_ownerOf d [.ref 1, .int p1] σ K := CT_of (Q := (Qi K)) (by decide +kernel) rfl (by decide) (Nat.le_of_ble_eq_true rfl) rfl (bX2_ownerOf_0 p1 hd1 h)
set_option maxRecDepth 20000 in
theorem bX2_lengthOf_0 {d : Nat} {σ : SS} {K : Int32 → SS → Prop} (p1 : Int32)  (hd1 : 1 ≤ d) (h : CTi mX2_phraseCell (d - 1) [.int p1, .int (nI 1)] σ (fun x1 s2 => (vp_in x1 654) ∧ (K (s2.1 12 x1.toNatClampNeg) s2))) : VV mX2_lengthOf d s00 0 [some (.ref 1), some (.int p1)] [] σ (Qi K) := by
  refine v_aload_n (q := 1) dX2_lengthOf_0 rfl rfl ?_
  refine v_iload_n (q := 2) dX2_lengthOf_1 rfl rfl ?_
  refine v_iconst (v := (nI 1)) (q := 3) dX2_lengthOf_2 rfl (by decide) ?_
  refine v_callS (As := [.int p1, .int (nI 1)]) (n := 2) (q := 6) dX2_lengthOf_3 rfl lk_2_110 hd1 rfl (Nat.le_of_ble_eq_true rfl) (CT.imp h (fun r s2 h => ?_))
  obtain ⟨x1, rfl, h⟩ := h
  show VV mX2_lengthOf d s00 6 [some (.ref 1), some (.int p1)] [.int x1, .ref 1] s2 (Qi K)
  refine v_at (q := 9) dX2_lengthOf_6 rfl lk_2_45 (Nat.le_of_ble_eq_true rfl) h.1 ?_
  have h := h.2
  exact v_iret dX2_lengthOf_9 rfl ⟨_, rfl, h⟩
theorem eX2_lengthOf {d : Nat} {σ : SS} {K : Int32 → SS → Prop} (p1 : Int32)  (hd1 : 1 ≤ d) (h : CTi mX2_phraseCell (d - 1) [.int p1, .int (nI 1)] σ (fun x1 s2 => (vp_in x1 654) ∧ (K (s2.1 12 x1.toNatClampNeg) s2))) : CTi mX2_lengthOf d [.ref 1, .int p1] σ K := CT_of (Q := (Qi K)) (by decide +kernel) rfl (by decide) (Nat.le_of_ble_eq_true rfl) rfl (bX2_lengthOf_0 p1 hd1 h)
set_option maxRecDepth 20000 in
theorem bX2_targetOf_0 {d : Nat} {σ : SS} {K : Int32 → SS → Prop} (p1 : Int32)  (hd1 : 1 ≤ d) (h : CTi mX2_phraseCell (d - 1) [.int p1, .int (nI 2)] σ (fun x1 s2 => (vp_in x1 654) ∧ (K (s2.1 12 x1.toNatClampNeg) s2))) : VV mX2_targetOf d s00 0 [some (.ref 1), some (.int p1)] [] σ (Qi K) := by
  refine v_aload_n (q := 1) dX2_targetOf_0 rfl rfl ?_
  refine v_iload_n (q := 2) dX2_targetOf_1 rfl rfl ?_
  refine v_iconst (v := (nI 2)) (q := 3) dX2_targetOf_2 rfl (by decide) ?_
  refine v_callS (As := [.int p1, .int (nI 2)]) (n := 2) (q := 6) dX2_targetOf_3 rfl lk_2_110 hd1 rfl (Nat.le_of_ble_eq_true rfl) (CT.imp h (fun r s2 h => ?_))
  obtain ⟨x1, rfl, h⟩ := h
  show VV mX2_targetOf d s00 6 [some (.ref 1), some (.int p1)] [.int x1, .ref 1] s2 (Qi K)
  refine v_at (q := 9) dX2_targetOf_6 rfl lk_2_45 (Nat.le_of_ble_eq_true rfl) h.1 ?_
  have h := h.2
  exact v_iret dX2_targetOf_9 rfl ⟨_, rfl, h⟩
theorem eX2_targetOf {d : Nat} {σ : SS} {K : Int32 → SS → Prop} (p1 : Int32)  (hd1 : 1 ≤ d) (h : CTi mX2_phraseCell (d - 1) [.int p1, .int (nI 2)] σ (fun x1 s2 => (vp_in x1 654) ∧ (K (s2.1 12 x1.toNatClampNeg) s2))) : CTi mX2_targetOf d [.ref 1, .int p1] σ K := CT_of (Q := (Qi K)) (by decide +kernel) rfl (by decide) (Nat.le_of_ble_eq_true rfl) rfl (bX2_targetOf_0 p1 hd1 h)
set_option maxRecDepth 20000 in
theorem bX2_parentOf_0 {d : Nat} {σ : SS} {K : Int32 → SS → Prop} (p1 : Int32)  (hd1 : 1 ≤ d) (h : CTi mX2_phraseCell (d - 1) [.int p1, .int (nI 3)] σ (fun x1 s2 => (vp_in x1 654) ∧ (K (s2.1 12 x1.toNatClampNeg) s2))) : VV mX2_parentOf d s00 0 [some (.ref 1), some (.int p1)] [] σ (Qi K) := by
  refine v_aload_n (q := 1) dX2_parentOf_0 rfl rfl ?_
  refine v_iload_n (q := 2) dX2_parentOf_1 rfl rfl ?_
  refine v_iconst (v := (nI 3)) (q := 3) dX2_parentOf_2 rfl (by decide) ?_
  refine v_callS (As := [.int p1, .int (nI 3)]) (n := 2) (q := 6) dX2_parentOf_3 rfl lk_2_110 hd1 rfl (Nat.le_of_ble_eq_true rfl) (CT.imp h (fun r s2 h => ?_))
  obtain ⟨x1, rfl, h⟩ := h
  show VV mX2_parentOf d s00 6 [some (.ref 1), some (.int p1)] [.int x1, .ref 1] s2 (Qi K)
  refine v_at (q := 9) dX2_parentOf_6 rfl lk_2_45 (Nat.le_of_ble_eq_true rfl) h.1 ?_
  have h := h.2
  exact v_iret dX2_parentOf_9 rfl ⟨_, rfl, h⟩
theorem eX2_parentOf {d : Nat} {σ : SS} {K : Int32 → SS → Prop} (p1 : Int32)  (hd1 : 1 ≤ d) (h : CTi mX2_phraseCell (d - 1) [.int p1, .int (nI 3)] σ (fun x1 s2 => (vp_in x1 654) ∧ (K (s2.1 12 x1.toNatClampNeg) s2))) : CTi mX2_parentOf d [.ref 1, .int p1] σ K := CT_of (Q := (Qi K)) (by decide +kernel) rfl (by decide) (Nat.le_of_ble_eq_true rfl) rfl (bX2_parentOf_0 p1 hd1 h)
set_option maxRecDepth 20000 in
theorem bX2_isLive_0 {d : Nat} {σ : SS} {K : Int32 → SS → Prop} (p1 : Int32)  (hd1 : 1 ≤ d) (h : CTi mX2_phraseCell (d - 1) [.int p1, .int (nI 4)] σ (fun x1 s2 => (vp_in x1 654) ∧ (((¬ (s2.1 12 x1.toNatClampNeg) = (nI 1)) → (K (nI 0) s2)) ∧ (((s2.1 12 x1.toNatClampNeg) = (nI 1)) → (K (nI 1) s2))))) : VV mX2_isLive d s00 0 [some (.ref 1), some (.int p1)] [] σ (Qi K) := by
  refine v_aload_n (q := 1) dX2_isLive_0 rfl rfl ?_
  refine v_iload_n (q := 2) dX2_isLive_1 rfl rfl ?_
  refine v_iconst (v := (nI 4)) (q := 3) dX2_isLive_2 rfl (by decide) ?_
  refine v_callS (As := [.int p1, .int (nI 4)]) (n := 2) (q := 6) dX2_isLive_3 rfl lk_2_110 hd1 rfl (Nat.le_of_ble_eq_true rfl) (CT.imp h (fun r s2 h => ?_))
  obtain ⟨x1, rfl, h⟩ := h
  show VV mX2_isLive d s00 6 [some (.ref 1), some (.int p1)] [.int x1, .ref 1] s2 (Qi K)
  refine v_at (q := 9) dX2_isLive_6 rfl lk_2_45 (Nat.le_of_ble_eq_true rfl) h.1 ?_
  have h := h.2
  refine v_iconst (v := (nI 1)) (q := 10) dX2_isLive_9 rfl (by decide) ?_
  refine v_icmp_ne (t := 17) (q := 13) dX2_isLive_10 rfl (by decide) (fun c => ?_) (fun c => ?_)
  · have h := h.1 (c)
    refine v_iconst (v := (nI 0)) (q := 18) dX2_isLive_17 rfl (by decide) ?_
    exact v_zret dX2_isLive_18 rfl (by decide) ⟨_, rfl, h⟩
  · have h := h.2 (c)
    refine v_iconst (v := (nI 1)) (q := 14) dX2_isLive_13 rfl (by decide) ?_
    refine v_goto (q := 18) dX2_isLive_14 (by decide) ?_
    exact v_zret dX2_isLive_18 rfl (by decide) ⟨_, rfl, h⟩
theorem eX2_isLive {d : Nat} {σ : SS} {K : Int32 → SS → Prop} (p1 : Int32)  (hd1 : 1 ≤ d) (h : CTi mX2_phraseCell (d - 1) [.int p1, .int (nI 4)] σ (fun x1 s2 => (vp_in x1 654) ∧ (((¬ (s2.1 12 x1.toNatClampNeg) = (nI 1)) → (K (nI 0) s2)) ∧ (((s2.1 12 x1.toNatClampNeg) = (nI 1)) → (K (nI 1) s2))))) : CTi mX2_isLive d [.ref 1, .int p1] σ K := CT_of (Q := (Qi K)) (by decide +kernel) rfl (by decide) (Nat.le_of_ble_eq_true rfl) rfl (bX2_isLive_0 p1 hd1 h)
set_option maxRecDepth 20000 in
theorem bX2_usesOf_0 {d : Nat} {σ : SS} {K : Int32 → SS → Prop} (p1 : Int32)  (hd1 : 1 ≤ d) (h : CTi mX2_phraseCell (d - 1) [.int p1, .int (nI 5)] σ (fun x1 s2 => (vp_in x1 654) ∧ (K (s2.1 12 x1.toNatClampNeg) s2))) : VV mX2_usesOf d s00 0 [some (.ref 1), some (.int p1)] [] σ (Qi K) := by
  refine v_aload_n (q := 1) dX2_usesOf_0 rfl rfl ?_
  refine v_iload_n (q := 2) dX2_usesOf_1 rfl rfl ?_
  refine v_iconst (v := (nI 5)) (q := 3) dX2_usesOf_2 rfl (by decide) ?_
  refine v_callS (As := [.int p1, .int (nI 5)]) (n := 2) (q := 6) dX2_usesOf_3 rfl lk_2_110 hd1 rfl (Nat.le_of_ble_eq_true rfl) (CT.imp h (fun r s2 h => ?_))
  obtain ⟨x1, rfl, h⟩ := h
  show VV mX2_usesOf d s00 6 [some (.ref 1), some (.int p1)] [.int x1, .ref 1] s2 (Qi K)
  refine v_at (q := 9) dX2_usesOf_6 rfl lk_2_45 (Nat.le_of_ble_eq_true rfl) h.1 ?_
  have h := h.2
  exact v_iret dX2_usesOf_9 rfl ⟨_, rfl, h⟩
theorem eX2_usesOf {d : Nat} {σ : SS} {K : Int32 → SS → Prop} (p1 : Int32)  (hd1 : 1 ≤ d) (h : CTi mX2_phraseCell (d - 1) [.int p1, .int (nI 5)] σ (fun x1 s2 => (vp_in x1 654) ∧ (K (s2.1 12 x1.toNatClampNeg) s2))) : CTi mX2_usesOf d [.ref 1, .int p1] σ K := CT_of (Q := (Qi K)) (by decide +kernel) rfl (by decide) (Nat.le_of_ble_eq_true rfl) rfl (bX2_usesOf_0 p1 hd1 h)
set_option maxRecDepth 20000 in
theorem bX2_wordOf_0 {d : Nat} {σ : SS} {K : Int32 → SS → Prop} (p1 : Int32) (p2 : Int32)  (hd1 : 1 ≤ d) (h : CTi mX2_phraseCell (d - 1) [.int p1, .int ((nI 6) + p2)] σ (fun x1 s2 => (vp_in x1 654) ∧ (K (s2.1 12 x1.toNatClampNeg) s2))) : VV mX2_wordOf d s00 0 [some (.ref 1), some (.int p1), some (.int p2)] [] σ (Qi K) := by
  refine v_aload_n (q := 1) dX2_wordOf_0 rfl rfl ?_
  refine v_iload_n (q := 2) dX2_wordOf_1 rfl rfl ?_
  refine v_bipush (v := (nI 6)) (q := 4) dX2_wordOf_2 rfl (by decide) ?_
  refine v_iload_n (q := 5) dX2_wordOf_4 rfl rfl ?_
  refine v_iadd (q := 6) dX2_wordOf_5 rfl ?_
  refine v_callS (As := [.int p1, .int ((nI 6) + p2)]) (n := 2) (q := 9) dX2_wordOf_6 rfl lk_2_110 hd1 rfl (Nat.le_of_ble_eq_true rfl) (CT.imp h (fun r s2 h => ?_))
  obtain ⟨x1, rfl, h⟩ := h
  show VV mX2_wordOf d s00 9 [some (.ref 1), some (.int p1), some (.int p2)] [.int x1, .ref 1] s2 (Qi K)
  refine v_at (q := 12) dX2_wordOf_9 rfl lk_2_45 (Nat.le_of_ble_eq_true rfl) h.1 ?_
  have h := h.2
  exact v_iret dX2_wordOf_12 rfl ⟨_, rfl, h⟩
theorem eX2_wordOf {d : Nat} {σ : SS} {K : Int32 → SS → Prop} (p1 : Int32) (p2 : Int32)  (hd1 : 1 ≤ d) (h : CTi mX2_phraseCell (d - 1) [.int p1, .int ((nI 6) + p2)] σ (fun x1 s2 => (vp_in x1 654) ∧ (K (s2.1 12 x1.toNatClampNeg) s2))) : CTi mX2_wordOf d [.ref 1, .int p1, .int p2] σ K := CT_of (Q := (Qi K)) (by decide +kernel) rfl (by decide) (Nat.le_of_ble_eq_true rfl) rfl (bX2_wordOf_0 p1 p2 hd1 h)
set_option maxRecDepth 20000 in
theorem bX2_readInto_0 {d : Nat} {σ : SS} {K : SS → Prop} {se w f : Nat} (p2 : Int32) (hse : Sen se w f) (hd1 : 1 ≤ d) (h : CTv mX1_clear (d - 1) [.ref se] σ (fun s2 => VV mX2_readInto d s00 6 [some (.ref 1), some (.ref se), some (.int p2), some (.int (nI 0))] [] s2 (Qv K))) : VV mX2_readInto d s00 0 [some (.ref 1), some (.ref se), some (.int p2), none] [] σ (Qv K) := by
  refine v_aload_n (q := 1) dX2_readInto_0 rfl rfl ?_
  refine v_callN (As := []) (n := 0) (q := 4) dX2_readInto_1 rfl lk_2_120 hd1 rfl (hse.1 _) (Nat.le_of_ble_eq_true rfl) (CT.imp h (fun r s2 h => ?_))
  obtain ⟨rfl, h⟩ := h
  show VV mX2_readInto d s00 4 [some (.ref 1), some (.ref se), some (.int p2), none] [] s2 (Qv K)
  refine v_iconst (v := (nI 0)) (q := 5) dX2_readInto_4 rfl (by decide) ?_
  refine v_istore_n (q := 6) dX2_readInto_5 rfl (by decide) rfl ?_
  exact h
theorem eX2_readInto {d : Nat} {σ : SS} {K : SS → Prop} {se w f : Nat} (p2 : Int32) (hse : Sen se w f) (hd1 : 1 ≤ d) (h : CTv mX1_clear (d - 1) [.ref se] σ (fun s2 => VV mX2_readInto d s00 6 [some (.ref 1), some (.ref se), some (.int p2), some (.int (nI 0))] [] s2 (Qv K))) : CTv mX2_readInto d [.ref 1, .ref se, .int p2] σ K := CT_of (Q := (Qv K)) (by decide +kernel) rfl (by decide) (Nat.le_of_ble_eq_true rfl) rfl (bX2_readInto_0 p2 hse hd1 h)
set_option maxRecDepth 20000 in
theorem bX2_readInto_6 {d : Nat} {σ : SS} {K : SS → Prop} {se w f : Nat} (v2 : Int32) (v3 : Int32) (hse : Sen se w f) (hd1 : 1 ≤ d) (h : CTi mX2_lengthOf (d - 1) [.ref 1, .int v2] σ (fun x1 s2 => ((x1 ≤ v3) → (K s2)) ∧ ((¬ x1 ≤ v3) → (CTi mX2_wordOf (d - 1) [.ref 1, .int v2, .int v3] s2 (fun x3 s4 => CTv mX1_append (d - 1) [.ref se, .int x3] s4 (fun s6 => VV mX2_readInto d s00 6 [some (.ref 1), some (.ref se), some (.int v2), some (.int (v3 + nI 1))] [] s6 (Qv K))))))) : VV mX2_readInto d s00 6 [some (.ref 1), some (.ref se), some (.int v2), some (.int v3)] [] σ (Qv K) := by
  refine v_iload_n (q := 7) dX2_readInto_6 rfl rfl ?_
  refine v_aload_n (q := 8) dX2_readInto_7 rfl rfl ?_
  refine v_iload_n (q := 9) dX2_readInto_8 rfl rfl ?_
  refine v_callV (As := [.int v2]) (n := 1) (q := 12) dX2_readInto_9 rfl lk_2_123 hd1 rfl rfl (Nat.le_of_ble_eq_true rfl) (CT.imp h (fun r s2 h => ?_))
  obtain ⟨x1, rfl, h⟩ := h
  show VV mX2_readInto d s00 12 [some (.ref 1), some (.ref se), some (.int v2), some (.int v3)] [.int x1, .int v3] s2 (Qv K)
  refine v_icmp_ge (t := 31) (q := 15) dX2_readInto_12 rfl (by decide) (fun c => ?_) (fun c => ?_)
  · have h := h.1 (c)
    exact v_ret0 dX2_readInto_31 rfl ⟨rfl, h⟩
  · have h := h.2 (c)
    refine v_aload_n (q := 16) dX2_readInto_15 rfl rfl ?_
    refine v_aload_n (q := 17) dX2_readInto_16 rfl rfl ?_
    refine v_iload_n (q := 18) dX2_readInto_17 rfl rfl ?_
    refine v_iload_n (q := 19) dX2_readInto_18 rfl rfl ?_
    refine v_callV (As := [.int v2, .int v3]) (n := 2) (q := 22) dX2_readInto_19 rfl lk_2_126 hd1 rfl rfl (Nat.le_of_ble_eq_true rfl) (CT.imp h (fun r s4 h => ?_))
    obtain ⟨x3, rfl, h⟩ := h
    show VV mX2_readInto d s00 22 [some (.ref 1), some (.ref se), some (.int v2), some (.int v3)] [.int x3, .ref se] s4 (Qv K)
    refine v_callN (As := [.int x3]) (n := 1) (q := 25) dX2_readInto_22 rfl lk_2_129 hd1 rfl (hse.1 _) (Nat.le_of_ble_eq_true rfl) (CT.imp h (fun r s6 h => ?_))
    obtain ⟨rfl, h⟩ := h
    show VV mX2_readInto d s00 25 [some (.ref 1), some (.ref se), some (.int v2), some (.int v3)] [] s6 (Qv K)
    refine v_iinc (y := (v3 + nI 1)) (q := 28) dX2_readInto_25 rfl rfl (congrArg (fun z => v3 + z) (by decide)) (by decide) rfl ?_
    refine v_goto (q := 6) dX2_readInto_28 (by decide) ?_
    exact h
set_option maxRecDepth 20000 in
theorem bX2_likenessOf_0 {d : Nat} {σ : SS} {K : Int32 → SS → Prop} (p1 : Int32) (p2 : Int32)  (hd1 : 1 ≤ d) (h : CTv mX2_readInto (d - 1) [.ref 1, .ref 6, .int p1] σ (fun s2 => CTi mX2_likenessTo (d - 1) [.ref 1, .ref 6, .int p2] s2 (fun x3 s4 => K x3 s4))) : VV mX2_likenessOf d s00 0 [some (.ref 1), some (.int p1), some (.int p2)] [] σ (Qi K) := by
  refine v_aload_n (q := 1) dX2_likenessOf_0 rfl rfl ?_
  refine v_aload_n (q := 2) dX2_likenessOf_1 rfl rfl ?_
  refine v_get (q := 5) dX2_likenessOf_2 rfl fl_2_22 rfl rfl ?_
  refine v_iload_n (q := 6) dX2_likenessOf_5 rfl rfl ?_
  refine v_callV (As := [.ref 6, .int p1]) (n := 2) (q := 9) dX2_likenessOf_6 rfl lk_2_133 hd1 rfl rfl (Nat.le_of_ble_eq_true rfl) (CT.imp h (fun r s2 h => ?_))
  obtain ⟨rfl, h⟩ := h
  show VV mX2_likenessOf d s00 9 [some (.ref 1), some (.int p1), some (.int p2)] [] s2 (Qi K)
  refine v_aload_n (q := 10) dX2_likenessOf_9 rfl rfl ?_
  refine v_aload_n (q := 11) dX2_likenessOf_10 rfl rfl ?_
  refine v_get (q := 14) dX2_likenessOf_11 rfl fl_2_22 rfl rfl ?_
  refine v_iload_n (q := 15) dX2_likenessOf_14 rfl rfl ?_
  refine v_callV (As := [.ref 6, .int p2]) (n := 2) (q := 18) dX2_likenessOf_15 rfl lk_2_137 hd1 rfl rfl (Nat.le_of_ble_eq_true rfl) (CT.imp h (fun r s4 h => ?_))
  obtain ⟨x3, rfl, h⟩ := h
  show VV mX2_likenessOf d s00 18 [some (.ref 1), some (.int p1), some (.int p2)] [.int x3] s4 (Qi K)
  exact v_iret dX2_likenessOf_18 rfl ⟨_, rfl, h⟩
theorem eX2_likenessOf {d : Nat} {σ : SS} {K : Int32 → SS → Prop} (p1 : Int32) (p2 : Int32)  (hd1 : 1 ≤ d) (h : CTv mX2_readInto (d - 1) [.ref 1, .ref 6, .int p1] σ (fun s2 => CTi mX2_likenessTo (d - 1) [.ref 1, .ref 6, .int p2] s2 (fun x3 s4 => K x3 s4))) : CTi mX2_likenessOf d [.ref 1, .int p1, .int p2] σ K := CT_of (Q := (Qi K)) (by decide +kernel) rfl (by decide) (Nat.le_of_ble_eq_true rfl) rfl (bX2_likenessOf_0 p1 p2 hd1 h)
set_option maxRecDepth 20000 in
theorem bX2_likenessTo_0 {d : Nat} {σ : SS} {K : Int32 → SS → Prop} {se w f : Nat} (p2 : Int32) (hse : Sen se w f) (hd1 : 1 ≤ d) (h : CTv mX2_readInto (d - 1) [.ref 1, .ref 7, .int p2] σ (fun s2 => CTi mX5_measure (d - 1) [.ref 8, .ref se, .ref 7] s2 (fun x3 s4 => K x3 s4))) : VV mX2_likenessTo d s00 0 [some (.ref 1), some (.ref se), some (.int p2)] [] σ (Qi K) := by
  refine v_aload_n (q := 1) dX2_likenessTo_0 rfl rfl ?_
  refine v_aload_n (q := 2) dX2_likenessTo_1 rfl rfl ?_
  refine v_get (q := 5) dX2_likenessTo_2 rfl fl_2_26 rfl rfl ?_
  refine v_iload_n (q := 6) dX2_likenessTo_5 rfl rfl ?_
  refine v_callV (As := [.ref 7, .int p2]) (n := 2) (q := 9) dX2_likenessTo_6 rfl lk_2_133 hd1 rfl rfl (Nat.le_of_ble_eq_true rfl) (CT.imp h (fun r s2 h => ?_))
  obtain ⟨rfl, h⟩ := h
  show VV mX2_likenessTo d s00 9 [some (.ref 1), some (.ref se), some (.int p2)] [] s2 (Qi K)
  refine v_aload_n (q := 10) dX2_likenessTo_9 rfl rfl ?_
  refine v_get (q := 13) dX2_likenessTo_10 rfl fl_2_32 rfl rfl ?_
  refine v_aload_n (q := 14) dX2_likenessTo_13 rfl rfl ?_
  refine v_aload_n (q := 15) dX2_likenessTo_14 rfl rfl ?_
  refine v_get (q := 18) dX2_likenessTo_15 rfl fl_2_26 rfl rfl ?_
  refine v_callN (As := [.ref se, .ref 7]) (n := 2) (q := 21) dX2_likenessTo_18 rfl lk_2_141 hd1 rfl rfl (Nat.le_of_ble_eq_true rfl) (CT.imp h (fun r s4 h => ?_))
  obtain ⟨x3, rfl, h⟩ := h
  show VV mX2_likenessTo d s00 21 [some (.ref 1), some (.ref se), some (.int p2)] [.int x3] s4 (Qi K)
  exact v_iret dX2_likenessTo_21 rfl ⟨_, rfl, h⟩
theorem eX2_likenessTo {d : Nat} {σ : SS} {K : Int32 → SS → Prop} {se w f : Nat} (p2 : Int32) (hse : Sen se w f) (hd1 : 1 ≤ d) (h : CTv mX2_readInto (d - 1) [.ref 1, .ref 7, .int p2] σ (fun s2 => CTi mX5_measure (d - 1) [.ref 8, .ref se, .ref 7] s2 (fun x3 s4 => K x3 s4))) : CTi mX2_likenessTo d [.ref 1, .ref se, .int p2] σ K := CT_of (Q := (Qi K)) (by decide +kernel) rfl (by decide) (Nat.le_of_ble_eq_true rfl) rfl (bX2_likenessTo_0 p2 hse hd1 h)
set_option maxRecDepth 20000 in
theorem bX2_conflictsOf_0 {d : Nat} {σ : SS} {K : Int32 → SS → Prop} (p1 : Int32)  (hd1 : 1 ≤ d) (h : CTi mX2_isLive (d - 1) [.ref 1, .int p1] σ (fun x1 s2 => ((¬ x1 = 0) → (CTv mX2_readInto (d - 1) [.ref 1, .ref 6, .int p1] s2 (fun s4 => VV mX2_conflictsOf d s00 23 [some (.ref 1), some (.int p1), some (.int (nI 0)), some (.int (nI 0))] [] s4 (Qi K)))) ∧ ((x1 = 0) → (K (nI 0) s2)))) : VV mX2_conflictsOf d s00 0 [some (.ref 1), some (.int p1), none, none] [] σ (Qi K) := by
  refine v_aload_n (q := 1) dX2_conflictsOf_0 rfl rfl ?_
  refine v_iload_n (q := 2) dX2_conflictsOf_1 rfl rfl ?_
  refine v_callV (As := [.int p1]) (n := 1) (q := 5) dX2_conflictsOf_2 rfl lk_2_79 hd1 rfl rfl (Nat.le_of_ble_eq_true rfl) (CT.imp h (fun r s2 h => ?_))
  obtain ⟨x1, rfl, h⟩ := h
  show VV mX2_conflictsOf d s00 5 [some (.ref 1), some (.int p1), none, none] [.int x1] s2 (Qi K)
  refine v_if_ne (t := 10) (q := 8) dX2_conflictsOf_5 rfl (by decide) (fun c => ?_) (fun c => ?_)
  · have h := h.1 (c)
    refine v_aload_n (q := 11) dX2_conflictsOf_10 rfl rfl ?_
    refine v_aload_n (q := 12) dX2_conflictsOf_11 rfl rfl ?_
    refine v_get (q := 15) dX2_conflictsOf_12 rfl fl_2_22 rfl rfl ?_
    refine v_iload_n (q := 16) dX2_conflictsOf_15 rfl rfl ?_
    refine v_callV (As := [.ref 6, .int p1]) (n := 2) (q := 19) dX2_conflictsOf_16 rfl lk_2_133 hd1 rfl rfl (Nat.le_of_ble_eq_true rfl) (CT.imp h (fun r s4 h => ?_))
    obtain ⟨rfl, h⟩ := h
    show VV mX2_conflictsOf d s00 19 [some (.ref 1), some (.int p1), none, none] [] s4 (Qi K)
    refine v_iconst (v := (nI 0)) (q := 20) dX2_conflictsOf_19 rfl (by decide) ?_
    refine v_istore_n (q := 21) dX2_conflictsOf_20 rfl (by decide) rfl ?_
    refine v_iconst (v := (nI 0)) (q := 22) dX2_conflictsOf_21 rfl (by decide) ?_
    refine v_istore_n (q := 23) dX2_conflictsOf_22 rfl (by decide) rfl ?_
    exact h
  · have h := h.2 (c)
    refine v_iconst (v := (nI 0)) (q := 9) dX2_conflictsOf_8 rfl (by decide) ?_
    exact v_iret dX2_conflictsOf_9 rfl ⟨_, rfl, h⟩
theorem eX2_conflictsOf {d : Nat} {σ : SS} {K : Int32 → SS → Prop} (p1 : Int32)  (hd1 : 1 ≤ d) (h : CTi mX2_isLive (d - 1) [.ref 1, .int p1] σ (fun x1 s2 => ((¬ x1 = 0) → (CTv mX2_readInto (d - 1) [.ref 1, .ref 6, .int p1] s2 (fun s4 => VV mX2_conflictsOf d s00 23 [some (.ref 1), some (.int p1), some (.int (nI 0)), some (.int (nI 0))] [] s4 (Qi K)))) ∧ ((x1 = 0) → (K (nI 0) s2)))) : CTi mX2_conflictsOf d [.ref 1, .int p1] σ K := CT_of (Q := (Qi K)) (by decide +kernel) rfl (by decide) (Nat.le_of_ble_eq_true rfl) rfl (bX2_conflictsOf_0 p1 hd1 h)
set_option maxRecDepth 20000 in
theorem bX2_conflictsOf_23 {d : Nat} {σ : SS} {K : Int32 → SS → Prop} (v1 : Int32) (v2 : Int32) (v3 : Int32)  (hd1 : 1 ≤ d) (h : CTi mX2_phrases (d - 1) [.ref 1] σ (fun x1 s2 => ((x1 ≤ v3) → (K v2 s2)) ∧ ((¬ x1 ≤ v3) → (CTi mX2_isLiveAs (d - 1) [.ref 1, .int v3, .ref 6] s2 (fun x3 s4 => ((x3 = 0) → (VV mX2_conflictsOf d s00 23 [some (.ref 1), some (.int v1), some (.int v2), some (.int (v3 + nI 1))] [] s4 (Qi K))) ∧ ((¬ x3 = 0) → (CTi mX2_targetOf (d - 1) [.ref 1, .int v3] s4 (fun x5 s6 => CTi mX2_targetOf (d - 1) [.ref 1, .int v1] s6 (fun x7 s8 => ((x5 = x7) → (VV mX2_conflictsOf d s00 23 [some (.ref 1), some (.int v1), some (.int v2), some (.int (v3 + nI 1))] [] s8 (Qi K))) ∧ ((¬ x5 = x7) → (VV mX2_conflictsOf d s00 23 [some (.ref 1), some (.int v1), some (.int (v2 + nI 1)), some (.int (v3 + nI 1))] [] s8 (Qi K)))))))))))) : VV mX2_conflictsOf d s00 23 [some (.ref 1), some (.int v1), some (.int v2), some (.int v3)] [] σ (Qi K) := by
  refine v_iload_n (q := 24) dX2_conflictsOf_23 rfl rfl ?_
  refine v_aload_n (q := 25) dX2_conflictsOf_24 rfl rfl ?_
  refine v_callV (As := []) (n := 0) (q := 28) dX2_conflictsOf_25 rfl lk_2_57 hd1 rfl rfl (Nat.le_of_ble_eq_true rfl) (CT.imp h (fun r s2 h => ?_))
  obtain ⟨x1, rfl, h⟩ := h
  show VV mX2_conflictsOf d s00 28 [some (.ref 1), some (.int v1), some (.int v2), some (.int v3)] [.int x1, .int v3] s2 (Qi K)
  refine v_icmp_ge (t := 65) (q := 31) dX2_conflictsOf_28 rfl (by decide) (fun c => ?_) (fun c => ?_)
  · have h := h.1 (c)
    refine v_iload_n (q := 66) dX2_conflictsOf_65 rfl rfl ?_
    exact v_iret dX2_conflictsOf_66 rfl ⟨_, rfl, h⟩
  · have h := h.2 (c)
    refine v_aload_n (q := 32) dX2_conflictsOf_31 rfl rfl ?_
    refine v_iload_n (q := 33) dX2_conflictsOf_32 rfl rfl ?_
    refine v_aload_n (q := 34) dX2_conflictsOf_33 rfl rfl ?_
    refine v_get (q := 37) dX2_conflictsOf_34 rfl fl_2_22 rfl rfl ?_
    refine v_callV (As := [.int v3, .ref 6]) (n := 2) (q := 40) dX2_conflictsOf_37 rfl lk_2_145 hd1 rfl rfl (Nat.le_of_ble_eq_true rfl) (CT.imp h (fun r s4 h => ?_))
    obtain ⟨x3, rfl, h⟩ := h
    show VV mX2_conflictsOf d s00 40 [some (.ref 1), some (.int v1), some (.int v2), some (.int v3)] [.int x3] s4 (Qi K)
    refine v_if_eq (t := 59) (q := 43) dX2_conflictsOf_40 rfl (by decide) (fun c => ?_) (fun c => ?_)
    · have h := h.1 (c)
      refine v_iinc (y := (v3 + nI 1)) (q := 62) dX2_conflictsOf_59 rfl rfl (congrArg (fun z => v3 + z) (by decide)) (by decide) rfl ?_
      refine v_goto (q := 23) dX2_conflictsOf_62 (by decide) ?_
      exact h
    · have h := h.2 (c)
      refine v_aload_n (q := 44) dX2_conflictsOf_43 rfl rfl ?_
      refine v_iload_n (q := 45) dX2_conflictsOf_44 rfl rfl ?_
      refine v_callV (As := [.int v3]) (n := 1) (q := 48) dX2_conflictsOf_45 rfl lk_2_149 hd1 rfl rfl (Nat.le_of_ble_eq_true rfl) (CT.imp h (fun r s6 h => ?_))
      obtain ⟨x5, rfl, h⟩ := h
      show VV mX2_conflictsOf d s00 48 [some (.ref 1), some (.int v1), some (.int v2), some (.int v3)] [.int x5] s6 (Qi K)
      refine v_aload_n (q := 49) dX2_conflictsOf_48 rfl rfl ?_
      refine v_iload_n (q := 50) dX2_conflictsOf_49 rfl rfl ?_
      refine v_callV (As := [.int v1]) (n := 1) (q := 53) dX2_conflictsOf_50 rfl lk_2_149 hd1 rfl rfl (Nat.le_of_ble_eq_true rfl) (CT.imp h (fun r s8 h => ?_))
      obtain ⟨x7, rfl, h⟩ := h
      show VV mX2_conflictsOf d s00 53 [some (.ref 1), some (.int v1), some (.int v2), some (.int v3)] [.int x7, .int x5] s8 (Qi K)
      refine v_icmp_eq (t := 59) (q := 56) dX2_conflictsOf_53 rfl (by decide) (fun c => ?_) (fun c => ?_)
      · have h := h.1 (c)
        refine v_iinc (y := (v3 + nI 1)) (q := 62) dX2_conflictsOf_59 rfl rfl (congrArg (fun z => v3 + z) (by decide)) (by decide) rfl ?_
        refine v_goto (q := 23) dX2_conflictsOf_62 (by decide) ?_
        exact h
      · have h := h.2 (c)
        refine v_iinc (y := (v2 + nI 1)) (q := 59) dX2_conflictsOf_56 rfl rfl (congrArg (fun z => v2 + z) (by decide)) (by decide) rfl ?_
        refine v_iinc (y := (v3 + nI 1)) (q := 62) dX2_conflictsOf_59 rfl rfl (congrArg (fun z => v3 + z) (by decide)) (by decide) rfl ?_
        refine v_goto (q := 23) dX2_conflictsOf_62 (by decide) ?_
        exact h
set_option maxRecDepth 20000 in
theorem bX2_standsAt_0 {d : Nat} {σ : SS} {K : Int32 → SS → Prop} (p1 : Int32) {se w f : Nat} (p3 : Int32) (hse : Sen se w f) (hd1 : 1 ≤ d) (h : CTi mX2_phraseCell (d - 1) [.int p1, .int (nI 1)] σ (fun x1 s2 => (vp_in x1 654) ∧ (CTi mX2_phraseCell (d - 1) [.int p1, .int (nI 6)] s2 (fun x3 s4 => (((p3 + (s2.1 12 x1.toNatClampNeg)) ≤ (s4.2.1 f)) → (VV mX2_standsAt d s00 35 [some (.ref 1), some (.int p1), some (.ref se), some (.int p3), some (.int (s2.1 12 x1.toNatClampNeg)), some (.int x3), some (.int (nI 0))] [] s4 (Qi K))) ∧ ((¬ (p3 + (s2.1 12 x1.toNatClampNeg)) ≤ (s4.2.1 f)) → (K (nI 0) s4)))))) : VV mX2_standsAt d s00 0 [some (.ref 1), some (.int p1), some (.ref se), some (.int p3), none, none, none] [] σ (Qi K) := by
  refine v_aload_n (q := 1) dX2_standsAt_0 rfl rfl ?_
  refine v_iload_n (q := 2) dX2_standsAt_1 rfl rfl ?_
  refine v_iconst (v := (nI 1)) (q := 3) dX2_standsAt_2 rfl (by decide) ?_
  refine v_callS (As := [.int p1, .int (nI 1)]) (n := 2) (q := 6) dX2_standsAt_3 rfl lk_2_110 hd1 rfl (Nat.le_of_ble_eq_true rfl) (CT.imp h (fun r s2 h => ?_))
  obtain ⟨x1, rfl, h⟩ := h
  show VV mX2_standsAt d s00 6 [some (.ref 1), some (.int p1), some (.ref se), some (.int p3), none, none, none] [.int x1, .ref 1] s2 (Qi K)
  refine v_at (q := 9) dX2_standsAt_6 rfl lk_2_45 (Nat.le_of_ble_eq_true rfl) h.1 ?_
  have h := h.2
  refine v_istore (q := 11) dX2_standsAt_9 rfl (by decide) rfl ?_
  refine v_iload_n (q := 12) dX2_standsAt_11 rfl rfl ?_
  refine v_bipush (v := (nI 6)) (q := 14) dX2_standsAt_12 rfl (by decide) ?_
  refine v_callS (As := [.int p1, .int (nI 6)]) (n := 2) (q := 17) dX2_standsAt_14 rfl lk_2_110 hd1 rfl (Nat.le_of_ble_eq_true rfl) (CT.imp h (fun r s4 h => ?_))
  obtain ⟨x3, rfl, h⟩ := h
  show VV mX2_standsAt d s00 17 [some (.ref 1), some (.int p1), some (.ref se), some (.int p3), some (.int (s2.1 12 x1.toNatClampNeg)), none, none] [.int x3] s4 (Qi K)
  refine v_istore (q := 19) dX2_standsAt_17 rfl (by decide) rfl ?_
  refine v_iload_n (q := 20) dX2_standsAt_19 rfl rfl ?_
  refine v_iload (q := 22) dX2_standsAt_20 rfl rfl ?_
  refine v_iadd (q := 23) dX2_standsAt_22 rfl ?_
  refine v_aload_n (q := 24) dX2_standsAt_23 rfl rfl ?_
  refine v_get (q := 27) dX2_standsAt_24 rfl fl_2_113 (hse.1 _) rfl ?_
  refine v_icmp_le (t := 32) (q := 30) dX2_standsAt_27 rfl (by decide) (fun c => ?_) (fun c => ?_)
  · have h := h.1 (c)
    refine v_iconst (v := (nI 0)) (q := 33) dX2_standsAt_32 rfl (by decide) ?_
    refine v_istore (q := 35) dX2_standsAt_33 rfl (by decide) rfl ?_
    exact h
  · have h := h.2 (c)
    refine v_iconst (v := (nI 0)) (q := 31) dX2_standsAt_30 rfl (by decide) ?_
    exact v_zret dX2_standsAt_31 rfl (by decide) ⟨_, rfl, h⟩
theorem eX2_standsAt {d : Nat} {σ : SS} {K : Int32 → SS → Prop} (p1 : Int32) {se w f : Nat} (p3 : Int32) (hse : Sen se w f) (hd1 : 1 ≤ d) (h : CTi mX2_phraseCell (d - 1) [.int p1, .int (nI 1)] σ (fun x1 s2 => (vp_in x1 654) ∧ (CTi mX2_phraseCell (d - 1) [.int p1, .int (nI 6)] s2 (fun x3 s4 => (((p3 + (s2.1 12 x1.toNatClampNeg)) ≤ (s4.2.1 f)) → (VV mX2_standsAt d s00 35 [some (.ref 1), some (.int p1), some (.ref se), some (.int p3), some (.int (s2.1 12 x1.toNatClampNeg)), some (.int x3), some (.int (nI 0))] [] s4 (Qi K))) ∧ ((¬ (p3 + (s2.1 12 x1.toNatClampNeg)) ≤ (s4.2.1 f)) → (K (nI 0) s4)))))) : CTi mX2_standsAt d [.ref 1, .int p1, .ref se, .int p3] σ K := CT_of (Q := (Qi K)) (by decide +kernel) rfl (by decide) (Nat.le_of_ble_eq_true rfl) rfl (bX2_standsAt_0 p1 p3 hse hd1 h)
set_option maxRecDepth 20000 in
theorem bX2_standsAt_35 {d : Nat} {σ : SS} {K : Int32 → SS → Prop} {se w f : Nat} (v1 : Int32) (v3 : Int32) (v4 : Int32) (v5 : Int32) (v6 : Int32) (hse : Sen se w f)  (h : ((v4 ≤ v6) → (K (nI 1) σ)) ∧ ((¬ v4 ≤ v6) → ((vp_in (v5 + v6) 654) ∧ ((vp_in (v3 + v6) 10) ∧ (¬ (σ.2.1 f) ≤ (v3 + v6)) ∧ ((((σ.1 12 (v5 + v6).toNatClampNeg) = (σ.1 w (v3 + v6).toNatClampNeg)) → (VV mX2_standsAt d s00 35 [some (.ref 1), some (.int v1), some (.ref se), some (.int v3), some (.int v4), some (.int v5), some (.int (v6 + nI 1))] [] σ (Qi K))) ∧ ((¬ (σ.1 12 (v5 + v6).toNatClampNeg) = (σ.1 w (v3 + v6).toNatClampNeg)) → (K (nI 0) σ))))))) : VV mX2_standsAt d s00 35 [some (.ref 1), some (.int v1), some (.ref se), some (.int v3), some (.int v4), some (.int v5), some (.int v6)] [] σ (Qi K) := by
  refine v_iload (q := 37) dX2_standsAt_35 rfl rfl ?_
  refine v_iload (q := 39) dX2_standsAt_37 rfl rfl ?_
  refine v_icmp_ge (t := 70) (q := 42) dX2_standsAt_39 rfl (by decide) (fun c => ?_) (fun c => ?_)
  · have h := h.1 (c)
    refine v_iconst (v := (nI 1)) (q := 71) dX2_standsAt_70 rfl (by decide) ?_
    exact v_zret dX2_standsAt_71 rfl (by decide) ⟨_, rfl, h⟩
  · have h := h.2 (c)
    refine v_aload_n (q := 43) dX2_standsAt_42 rfl rfl ?_
    refine v_iload (q := 45) dX2_standsAt_43 rfl rfl ?_
    refine v_iload (q := 47) dX2_standsAt_45 rfl rfl ?_
    refine v_iadd (q := 48) dX2_standsAt_47 rfl ?_
    refine v_at (q := 51) dX2_standsAt_48 rfl lk_2_45 (Nat.le_of_ble_eq_true rfl) h.1 ?_
    have h := h.2
    refine v_aload_n (q := 52) dX2_standsAt_51 rfl rfl ?_
    refine v_iload_n (q := 53) dX2_standsAt_52 rfl rfl ?_
    refine v_iload (q := 55) dX2_standsAt_53 rfl rfl ?_
    refine v_iadd (q := 56) dX2_standsAt_55 rfl ?_
    refine v_wordAt (q := 59) dX2_standsAt_56 rfl lk_2_117 hse (Nat.le_of_ble_eq_true rfl) h.1 h.2.1 ?_
    have h := h.2.2
    refine v_icmp_eq (t := 64) (q := 62) dX2_standsAt_59 rfl (by decide) (fun c => ?_) (fun c => ?_)
    · have h := h.1 (c)
      refine v_iinc (y := (v6 + nI 1)) (q := 67) dX2_standsAt_64 rfl rfl (congrArg (fun z => v6 + z) (by decide)) (by decide) rfl ?_
      refine v_goto (q := 35) dX2_standsAt_67 (by decide) ?_
      exact h
    · have h := h.2 (c)
      refine v_iconst (v := (nI 0)) (q := 63) dX2_standsAt_62 rfl (by decide) ?_
      exact v_zret dX2_standsAt_63 rfl (by decide) ⟨_, rfl, h⟩
set_option maxRecDepth 20000 in
theorem bX2_isLiveAs_0 {d : Nat} {σ : SS} {K : Int32 → SS → Prop} (p1 : Int32) {se w f : Nat} (hse : Sen se w f) (hd1 : 1 ≤ d) (h : CTi mX2_isLive (d - 1) [.ref 1, .int p1] σ (fun x1 s2 => ((x1 = 0) → (K (nI 0) s2)) ∧ ((¬ x1 = 0) → (CTi mX2_lengthOf (d - 1) [.ref 1, .int p1] s2 (fun x3 s4 => ((¬ x3 = (s4.2.1 f)) → (K (nI 0) s4)) ∧ ((x3 = (s4.2.1 f)) → (CTi mX2_standsAt (d - 1) [.ref 1, .int p1, .ref se, .int (nI 0)] s4 (fun x5 s6 => ((x5 = 0) → (K (nI 0) s6)) ∧ ((¬ x5 = 0) → (K (nI 1) s6)))))))))) : VV mX2_isLiveAs d s00 0 [some (.ref 1), some (.int p1), some (.ref se)] [] σ (Qi K) := by
  refine v_aload_n (q := 1) dX2_isLiveAs_0 rfl rfl ?_
  refine v_iload_n (q := 2) dX2_isLiveAs_1 rfl rfl ?_
  refine v_callV (As := [.int p1]) (n := 1) (q := 5) dX2_isLiveAs_2 rfl lk_2_79 hd1 rfl rfl (Nat.le_of_ble_eq_true rfl) (CT.imp h (fun r s2 h => ?_))
  obtain ⟨x1, rfl, h⟩ := h
  show VV mX2_isLiveAs d s00 5 [some (.ref 1), some (.int p1), some (.ref se)] [.int x1] s2 (Qi K)
  refine v_if_eq (t := 34) (q := 8) dX2_isLiveAs_5 rfl (by decide) (fun c => ?_) (fun c => ?_)
  · have h := h.1 (c)
    refine v_iconst (v := (nI 0)) (q := 35) dX2_isLiveAs_34 rfl (by decide) ?_
    exact v_zret dX2_isLiveAs_35 rfl (by decide) ⟨_, rfl, h⟩
  · have h := h.2 (c)
    refine v_aload_n (q := 9) dX2_isLiveAs_8 rfl rfl ?_
    refine v_iload_n (q := 10) dX2_isLiveAs_9 rfl rfl ?_
    refine v_callV (As := [.int p1]) (n := 1) (q := 13) dX2_isLiveAs_10 rfl lk_2_123 hd1 rfl rfl (Nat.le_of_ble_eq_true rfl) (CT.imp h (fun r s4 h => ?_))
    obtain ⟨x3, rfl, h⟩ := h
    show VV mX2_isLiveAs d s00 13 [some (.ref 1), some (.int p1), some (.ref se)] [.int x3] s4 (Qi K)
    refine v_aload_n (q := 14) dX2_isLiveAs_13 rfl rfl ?_
    refine v_get (q := 17) dX2_isLiveAs_14 rfl fl_2_113 (hse.1 _) rfl ?_
    refine v_icmp_ne (t := 34) (q := 20) dX2_isLiveAs_17 rfl (by decide) (fun c => ?_) (fun c => ?_)
    · have h := h.1 (c)
      refine v_iconst (v := (nI 0)) (q := 35) dX2_isLiveAs_34 rfl (by decide) ?_
      exact v_zret dX2_isLiveAs_35 rfl (by decide) ⟨_, rfl, h⟩
    · have h := h.2 (c)
      refine v_aload_n (q := 21) dX2_isLiveAs_20 rfl rfl ?_
      refine v_iload_n (q := 22) dX2_isLiveAs_21 rfl rfl ?_
      refine v_aload_n (q := 23) dX2_isLiveAs_22 rfl rfl ?_
      refine v_iconst (v := (nI 0)) (q := 24) dX2_isLiveAs_23 rfl (by decide) ?_
      refine v_callV (As := [.int p1, .ref se, .int (nI 0)]) (n := 3) (q := 27) dX2_isLiveAs_24 rfl lk_2_152 hd1 rfl rfl (Nat.le_of_ble_eq_true rfl) (CT.imp h (fun r s6 h => ?_))
      obtain ⟨x5, rfl, h⟩ := h
      show VV mX2_isLiveAs d s00 27 [some (.ref 1), some (.int p1), some (.ref se)] [.int x5] s6 (Qi K)
      refine v_if_eq (t := 34) (q := 30) dX2_isLiveAs_27 rfl (by decide) (fun c => ?_) (fun c => ?_)
      · have h := h.1 (c)
        refine v_iconst (v := (nI 0)) (q := 35) dX2_isLiveAs_34 rfl (by decide) ?_
        exact v_zret dX2_isLiveAs_35 rfl (by decide) ⟨_, rfl, h⟩
      · have h := h.2 (c)
        refine v_iconst (v := (nI 1)) (q := 31) dX2_isLiveAs_30 rfl (by decide) ?_
        refine v_goto (q := 35) dX2_isLiveAs_31 (by decide) ?_
        exact v_zret dX2_isLiveAs_35 rfl (by decide) ⟨_, rfl, h⟩
theorem eX2_isLiveAs {d : Nat} {σ : SS} {K : Int32 → SS → Prop} (p1 : Int32) {se w f : Nat} (hse : Sen se w f) (hd1 : 1 ≤ d) (h : CTi mX2_isLive (d - 1) [.ref 1, .int p1] σ (fun x1 s2 => ((x1 = 0) → (K (nI 0) s2)) ∧ ((¬ x1 = 0) → (CTi mX2_lengthOf (d - 1) [.ref 1, .int p1] s2 (fun x3 s4 => ((¬ x3 = (s4.2.1 f)) → (K (nI 0) s4)) ∧ ((x3 = (s4.2.1 f)) → (CTi mX2_standsAt (d - 1) [.ref 1, .int p1, .ref se, .int (nI 0)] s4 (fun x5 s6 => ((x5 = 0) → (K (nI 0) s6)) ∧ ((¬ x5 = 0) → (K (nI 1) s6)))))))))) : CTi mX2_isLiveAs d [.ref 1, .int p1, .ref se] σ K := CT_of (Q := (Qi K)) (by decide +kernel) rfl (by decide) (Nat.le_of_ble_eq_true rfl) rfl (bX2_isLiveAs_0 p1 hse hd1 h)
set_option maxRecDepth 20000 in
theorem bX2_feeFor_0 {d : Nat} {σ : SS} {K : Int32 → SS → Prop} (p1 : Int32) (p2 : Int32) (p3 : Int32)  (hd1 : 1 ≤ d) (h : CTi mX2_ownerOf (d - 1) [.ref 1, .int p2] σ (fun x1 s2 => ((¬ x1 = p1) → (CTi mX2_priceOf (d - 1) [.ref 1, .int x1] s2 (fun x3 s4 => K ((x3 * p3) / (nI 100)) s4))) ∧ ((x1 = p1) → (K (nI 0) s2)))) : VV mX2_feeFor d s00 0 [some (.ref 1), some (.int p1), some (.int p2), some (.int p3), none] [] σ (Qi K) := by
  refine v_aload_n (q := 1) dX2_feeFor_0 rfl rfl ?_
  refine v_iload_n (q := 2) dX2_feeFor_1 rfl rfl ?_
  refine v_callV (As := [.int p2]) (n := 1) (q := 5) dX2_feeFor_2 rfl lk_2_83 hd1 rfl rfl (Nat.le_of_ble_eq_true rfl) (CT.imp h (fun r s2 h => ?_))
  obtain ⟨x1, rfl, h⟩ := h
  show VV mX2_feeFor d s00 5 [some (.ref 1), some (.int p1), some (.int p2), some (.int p3), none] [.int x1] s2 (Qi K)
  refine v_istore (q := 7) dX2_feeFor_5 rfl (by decide) rfl ?_
  refine v_iload (q := 9) dX2_feeFor_7 rfl rfl ?_
  refine v_iload_n (q := 10) dX2_feeFor_9 rfl rfl ?_
  refine v_icmp_ne (t := 17) (q := 13) dX2_feeFor_10 rfl (by decide) (fun c => ?_) (fun c => ?_)
  · have h := h.1 (c)
    refine v_aload_n (q := 18) dX2_feeFor_17 rfl rfl ?_
    refine v_iload (q := 20) dX2_feeFor_18 rfl rfl ?_
    refine v_callV (As := [.int x1]) (n := 1) (q := 23) dX2_feeFor_20 rfl lk_2_160 hd1 rfl rfl (Nat.le_of_ble_eq_true rfl) (CT.imp h (fun r s4 h => ?_))
    obtain ⟨x3, rfl, h⟩ := h
    show VV mX2_feeFor d s00 23 [some (.ref 1), some (.int p1), some (.int p2), some (.int p3), some (.int x1)] [.int x3] s4 (Qi K)
    refine v_iload_n (q := 24) dX2_feeFor_23 rfl rfl ?_
    refine v_imul (q := 25) dX2_feeFor_24 rfl ?_
    refine v_bipush (v := (nI 100)) (q := 27) dX2_feeFor_25 rfl (by decide) ?_
    refine v_idiv (q := 28) dX2_feeFor_27 rfl (by decide) ?_
    exact v_iret dX2_feeFor_28 rfl ⟨_, rfl, h⟩
  · have h := h.2 (c)
    refine v_iconst (v := (nI 0)) (q := 14) dX2_feeFor_13 rfl (by decide) ?_
    refine v_goto (q := 28) dX2_feeFor_14 (by decide) ?_
    exact v_iret dX2_feeFor_28 rfl ⟨_, rfl, h⟩
theorem eX2_feeFor {d : Nat} {σ : SS} {K : Int32 → SS → Prop} (p1 : Int32) (p2 : Int32) (p3 : Int32)  (hd1 : 1 ≤ d) (h : CTi mX2_ownerOf (d - 1) [.ref 1, .int p2] σ (fun x1 s2 => ((¬ x1 = p1) → (CTi mX2_priceOf (d - 1) [.ref 1, .int x1] s2 (fun x3 s4 => K ((x3 * p3) / (nI 100)) s4))) ∧ ((x1 = p1) → (K (nI 0) s2)))) : CTi mX2_feeFor d [.ref 1, .int p1, .int p2, .int p3] σ K := CT_of (Q := (Qi K)) (by decide +kernel) rfl (by decide) (Nat.le_of_ble_eq_true rfl) rfl (bX2_feeFor_0 p1 p2 p3 hd1 h)
set_option maxRecDepth 20000 in
theorem bX2_noteProperty_0 {d : Nat} {σ : SS} {K : Int32 → SS → Prop} (p1 : Int32) (p2 : Int32)  (hd1 : 1 ≤ d) (h : CTi mX2_noteCell (d - 1) [.int p1, .int p2] σ (fun x1 s2 => (vp_in x1 654) ∧ (K (s2.1 12 x1.toNatClampNeg) s2))) : VV mX2_noteProperty d s00 0 [some (.ref 1), some (.int p1), some (.int p2)] [] σ (Qi K) := by
  refine v_aload_n (q := 1) dX2_noteProperty_0 rfl rfl ?_
  refine v_iload_n (q := 2) dX2_noteProperty_1 rfl rfl ?_
  refine v_iload_n (q := 3) dX2_noteProperty_2 rfl rfl ?_
  refine v_callS (As := [.int p1, .int p2]) (n := 2) (q := 6) dX2_noteProperty_3 rfl lk_2_163 hd1 rfl (Nat.le_of_ble_eq_true rfl) (CT.imp h (fun r s2 h => ?_))
  obtain ⟨x1, rfl, h⟩ := h
  show VV mX2_noteProperty d s00 6 [some (.ref 1), some (.int p1), some (.int p2)] [.int x1, .ref 1] s2 (Qi K)
  refine v_at (q := 9) dX2_noteProperty_6 rfl lk_2_45 (Nat.le_of_ble_eq_true rfl) h.1 ?_
  have h := h.2
  exact v_iret dX2_noteProperty_9 rfl ⟨_, rfl, h⟩
theorem eX2_noteProperty {d : Nat} {σ : SS} {K : Int32 → SS → Prop} (p1 : Int32) (p2 : Int32)  (hd1 : 1 ≤ d) (h : CTi mX2_noteCell (d - 1) [.int p1, .int p2] σ (fun x1 s2 => (vp_in x1 654) ∧ (K (s2.1 12 x1.toNatClampNeg) s2))) : CTi mX2_noteProperty d [.ref 1, .int p1, .int p2] σ K := CT_of (Q := (Qi K)) (by decide +kernel) rfl (by decide) (Nat.le_of_ble_eq_true rfl) rfl (bX2_noteProperty_0 p1 p2 hd1 h)
set_option maxRecDepth 20000 in
theorem bX2_isPaidBack_0 {d : Nat} {σ : SS} {K : Int32 → SS → Prop} (p1 : Int32)  (hd1 : 1 ≤ d) (h : CTi mX2_noteCell (d - 1) [.int p1, .int (nI 5)] σ (fun x1 s2 => (vp_in x1 654) ∧ (((¬ (s2.1 12 x1.toNatClampNeg) = (nI 1)) → (K (nI 0) s2)) ∧ (((s2.1 12 x1.toNatClampNeg) = (nI 1)) → (K (nI 1) s2))))) : VV mX2_isPaidBack d s00 0 [some (.ref 1), some (.int p1)] [] σ (Qi K) := by
  refine v_aload_n (q := 1) dX2_isPaidBack_0 rfl rfl ?_
  refine v_iload_n (q := 2) dX2_isPaidBack_1 rfl rfl ?_
  refine v_iconst (v := (nI 5)) (q := 3) dX2_isPaidBack_2 rfl (by decide) ?_
  refine v_callS (As := [.int p1, .int (nI 5)]) (n := 2) (q := 6) dX2_isPaidBack_3 rfl lk_2_163 hd1 rfl (Nat.le_of_ble_eq_true rfl) (CT.imp h (fun r s2 h => ?_))
  obtain ⟨x1, rfl, h⟩ := h
  show VV mX2_isPaidBack d s00 6 [some (.ref 1), some (.int p1)] [.int x1, .ref 1] s2 (Qi K)
  refine v_at (q := 9) dX2_isPaidBack_6 rfl lk_2_45 (Nat.le_of_ble_eq_true rfl) h.1 ?_
  have h := h.2
  refine v_iconst (v := (nI 1)) (q := 10) dX2_isPaidBack_9 rfl (by decide) ?_
  refine v_icmp_ne (t := 17) (q := 13) dX2_isPaidBack_10 rfl (by decide) (fun c => ?_) (fun c => ?_)
  · have h := h.1 (c)
    refine v_iconst (v := (nI 0)) (q := 18) dX2_isPaidBack_17 rfl (by decide) ?_
    exact v_zret dX2_isPaidBack_18 rfl (by decide) ⟨_, rfl, h⟩
  · have h := h.2 (c)
    refine v_iconst (v := (nI 1)) (q := 14) dX2_isPaidBack_13 rfl (by decide) ?_
    refine v_goto (q := 18) dX2_isPaidBack_14 (by decide) ?_
    exact v_zret dX2_isPaidBack_18 rfl (by decide) ⟨_, rfl, h⟩
theorem eX2_isPaidBack {d : Nat} {σ : SS} {K : Int32 → SS → Prop} (p1 : Int32)  (hd1 : 1 ≤ d) (h : CTi mX2_noteCell (d - 1) [.int p1, .int (nI 5)] σ (fun x1 s2 => (vp_in x1 654) ∧ (((¬ (s2.1 12 x1.toNatClampNeg) = (nI 1)) → (K (nI 0) s2)) ∧ (((s2.1 12 x1.toNatClampNeg) = (nI 1)) → (K (nI 1) s2))))) : CTi mX2_isPaidBack d [.ref 1, .int p1] σ K := CT_of (Q := (Qi K)) (by decide +kernel) rfl (by decide) (Nat.le_of_ble_eq_true rfl) rfl (bX2_isPaidBack_0 p1 hd1 h)
set_option maxRecDepth 20000 in
theorem bX2_startNote_0 {d : Nat} {σ : SS} {K : Int32 → SS → Prop} (p1 : Int32) (p2 : Int32) (p3 : Int32)  (hd1 : 1 ≤ d) (h : (vp_in (nI 2) 654) ∧ ((vp_in (nI 2) 654) ∧ (CTi mX2_noteCell (d - 1) [.int (σ.1 12 (nI 2).toNatClampNeg), .int (nI 0)] (sA σ 12 (nI 2).toNatClampNeg (σ.1 12 (nI 2).toNatClampNeg + (nI 1))) (fun x1 s2 => (vp_in x1 654) ∧ (CTi mX2_noteCell (d - 1) [.int (σ.1 12 (nI 2).toNatClampNeg), .int (nI 1)] (sA s2 12 x1.toNatClampNeg p1) (fun x3 s4 => (vp_in x3 654) ∧ (CTi mX2_noteCell (d - 1) [.int (σ.1 12 (nI 2).toNatClampNeg), .int (nI 2)] (sA s4 12 x3.toNatClampNeg p2) (fun x5 s6 => (vp_in x5 654) ∧ (CTi mX2_noteCell (d - 1) [.int (σ.1 12 (nI 2).toNatClampNeg), .int (nI 3)] (sA s6 12 x5.toNatClampNeg p3) (fun x7 s8 => CTi mX2_feeFor (d - 1) [.ref 1, .int p1, .int p2, .int p3] s8 (fun x9 s10 => (vp_in x7 654) ∧ (CTi mX2_noteCell (d - 1) [.int (σ.1 12 (nI 2).toNatClampNeg), .int (nI 4)] (sA s10 12 x7.toNatClampNeg x9) (fun x11 s12 => CTi mX2_tick (d - 1) [.ref 1] s12 (fun x13 s14 => (vp_in x11 654) ∧ (CTi mX2_noteCell (d - 1) [.int (σ.1 12 (nI 2).toNatClampNeg), .int (nI 5)] (sA s14 12 x11.toNatClampNeg x13) (fun x15 s16 => (vp_in x15 654) ∧ (CTv mX2_splitFee (d - 1) [.ref 1, .int (σ.1 12 (nI 2).toNatClampNeg)] (sA s16 12 x15.toNatClampNeg (nI 0)) (fun s18 => CTv mX2_moveMoney (d - 1) [.ref 1, .int (σ.1 12 (nI 2).toNatClampNeg), .int (nI 1)] s18 (fun s20 => CTi mX2_phraseCell (d - 1) [.int p2, .int (nI 5)] s20 (fun x21 s22 => (vp_in x21 654) ∧ (K (σ.1 12 (nI 2).toNatClampNeg) (sA s22 12 x21.toNatClampNeg (s22.1 12 x21.toNatClampNeg + (nI 1)))))))))))))))))))))))) : VV mX2_startNote d s00 0 [some (.ref 1), some (.int p1), some (.int p2), some (.int p3), none] [] σ (Qi K) := by
  refine v_aload_n (q := 1) dX2_startNote_0 rfl rfl ?_
  refine v_iconst (v := (nI 2)) (q := 2) dX2_startNote_1 rfl (by decide) ?_
  refine v_at (q := 5) dX2_startNote_2 rfl lk_2_45 (Nat.le_of_ble_eq_true rfl) h.1 ?_
  have h := h.2
  refine v_istore (q := 7) dX2_startNote_5 rfl (by decide) rfl ?_
  refine v_aload_n (q := 8) dX2_startNote_7 rfl rfl ?_
  refine v_iconst (v := (nI 2)) (q := 9) dX2_startNote_8 rfl (by decide) ?_
  refine v_iconst (v := (nI 1)) (q := 10) dX2_startNote_9 rfl (by decide) ?_
  refine v_incc (q := 13) dX2_startNote_10 rfl lk_2_63 (Nat.le_of_ble_eq_true rfl) h.1 ?_
  have h := h.2
  refine v_aload_n (q := 14) dX2_startNote_13 rfl rfl ?_
  refine v_iload (q := 16) dX2_startNote_14 rfl rfl ?_
  refine v_iconst (v := (nI 0)) (q := 17) dX2_startNote_16 rfl (by decide) ?_
  refine v_callS (As := [.int (σ.1 12 (nI 2).toNatClampNeg), .int (nI 0)]) (n := 2) (q := 20) dX2_startNote_17 rfl lk_2_163 hd1 rfl (Nat.le_of_ble_eq_true rfl) (CT.imp h (fun r s2 h => ?_))
  obtain ⟨x1, rfl, h⟩ := h
  show VV mX2_startNote d s00 20 [some (.ref 1), some (.int p1), some (.int p2), some (.int p3), some (.int (σ.1 12 (nI 2).toNatClampNeg))] [.int x1, .ref 1] s2 (Qi K)
  refine v_iload_n (q := 21) dX2_startNote_20 rfl rfl ?_
  refine v_putc (q := 24) dX2_startNote_21 rfl lk_2_49 (Nat.le_of_ble_eq_true rfl) h.1 ?_
  have h := h.2
  refine v_aload_n (q := 25) dX2_startNote_24 rfl rfl ?_
  refine v_iload (q := 27) dX2_startNote_25 rfl rfl ?_
  refine v_iconst (v := (nI 1)) (q := 28) dX2_startNote_27 rfl (by decide) ?_
  refine v_callS (As := [.int (σ.1 12 (nI 2).toNatClampNeg), .int (nI 1)]) (n := 2) (q := 31) dX2_startNote_28 rfl lk_2_163 hd1 rfl (Nat.le_of_ble_eq_true rfl) (CT.imp h (fun r s4 h => ?_))
  obtain ⟨x3, rfl, h⟩ := h
  show VV mX2_startNote d s00 31 [some (.ref 1), some (.int p1), some (.int p2), some (.int p3), some (.int (σ.1 12 (nI 2).toNatClampNeg))] [.int x3, .ref 1] s4 (Qi K)
  refine v_iload_n (q := 32) dX2_startNote_31 rfl rfl ?_
  refine v_putc (q := 35) dX2_startNote_32 rfl lk_2_49 (Nat.le_of_ble_eq_true rfl) h.1 ?_
  have h := h.2
  refine v_aload_n (q := 36) dX2_startNote_35 rfl rfl ?_
  refine v_iload (q := 38) dX2_startNote_36 rfl rfl ?_
  refine v_iconst (v := (nI 2)) (q := 39) dX2_startNote_38 rfl (by decide) ?_
  refine v_callS (As := [.int (σ.1 12 (nI 2).toNatClampNeg), .int (nI 2)]) (n := 2) (q := 42) dX2_startNote_39 rfl lk_2_163 hd1 rfl (Nat.le_of_ble_eq_true rfl) (CT.imp h (fun r s6 h => ?_))
  obtain ⟨x5, rfl, h⟩ := h
  show VV mX2_startNote d s00 42 [some (.ref 1), some (.int p1), some (.int p2), some (.int p3), some (.int (σ.1 12 (nI 2).toNatClampNeg))] [.int x5, .ref 1] s6 (Qi K)
  refine v_iload_n (q := 43) dX2_startNote_42 rfl rfl ?_
  refine v_putc (q := 46) dX2_startNote_43 rfl lk_2_49 (Nat.le_of_ble_eq_true rfl) h.1 ?_
  have h := h.2
  refine v_aload_n (q := 47) dX2_startNote_46 rfl rfl ?_
  refine v_iload (q := 49) dX2_startNote_47 rfl rfl ?_
  refine v_iconst (v := (nI 3)) (q := 50) dX2_startNote_49 rfl (by decide) ?_
  refine v_callS (As := [.int (σ.1 12 (nI 2).toNatClampNeg), .int (nI 3)]) (n := 2) (q := 53) dX2_startNote_50 rfl lk_2_163 hd1 rfl (Nat.le_of_ble_eq_true rfl) (CT.imp h (fun r s8 h => ?_))
  obtain ⟨x7, rfl, h⟩ := h
  show VV mX2_startNote d s00 53 [some (.ref 1), some (.int p1), some (.int p2), some (.int p3), some (.int (σ.1 12 (nI 2).toNatClampNeg))] [.int x7, .ref 1] s8 (Qi K)
  refine v_aload_n (q := 54) dX2_startNote_53 rfl rfl ?_
  refine v_iload_n (q := 55) dX2_startNote_54 rfl rfl ?_
  refine v_iload_n (q := 56) dX2_startNote_55 rfl rfl ?_
  refine v_iload_n (q := 57) dX2_startNote_56 rfl rfl ?_
  refine v_callV (As := [.int p1, .int p2, .int p3]) (n := 3) (q := 60) dX2_startNote_57 rfl lk_2_166 hd1 rfl rfl (Nat.le_of_ble_eq_true rfl) (CT.imp h (fun r s10 h => ?_))
  obtain ⟨x9, rfl, h⟩ := h
  show VV mX2_startNote d s00 60 [some (.ref 1), some (.int p1), some (.int p2), some (.int p3), some (.int (σ.1 12 (nI 2).toNatClampNeg))] [.int x9, .int x7, .ref 1] s10 (Qi K)
  refine v_putc (q := 63) dX2_startNote_60 rfl lk_2_49 (Nat.le_of_ble_eq_true rfl) h.1 ?_
  have h := h.2
  refine v_aload_n (q := 64) dX2_startNote_63 rfl rfl ?_
  refine v_iload (q := 66) dX2_startNote_64 rfl rfl ?_
  refine v_iconst (v := (nI 4)) (q := 67) dX2_startNote_66 rfl (by decide) ?_
  refine v_callS (As := [.int (σ.1 12 (nI 2).toNatClampNeg), .int (nI 4)]) (n := 2) (q := 70) dX2_startNote_67 rfl lk_2_163 hd1 rfl (Nat.le_of_ble_eq_true rfl) (CT.imp h (fun r s12 h => ?_))
  obtain ⟨x11, rfl, h⟩ := h
  show VV mX2_startNote d s00 70 [some (.ref 1), some (.int p1), some (.int p2), some (.int p3), some (.int (σ.1 12 (nI 2).toNatClampNeg))] [.int x11, .ref 1] s12 (Qi K)
  refine v_aload_n (q := 71) dX2_startNote_70 rfl rfl ?_
  refine v_callV (As := []) (n := 0) (q := 74) dX2_startNote_71 rfl lk_2_98 hd1 rfl rfl (Nat.le_of_ble_eq_true rfl) (CT.imp h (fun r s14 h => ?_))
  obtain ⟨x13, rfl, h⟩ := h
  show VV mX2_startNote d s00 74 [some (.ref 1), some (.int p1), some (.int p2), some (.int p3), some (.int (σ.1 12 (nI 2).toNatClampNeg))] [.int x13, .int x11, .ref 1] s14 (Qi K)
  refine v_putc (q := 77) dX2_startNote_74 rfl lk_2_49 (Nat.le_of_ble_eq_true rfl) h.1 ?_
  have h := h.2
  refine v_aload_n (q := 78) dX2_startNote_77 rfl rfl ?_
  refine v_iload (q := 80) dX2_startNote_78 rfl rfl ?_
  refine v_iconst (v := (nI 5)) (q := 81) dX2_startNote_80 rfl (by decide) ?_
  refine v_callS (As := [.int (σ.1 12 (nI 2).toNatClampNeg), .int (nI 5)]) (n := 2) (q := 84) dX2_startNote_81 rfl lk_2_163 hd1 rfl (Nat.le_of_ble_eq_true rfl) (CT.imp h (fun r s16 h => ?_))
  obtain ⟨x15, rfl, h⟩ := h
  show VV mX2_startNote d s00 84 [some (.ref 1), some (.int p1), some (.int p2), some (.int p3), some (.int (σ.1 12 (nI 2).toNatClampNeg))] [.int x15, .ref 1] s16 (Qi K)
  refine v_iconst (v := (nI 0)) (q := 85) dX2_startNote_84 rfl (by decide) ?_
  refine v_putc (q := 88) dX2_startNote_85 rfl lk_2_49 (Nat.le_of_ble_eq_true rfl) h.1 ?_
  have h := h.2
  refine v_aload_n (q := 89) dX2_startNote_88 rfl rfl ?_
  refine v_iload (q := 91) dX2_startNote_89 rfl rfl ?_
  refine v_callV (As := [.int (σ.1 12 (nI 2).toNatClampNeg)]) (n := 1) (q := 94) dX2_startNote_91 rfl lk_2_170 hd1 rfl rfl (Nat.le_of_ble_eq_true rfl) (CT.imp h (fun r s18 h => ?_))
  obtain ⟨rfl, h⟩ := h
  show VV mX2_startNote d s00 94 [some (.ref 1), some (.int p1), some (.int p2), some (.int p3), some (.int (σ.1 12 (nI 2).toNatClampNeg))] [] s18 (Qi K)
  refine v_aload_n (q := 95) dX2_startNote_94 rfl rfl ?_
  refine v_iload (q := 97) dX2_startNote_95 rfl rfl ?_
  refine v_iconst (v := (nI 1)) (q := 98) dX2_startNote_97 rfl (by decide) ?_
  refine v_callV (As := [.int (σ.1 12 (nI 2).toNatClampNeg), .int (nI 1)]) (n := 2) (q := 101) dX2_startNote_98 rfl lk_2_173 hd1 rfl rfl (Nat.le_of_ble_eq_true rfl) (CT.imp h (fun r s20 h => ?_))
  obtain ⟨rfl, h⟩ := h
  show VV mX2_startNote d s00 101 [some (.ref 1), some (.int p1), some (.int p2), some (.int p3), some (.int (σ.1 12 (nI 2).toNatClampNeg))] [] s20 (Qi K)
  refine v_aload_n (q := 102) dX2_startNote_101 rfl rfl ?_
  refine v_iload_n (q := 103) dX2_startNote_102 rfl rfl ?_
  refine v_iconst (v := (nI 5)) (q := 104) dX2_startNote_103 rfl (by decide) ?_
  refine v_callS (As := [.int p2, .int (nI 5)]) (n := 2) (q := 107) dX2_startNote_104 rfl lk_2_110 hd1 rfl (Nat.le_of_ble_eq_true rfl) (CT.imp h (fun r s22 h => ?_))
  obtain ⟨x21, rfl, h⟩ := h
  show VV mX2_startNote d s00 107 [some (.ref 1), some (.int p1), some (.int p2), some (.int p3), some (.int (σ.1 12 (nI 2).toNatClampNeg))] [.int x21, .ref 1] s22 (Qi K)
  refine v_iconst (v := (nI 1)) (q := 108) dX2_startNote_107 rfl (by decide) ?_
  refine v_incc (q := 111) dX2_startNote_108 rfl lk_2_63 (Nat.le_of_ble_eq_true rfl) h.1 ?_
  have h := h.2
  refine v_iload (q := 113) dX2_startNote_111 rfl rfl ?_
  exact v_iret dX2_startNote_113 rfl ⟨_, rfl, h⟩
theorem eX2_startNote {d : Nat} {σ : SS} {K : Int32 → SS → Prop} (p1 : Int32) (p2 : Int32) (p3 : Int32)  (hd1 : 1 ≤ d) (h : (vp_in (nI 2) 654) ∧ ((vp_in (nI 2) 654) ∧ (CTi mX2_noteCell (d - 1) [.int (σ.1 12 (nI 2).toNatClampNeg), .int (nI 0)] (sA σ 12 (nI 2).toNatClampNeg (σ.1 12 (nI 2).toNatClampNeg + (nI 1))) (fun x1 s2 => (vp_in x1 654) ∧ (CTi mX2_noteCell (d - 1) [.int (σ.1 12 (nI 2).toNatClampNeg), .int (nI 1)] (sA s2 12 x1.toNatClampNeg p1) (fun x3 s4 => (vp_in x3 654) ∧ (CTi mX2_noteCell (d - 1) [.int (σ.1 12 (nI 2).toNatClampNeg), .int (nI 2)] (sA s4 12 x3.toNatClampNeg p2) (fun x5 s6 => (vp_in x5 654) ∧ (CTi mX2_noteCell (d - 1) [.int (σ.1 12 (nI 2).toNatClampNeg), .int (nI 3)] (sA s6 12 x5.toNatClampNeg p3) (fun x7 s8 => CTi mX2_feeFor (d - 1) [.ref 1, .int p1, .int p2, .int p3] s8 (fun x9 s10 => (vp_in x7 654) ∧ (CTi mX2_noteCell (d - 1) [.int (σ.1 12 (nI 2).toNatClampNeg), .int (nI 4)] (sA s10 12 x7.toNatClampNeg x9) (fun x11 s12 => CTi mX2_tick (d - 1) [.ref 1] s12 (fun x13 s14 => (vp_in x11 654) ∧ (CTi mX2_noteCell (d - 1) [.int (σ.1 12 (nI 2).toNatClampNeg), .int (nI 5)] (sA s14 12 x11.toNatClampNeg x13) (fun x15 s16 => (vp_in x15 654) ∧ (CTv mX2_splitFee (d - 1) [.ref 1, .int (σ.1 12 (nI 2).toNatClampNeg)] (sA s16 12 x15.toNatClampNeg (nI 0)) (fun s18 => CTv mX2_moveMoney (d - 1) [.ref 1, .int (σ.1 12 (nI 2).toNatClampNeg), .int (nI 1)] s18 (fun s20 => CTi mX2_phraseCell (d - 1) [.int p2, .int (nI 5)] s20 (fun x21 s22 => (vp_in x21 654) ∧ (K (σ.1 12 (nI 2).toNatClampNeg) (sA s22 12 x21.toNatClampNeg (s22.1 12 x21.toNatClampNeg + (nI 1)))))))))))))))))))))))) : CTi mX2_startNote d [.ref 1, .int p1, .int p2, .int p3] σ K := CT_of (Q := (Qi K)) (by decide +kernel) rfl (by decide) (Nat.le_of_ble_eq_true rfl) rfl (bX2_startNote_0 p1 p2 p3 hd1 h)
set_option maxRecDepth 20000 in
theorem bX2_splitFee_0 {d : Nat} {σ : SS} {K : SS → Prop} (p1 : Int32)   (h : VV mX2_splitFee d s00 2 [some (.ref 1), some (.int p1), some (.int (nI 0)), none, none, none, none, none] [] σ (Qv K)) : VV mX2_splitFee d s00 0 [some (.ref 1), some (.int p1), none, none, none, none, none, none] [] σ (Qv K) := by
  refine v_iconst (v := (nI 0)) (q := 1) dX2_splitFee_0 rfl (by decide) ?_
  refine v_istore_n (q := 2) dX2_splitFee_1 rfl (by decide) rfl ?_
  exact h
theorem eX2_splitFee {d : Nat} {σ : SS} {K : SS → Prop} (p1 : Int32)   (h : VV mX2_splitFee d s00 2 [some (.ref 1), some (.int p1), some (.int (nI 0)), none, none, none, none, none] [] σ (Qv K)) : CTv mX2_splitFee d [.ref 1, .int p1] σ K := CT_of (Q := (Qv K)) (by decide +kernel) rfl (by decide) (Nat.le_of_ble_eq_true rfl) rfl (bX2_splitFee_0 p1  h)
set_option maxRecDepth 20000 in
theorem bX2_splitFee_2 {d : Nat} {σ : SS} {K : SS → Prop} (v1 : Int32) (v2 : Int32)  (hd1 : 1 ≤ d) (h : (((nI 6) ≤ v2) → (CTi mX2_noteProperty (d - 1) [.ref 1, .int v1, .int (nI 3)] σ (fun x1 s2 => CTi mX2_settingOf (d - 1) [.ref 1, .int (nI 1)] s2 (fun x3 s4 => CTi mX2_noteCell (d - 1) [.int v1, .int (nI 6)] s4 (fun x5 s6 => (vp_in x5 654) ∧ (CTi mX2_noteProperty (d - 1) [.ref 1, .int v1, .int (nI 3)] (sA s6 12 x5.toNatClampNeg ((x1 * x3) / (nI 100))) (fun x7 s8 => CTi mX2_noteProperty (d - 1) [.ref 1, .int v1, .int (nI 1)] s8 (fun x9 s10 => VV mX2_splitFee d s00 74 [some (.ref 1), some (.int v1), some (.int ((x1 * x3) / (nI 100))), some (.int (x7 - ((x1 * x3) / (nI 100)))), some (.int x9), some (.int (nI 0)), none, none] [] s10 (Qv K))))))))) ∧ ((¬ (nI 6) ≤ v2) → (CTi mX2_noteCell (d - 1) [.int v1, .int ((nI 7) + v2)] σ (fun x11 s12 => (vp_in x11 654) ∧ (VV mX2_splitFee d s00 2 [some (.ref 1), some (.int v1), some (.int (v2 + nI 1)), none, none, none, none, none] [] (sA s12 12 x11.toNatClampNeg (nI 0)) (Qv K)))))) : VV mX2_splitFee d s00 2 [some (.ref 1), some (.int v1), some (.int v2), none, none, none, none, none] [] σ (Qv K) := by
  refine v_iload_n (q := 3) dX2_splitFee_2 rfl rfl ?_
  refine v_bipush (v := (nI 6)) (q := 5) dX2_splitFee_3 rfl (by decide) ?_
  refine v_icmp_ge (t := 27) (q := 8) dX2_splitFee_5 rfl (by decide) (fun c => ?_) (fun c => ?_)
  · have h := h.1 (c)
    refine v_aload_n (q := 28) dX2_splitFee_27 rfl rfl ?_
    refine v_iload_n (q := 29) dX2_splitFee_28 rfl rfl ?_
    refine v_iconst (v := (nI 3)) (q := 30) dX2_splitFee_29 rfl (by decide) ?_
    refine v_callV (As := [.int v1, .int (nI 3)]) (n := 2) (q := 33) dX2_splitFee_30 rfl lk_2_86 hd1 rfl rfl (Nat.le_of_ble_eq_true rfl) (CT.imp h (fun r s2 h => ?_))
    obtain ⟨x1, rfl, h⟩ := h
    show VV mX2_splitFee d s00 33 [some (.ref 1), some (.int v1), some (.int v2), none, none, none, none, none] [.int x1] s2 (Qv K)
    refine v_aload_n (q := 34) dX2_splitFee_33 rfl rfl ?_
    refine v_iconst (v := (nI 1)) (q := 35) dX2_splitFee_34 rfl (by decide) ?_
    refine v_callV (As := [.int (nI 1)]) (n := 1) (q := 38) dX2_splitFee_35 rfl lk_2_104 hd1 rfl rfl (Nat.le_of_ble_eq_true rfl) (CT.imp h (fun r s4 h => ?_))
    obtain ⟨x3, rfl, h⟩ := h
    show VV mX2_splitFee d s00 38 [some (.ref 1), some (.int v1), some (.int v2), none, none, none, none, none] [.int x3, .int x1] s4 (Qv K)
    refine v_imul (q := 39) dX2_splitFee_38 rfl ?_
    refine v_bipush (v := (nI 100)) (q := 41) dX2_splitFee_39 rfl (by decide) ?_
    refine v_idiv (q := 42) dX2_splitFee_41 rfl (by decide) ?_
    refine v_istore_n (q := 43) dX2_splitFee_42 rfl (by decide) rfl ?_
    refine v_aload_n (q := 44) dX2_splitFee_43 rfl rfl ?_
    refine v_iload_n (q := 45) dX2_splitFee_44 rfl rfl ?_
    refine v_bipush (v := (nI 6)) (q := 47) dX2_splitFee_45 rfl (by decide) ?_
    refine v_callS (As := [.int v1, .int (nI 6)]) (n := 2) (q := 50) dX2_splitFee_47 rfl lk_2_163 hd1 rfl (Nat.le_of_ble_eq_true rfl) (CT.imp h (fun r s6 h => ?_))
    obtain ⟨x5, rfl, h⟩ := h
    show VV mX2_splitFee d s00 50 [some (.ref 1), some (.int v1), some (.int ((x1 * x3) / (nI 100))), none, none, none, none, none] [.int x5, .ref 1] s6 (Qv K)
    refine v_iload_n (q := 51) dX2_splitFee_50 rfl rfl ?_
    refine v_putc (q := 54) dX2_splitFee_51 rfl lk_2_49 (Nat.le_of_ble_eq_true rfl) h.1 ?_
    have h := h.2
    refine v_aload_n (q := 55) dX2_splitFee_54 rfl rfl ?_
    refine v_iload_n (q := 56) dX2_splitFee_55 rfl rfl ?_
    refine v_iconst (v := (nI 3)) (q := 57) dX2_splitFee_56 rfl (by decide) ?_
    refine v_callV (As := [.int v1, .int (nI 3)]) (n := 2) (q := 60) dX2_splitFee_57 rfl lk_2_86 hd1 rfl rfl (Nat.le_of_ble_eq_true rfl) (CT.imp h (fun r s8 h => ?_))
    obtain ⟨x7, rfl, h⟩ := h
    show VV mX2_splitFee d s00 60 [some (.ref 1), some (.int v1), some (.int ((x1 * x3) / (nI 100))), none, none, none, none, none] [.int x7] s8 (Qv K)
    refine v_iload_n (q := 61) dX2_splitFee_60 rfl rfl ?_
    refine v_isub (q := 62) dX2_splitFee_61 rfl ?_
    refine v_istore_n (q := 63) dX2_splitFee_62 rfl (by decide) rfl ?_
    refine v_aload_n (q := 64) dX2_splitFee_63 rfl rfl ?_
    refine v_iload_n (q := 65) dX2_splitFee_64 rfl rfl ?_
    refine v_iconst (v := (nI 1)) (q := 66) dX2_splitFee_65 rfl (by decide) ?_
    refine v_callV (As := [.int v1, .int (nI 1)]) (n := 2) (q := 69) dX2_splitFee_66 rfl lk_2_86 hd1 rfl rfl (Nat.le_of_ble_eq_true rfl) (CT.imp h (fun r s10 h => ?_))
    obtain ⟨x9, rfl, h⟩ := h
    show VV mX2_splitFee d s00 69 [some (.ref 1), some (.int v1), some (.int ((x1 * x3) / (nI 100))), some (.int (x7 - ((x1 * x3) / (nI 100)))), none, none, none, none] [.int x9] s10 (Qv K)
    refine v_istore (q := 71) dX2_splitFee_69 rfl (by decide) rfl ?_
    refine v_iconst (v := (nI 0)) (q := 72) dX2_splitFee_71 rfl (by decide) ?_
    refine v_istore (q := 74) dX2_splitFee_72 rfl (by decide) rfl ?_
    exact h
  · have h := h.2 (c)
    refine v_aload_n (q := 9) dX2_splitFee_8 rfl rfl ?_
    refine v_iload_n (q := 10) dX2_splitFee_9 rfl rfl ?_
    refine v_bipush (v := (nI 7)) (q := 12) dX2_splitFee_10 rfl (by decide) ?_
    refine v_iload_n (q := 13) dX2_splitFee_12 rfl rfl ?_
    refine v_iadd (q := 14) dX2_splitFee_13 rfl ?_
    refine v_callS (As := [.int v1, .int ((nI 7) + v2)]) (n := 2) (q := 17) dX2_splitFee_14 rfl lk_2_163 hd1 rfl (Nat.le_of_ble_eq_true rfl) (CT.imp h (fun r s12 h => ?_))
    obtain ⟨x11, rfl, h⟩ := h
    show VV mX2_splitFee d s00 17 [some (.ref 1), some (.int v1), some (.int v2), none, none, none, none, none] [.int x11, .ref 1] s12 (Qv K)
    refine v_iconst (v := (nI 0)) (q := 18) dX2_splitFee_17 rfl (by decide) ?_
    refine v_putc (q := 21) dX2_splitFee_18 rfl lk_2_49 (Nat.le_of_ble_eq_true rfl) h.1 ?_
    have h := h.2
    refine v_iinc (y := (v2 + nI 1)) (q := 24) dX2_splitFee_21 rfl rfl (congrArg (fun z => v2 + z) (by decide)) (by decide) rfl ?_
    refine v_goto (q := 2) dX2_splitFee_24 (by decide) ?_
    exact h
set_option maxRecDepth 20000 in
theorem bX2_splitFee_74 {d : Nat} {σ : SS} {K : SS → Prop} (v1 : Int32) (v2 : Int32) (v3 : Int32) (v4 : Int32) (v5 : Int32)  (hd1 : 1 ≤ d) (h : (((nI 20) ≤ v5) → (K σ)) ∧ ((¬ (nI 20) ≤ v5) → (((v4 = (-1000000)) → (K σ)) ∧ ((¬ v4 = (-1000000)) → (CTi mX2_parentOf (d - 1) [.ref 1, .int v4] σ (fun x1 s2 => ((¬ x1 = (-1000000)) → (CTi mX2_settingOf (d - 1) [.ref 1, .int (nI 2)] s2 (fun x3 s4 => CTi mX2_ownerOf (d - 1) [.ref 1, .int v4] s4 (fun x5 s6 => CTi mX2_noteCell (d - 1) [.int v1, .int ((nI 7) + x5)] s6 (fun x7 s8 => (vp_in x7 654) ∧ (VV mX2_splitFee d s00 74 [some (.ref 1), some (.int v1), some (.int v2), some (.int ((v3 * x3) / (nI 100))), some (.int x1), some (.int (v5 + nI 1)), none, none] [] (sA s8 12 x7.toNatClampNeg (s8.1 12 x7.toNatClampNeg + (v3 - ((v3 * x3) / (nI 100))))) (Qv K))))))) ∧ ((x1 = (-1000000)) → (CTi mX2_ownerOf (d - 1) [.ref 1, .int v4] s2 (fun x9 s10 => CTi mX2_noteCell (d - 1) [.int v1, .int ((nI 7) + x9)] s10 (fun x11 s12 => (vp_in x11 654) ∧ (VV mX2_splitFee d s00 74 [some (.ref 1), some (.int v1), some (.int v2), some (.int (nI 0)), some (.int x1), some (.int (v5 + nI 1)), none, none] [] (sA s12 12 x11.toNatClampNeg (s12.1 12 x11.toNatClampNeg + (v3 - (nI 0)))) (Qv K)))))))))))) : VV mX2_splitFee d s00 74 [some (.ref 1), some (.int v1), some (.int v2), some (.int v3), some (.int v4), some (.int v5), none, none] [] σ (Qv K) := by
  refine v_iload (q := 76) dX2_splitFee_74 rfl rfl ?_
  refine v_bipush (v := (nI 20)) (q := 78) dX2_splitFee_76 rfl (by decide) ?_
  refine v_icmp_ge (t := 153) (q := 81) dX2_splitFee_78 rfl (by decide) (fun c => ?_) (fun c => ?_)
  · have h := h.1 (c)
    exact v_ret0 dX2_splitFee_153 rfl ⟨rfl, h⟩
  · have h := h.2 (c)
    refine v_iload (q := 83) dX2_splitFee_81 rfl rfl ?_
    refine v_ldc (v := (-1000000)) (q := 85) dX2_splitFee_83 rfl cn_2_176 ?_
    refine v_icmp_eq (t := 153) (q := 88) dX2_splitFee_85 rfl (by decide) (fun c => ?_) (fun c => ?_)
    · have h := h.1 (c)
      exact v_ret0 dX2_splitFee_153 rfl ⟨rfl, h⟩
    · have h := h.2 (c)
      refine v_aload_n (q := 89) dX2_splitFee_88 rfl rfl ?_
      refine v_iload (q := 91) dX2_splitFee_89 rfl rfl ?_
      refine v_callV (As := [.int v4]) (n := 1) (q := 94) dX2_splitFee_91 rfl lk_2_177 hd1 rfl rfl (Nat.le_of_ble_eq_true rfl) (CT.imp h (fun r s2 h => ?_))
      obtain ⟨x1, rfl, h⟩ := h
      show VV mX2_splitFee d s00 94 [some (.ref 1), some (.int v1), some (.int v2), some (.int v3), some (.int v4), some (.int v5), none, none] [.int x1] s2 (Qv K)
      refine v_istore (q := 96) dX2_splitFee_94 rfl (by decide) rfl ?_
      refine v_iload (q := 98) dX2_splitFee_96 rfl rfl ?_
      refine v_ldc (v := (-1000000)) (q := 100) dX2_splitFee_98 rfl cn_2_176 ?_
      refine v_icmp_ne (t := 107) (q := 103) dX2_splitFee_100 rfl (by decide) (fun c => ?_) (fun c => ?_)
      · have h := h.1 (c)
        refine v_iload_n (q := 108) dX2_splitFee_107 rfl rfl ?_
        refine v_aload_n (q := 109) dX2_splitFee_108 rfl rfl ?_
        refine v_iconst (v := (nI 2)) (q := 110) dX2_splitFee_109 rfl (by decide) ?_
        refine v_callV (As := [.int (nI 2)]) (n := 1) (q := 113) dX2_splitFee_110 rfl lk_2_104 hd1 rfl rfl (Nat.le_of_ble_eq_true rfl) (CT.imp h (fun r s4 h => ?_))
        obtain ⟨x3, rfl, h⟩ := h
        show VV mX2_splitFee d s00 113 [some (.ref 1), some (.int v1), some (.int v2), some (.int v3), some (.int v4), some (.int v5), some (.int x1), none] [.int x3, .int v3] s4 (Qv K)
        refine v_imul (q := 114) dX2_splitFee_113 rfl ?_
        refine v_bipush (v := (nI 100)) (q := 116) dX2_splitFee_114 rfl (by decide) ?_
        refine v_idiv (q := 117) dX2_splitFee_116 rfl (by decide) ?_
        refine v_istore (q := 119) dX2_splitFee_117 rfl (by decide) rfl ?_
        refine v_aload_n (q := 120) dX2_splitFee_119 rfl rfl ?_
        refine v_iload_n (q := 121) dX2_splitFee_120 rfl rfl ?_
        refine v_bipush (v := (nI 7)) (q := 123) dX2_splitFee_121 rfl (by decide) ?_
        refine v_aload_n (q := 124) dX2_splitFee_123 rfl rfl ?_
        refine v_iload (q := 126) dX2_splitFee_124 rfl rfl ?_
        refine v_callV (As := [.int v4]) (n := 1) (q := 129) dX2_splitFee_126 rfl lk_2_83 hd1 rfl rfl (Nat.le_of_ble_eq_true rfl) (CT.imp h (fun r s6 h => ?_))
        obtain ⟨x5, rfl, h⟩ := h
        show VV mX2_splitFee d s00 129 [some (.ref 1), some (.int v1), some (.int v2), some (.int v3), some (.int v4), some (.int v5), some (.int x1), some (.int ((v3 * x3) / (nI 100)))] [.int x5, .int (nI 7), .int v1, .ref 1] s6 (Qv K)
        refine v_iadd (q := 130) dX2_splitFee_129 rfl ?_
        refine v_callS (As := [.int v1, .int ((nI 7) + x5)]) (n := 2) (q := 133) dX2_splitFee_130 rfl lk_2_163 hd1 rfl (Nat.le_of_ble_eq_true rfl) (CT.imp h (fun r s8 h => ?_))
        obtain ⟨x7, rfl, h⟩ := h
        show VV mX2_splitFee d s00 133 [some (.ref 1), some (.int v1), some (.int v2), some (.int v3), some (.int v4), some (.int v5), some (.int x1), some (.int ((v3 * x3) / (nI 100)))] [.int x7, .ref 1] s8 (Qv K)
        refine v_iload_n (q := 134) dX2_splitFee_133 rfl rfl ?_
        refine v_iload (q := 136) dX2_splitFee_134 rfl rfl ?_
        refine v_isub (q := 137) dX2_splitFee_136 rfl ?_
        refine v_incc (q := 140) dX2_splitFee_137 rfl lk_2_63 (Nat.le_of_ble_eq_true rfl) h.1 ?_
        have h := h.2
        refine v_iload (q := 142) dX2_splitFee_140 rfl rfl ?_
        refine v_istore_n (q := 143) dX2_splitFee_142 rfl (by decide) rfl ?_
        refine v_iload (q := 145) dX2_splitFee_143 rfl rfl ?_
        refine v_istore (q := 147) dX2_splitFee_145 rfl (by decide) rfl ?_
        refine v_iinc (y := (v5 + nI 1)) (q := 150) dX2_splitFee_147 rfl rfl (congrArg (fun z => v5 + z) (by decide)) (by decide) rfl ?_
        refine v_goto (q := 74) dX2_splitFee_150 (by decide) ?_
        exact v_msk [true, true, true, true, true, true, false, false] h
      · have h := h.2 (c)
        refine v_iconst (v := (nI 0)) (q := 104) dX2_splitFee_103 rfl (by decide) ?_
        refine v_goto (q := 117) dX2_splitFee_104 (by decide) ?_
        refine v_istore (q := 119) dX2_splitFee_117 rfl (by decide) rfl ?_
        refine v_aload_n (q := 120) dX2_splitFee_119 rfl rfl ?_
        refine v_iload_n (q := 121) dX2_splitFee_120 rfl rfl ?_
        refine v_bipush (v := (nI 7)) (q := 123) dX2_splitFee_121 rfl (by decide) ?_
        refine v_aload_n (q := 124) dX2_splitFee_123 rfl rfl ?_
        refine v_iload (q := 126) dX2_splitFee_124 rfl rfl ?_
        refine v_callV (As := [.int v4]) (n := 1) (q := 129) dX2_splitFee_126 rfl lk_2_83 hd1 rfl rfl (Nat.le_of_ble_eq_true rfl) (CT.imp h (fun r s10 h => ?_))
        obtain ⟨x9, rfl, h⟩ := h
        show VV mX2_splitFee d s00 129 [some (.ref 1), some (.int v1), some (.int v2), some (.int v3), some (.int v4), some (.int v5), some (.int x1), some (.int (nI 0))] [.int x9, .int (nI 7), .int v1, .ref 1] s10 (Qv K)
        refine v_iadd (q := 130) dX2_splitFee_129 rfl ?_
        refine v_callS (As := [.int v1, .int ((nI 7) + x9)]) (n := 2) (q := 133) dX2_splitFee_130 rfl lk_2_163 hd1 rfl (Nat.le_of_ble_eq_true rfl) (CT.imp h (fun r s12 h => ?_))
        obtain ⟨x11, rfl, h⟩ := h
        show VV mX2_splitFee d s00 133 [some (.ref 1), some (.int v1), some (.int v2), some (.int v3), some (.int v4), some (.int v5), some (.int x1), some (.int (nI 0))] [.int x11, .ref 1] s12 (Qv K)
        refine v_iload_n (q := 134) dX2_splitFee_133 rfl rfl ?_
        refine v_iload (q := 136) dX2_splitFee_134 rfl rfl ?_
        refine v_isub (q := 137) dX2_splitFee_136 rfl ?_
        refine v_incc (q := 140) dX2_splitFee_137 rfl lk_2_63 (Nat.le_of_ble_eq_true rfl) h.1 ?_
        have h := h.2
        refine v_iload (q := 142) dX2_splitFee_140 rfl rfl ?_
        refine v_istore_n (q := 143) dX2_splitFee_142 rfl (by decide) rfl ?_
        refine v_iload (q := 145) dX2_splitFee_143 rfl rfl ?_
        refine v_istore (q := 147) dX2_splitFee_145 rfl (by decide) rfl ?_
        refine v_iinc (y := (v5 + nI 1)) (q := 150) dX2_splitFee_147 rfl rfl (congrArg (fun z => v5 + z) (by decide)) (by decide) rfl ?_
        refine v_goto (q := 74) dX2_splitFee_150 (by decide) ?_
        exact v_msk [true, true, true, true, true, true, false, false] h
set_option maxRecDepth 20000 in
theorem bX2_moveMoney_0 {d : Nat} {σ : SS} {K : SS → Prop} (p1 : Int32) (p2 : Int32)  (hd1 : 1 ≤ d) (h : CTi mX2_noteProperty (d - 1) [.ref 1, .int p1, .int (nI 0)] σ (fun x1 s2 => CTi mX2_memberCell (d - 1) [.int x1, .int (nI 1)] s2 (fun x3 s4 => CTi mX2_noteProperty (d - 1) [.ref 1, .int p1, .int (nI 3)] s4 (fun x5 s6 => (vp_in x3 654) ∧ (CTi mX2_noteProperty (d - 1) [.ref 1, .int p1, .int (nI 6)] (sA s6 12 x3.toNatClampNeg (s6.1 12 x3.toNatClampNeg + ((-p2) * x5))) (fun x7 s8 => (vp_in (nI 4) 654) ∧ (VV mX2_moveMoney d s00 39 [some (.ref 1), some (.int p1), some (.int p2), some (.int (nI 0))] [] (sA s8 12 (nI 4).toNatClampNeg (s8.1 12 (nI 4).toNatClampNeg + (p2 * x7))) (Qv K)))))))) : VV mX2_moveMoney d s00 0 [some (.ref 1), some (.int p1), some (.int p2), none] [] σ (Qv K) := by
  refine v_aload_n (q := 1) dX2_moveMoney_0 rfl rfl ?_
  refine v_aload_n (q := 2) dX2_moveMoney_1 rfl rfl ?_
  refine v_iload_n (q := 3) dX2_moveMoney_2 rfl rfl ?_
  refine v_iconst (v := (nI 0)) (q := 4) dX2_moveMoney_3 rfl (by decide) ?_
  refine v_callV (As := [.int p1, .int (nI 0)]) (n := 2) (q := 7) dX2_moveMoney_4 rfl lk_2_86 hd1 rfl rfl (Nat.le_of_ble_eq_true rfl) (CT.imp h (fun r s2 h => ?_))
  obtain ⟨x1, rfl, h⟩ := h
  show VV mX2_moveMoney d s00 7 [some (.ref 1), some (.int p1), some (.int p2), none] [.int x1, .ref 1] s2 (Qv K)
  refine v_iconst (v := (nI 1)) (q := 8) dX2_moveMoney_7 rfl (by decide) ?_
  refine v_callS (As := [.int x1, .int (nI 1)]) (n := 2) (q := 11) dX2_moveMoney_8 rfl lk_2_66 hd1 rfl (Nat.le_of_ble_eq_true rfl) (CT.imp h (fun r s4 h => ?_))
  obtain ⟨x3, rfl, h⟩ := h
  show VV mX2_moveMoney d s00 11 [some (.ref 1), some (.int p1), some (.int p2), none] [.int x3, .ref 1] s4 (Qv K)
  refine v_iload_n (q := 12) dX2_moveMoney_11 rfl rfl ?_
  refine v_ineg (q := 13) dX2_moveMoney_12 rfl ?_
  refine v_aload_n (q := 14) dX2_moveMoney_13 rfl rfl ?_
  refine v_iload_n (q := 15) dX2_moveMoney_14 rfl rfl ?_
  refine v_iconst (v := (nI 3)) (q := 16) dX2_moveMoney_15 rfl (by decide) ?_
  refine v_callV (As := [.int p1, .int (nI 3)]) (n := 2) (q := 19) dX2_moveMoney_16 rfl lk_2_86 hd1 rfl rfl (Nat.le_of_ble_eq_true rfl) (CT.imp h (fun r s6 h => ?_))
  obtain ⟨x5, rfl, h⟩ := h
  show VV mX2_moveMoney d s00 19 [some (.ref 1), some (.int p1), some (.int p2), none] [.int x5, .int (-p2), .int x3, .ref 1] s6 (Qv K)
  refine v_imul (q := 20) dX2_moveMoney_19 rfl ?_
  refine v_incc (q := 23) dX2_moveMoney_20 rfl lk_2_63 (Nat.le_of_ble_eq_true rfl) h.1 ?_
  have h := h.2
  refine v_aload_n (q := 24) dX2_moveMoney_23 rfl rfl ?_
  refine v_iconst (v := (nI 4)) (q := 25) dX2_moveMoney_24 rfl (by decide) ?_
  refine v_iload_n (q := 26) dX2_moveMoney_25 rfl rfl ?_
  refine v_aload_n (q := 27) dX2_moveMoney_26 rfl rfl ?_
  refine v_iload_n (q := 28) dX2_moveMoney_27 rfl rfl ?_
  refine v_bipush (v := (nI 6)) (q := 30) dX2_moveMoney_28 rfl (by decide) ?_
  refine v_callV (As := [.int p1, .int (nI 6)]) (n := 2) (q := 33) dX2_moveMoney_30 rfl lk_2_86 hd1 rfl rfl (Nat.le_of_ble_eq_true rfl) (CT.imp h (fun r s8 h => ?_))
  obtain ⟨x7, rfl, h⟩ := h
  show VV mX2_moveMoney d s00 33 [some (.ref 1), some (.int p1), some (.int p2), none] [.int x7, .int p2, .int (nI 4), .ref 1] s8 (Qv K)
  refine v_imul (q := 34) dX2_moveMoney_33 rfl ?_
  refine v_incc (q := 37) dX2_moveMoney_34 rfl lk_2_63 (Nat.le_of_ble_eq_true rfl) h.1 ?_
  have h := h.2
  refine v_iconst (v := (nI 0)) (q := 38) dX2_moveMoney_37 rfl (by decide) ?_
  refine v_istore_n (q := 39) dX2_moveMoney_38 rfl (by decide) rfl ?_
  exact h
theorem eX2_moveMoney {d : Nat} {σ : SS} {K : SS → Prop} (p1 : Int32) (p2 : Int32)  (hd1 : 1 ≤ d) (h : CTi mX2_noteProperty (d - 1) [.ref 1, .int p1, .int (nI 0)] σ (fun x1 s2 => CTi mX2_memberCell (d - 1) [.int x1, .int (nI 1)] s2 (fun x3 s4 => CTi mX2_noteProperty (d - 1) [.ref 1, .int p1, .int (nI 3)] s4 (fun x5 s6 => (vp_in x3 654) ∧ (CTi mX2_noteProperty (d - 1) [.ref 1, .int p1, .int (nI 6)] (sA s6 12 x3.toNatClampNeg (s6.1 12 x3.toNatClampNeg + ((-p2) * x5))) (fun x7 s8 => (vp_in (nI 4) 654) ∧ (VV mX2_moveMoney d s00 39 [some (.ref 1), some (.int p1), some (.int p2), some (.int (nI 0))] [] (sA s8 12 (nI 4).toNatClampNeg (s8.1 12 (nI 4).toNatClampNeg + (p2 * x7))) (Qv K)))))))) : CTv mX2_moveMoney d [.ref 1, .int p1, .int p2] σ K := CT_of (Q := (Qv K)) (by decide +kernel) rfl (by decide) (Nat.le_of_ble_eq_true rfl) rfl (bX2_moveMoney_0 p1 p2 hd1 h)
set_option maxRecDepth 20000 in
theorem bX2_moveMoney_39 {d : Nat} {σ : SS} {K : SS → Prop} (v1 : Int32) (v2 : Int32) (v3 : Int32)  (hd1 : 1 ≤ d) (h : CTi mX2_members (d - 1) [.ref 1] σ (fun x1 s2 => ((x1 ≤ v3) → (K s2)) ∧ ((¬ x1 ≤ v3) → (CTi mX2_memberCell (d - 1) [.int v3, .int (nI 1)] s2 (fun x3 s4 => CTi mX2_noteProperty (d - 1) [.ref 1, .int v1, .int ((nI 7) + v3)] s4 (fun x5 s6 => (vp_in x3 654) ∧ (VV mX2_moveMoney d s00 39 [some (.ref 1), some (.int v1), some (.int v2), some (.int (v3 + nI 1))] [] (sA s6 12 x3.toNatClampNeg (s6.1 12 x3.toNatClampNeg + (v2 * x5))) (Qv K)))))))) : VV mX2_moveMoney d s00 39 [some (.ref 1), some (.int v1), some (.int v2), some (.int v3)] [] σ (Qv K) := by
  refine v_iload_n (q := 40) dX2_moveMoney_39 rfl rfl ?_
  refine v_aload_n (q := 41) dX2_moveMoney_40 rfl rfl ?_
  refine v_callV (As := []) (n := 0) (q := 44) dX2_moveMoney_41 rfl lk_2_53 hd1 rfl rfl (Nat.le_of_ble_eq_true rfl) (CT.imp h (fun r s2 h => ?_))
  obtain ⟨x1, rfl, h⟩ := h
  show VV mX2_moveMoney d s00 44 [some (.ref 1), some (.int v1), some (.int v2), some (.int v3)] [.int x1, .int v3] s2 (Qv K)
  refine v_icmp_ge (t := 73) (q := 47) dX2_moveMoney_44 rfl (by decide) (fun c => ?_) (fun c => ?_)
  · have h := h.1 (c)
    exact v_ret0 dX2_moveMoney_73 rfl ⟨rfl, h⟩
  · have h := h.2 (c)
    refine v_aload_n (q := 48) dX2_moveMoney_47 rfl rfl ?_
    refine v_iload_n (q := 49) dX2_moveMoney_48 rfl rfl ?_
    refine v_iconst (v := (nI 1)) (q := 50) dX2_moveMoney_49 rfl (by decide) ?_
    refine v_callS (As := [.int v3, .int (nI 1)]) (n := 2) (q := 53) dX2_moveMoney_50 rfl lk_2_66 hd1 rfl (Nat.le_of_ble_eq_true rfl) (CT.imp h (fun r s4 h => ?_))
    obtain ⟨x3, rfl, h⟩ := h
    show VV mX2_moveMoney d s00 53 [some (.ref 1), some (.int v1), some (.int v2), some (.int v3)] [.int x3, .ref 1] s4 (Qv K)
    refine v_iload_n (q := 54) dX2_moveMoney_53 rfl rfl ?_
    refine v_aload_n (q := 55) dX2_moveMoney_54 rfl rfl ?_
    refine v_iload_n (q := 56) dX2_moveMoney_55 rfl rfl ?_
    refine v_bipush (v := (nI 7)) (q := 58) dX2_moveMoney_56 rfl (by decide) ?_
    refine v_iload_n (q := 59) dX2_moveMoney_58 rfl rfl ?_
    refine v_iadd (q := 60) dX2_moveMoney_59 rfl ?_
    refine v_callV (As := [.int v1, .int ((nI 7) + v3)]) (n := 2) (q := 63) dX2_moveMoney_60 rfl lk_2_86 hd1 rfl rfl (Nat.le_of_ble_eq_true rfl) (CT.imp h (fun r s6 h => ?_))
    obtain ⟨x5, rfl, h⟩ := h
    show VV mX2_moveMoney d s00 63 [some (.ref 1), some (.int v1), some (.int v2), some (.int v3)] [.int x5, .int v2, .int x3, .ref 1] s6 (Qv K)
    refine v_imul (q := 64) dX2_moveMoney_63 rfl ?_
    refine v_incc (q := 67) dX2_moveMoney_64 rfl lk_2_63 (Nat.le_of_ble_eq_true rfl) h.1 ?_
    have h := h.2
    refine v_iinc (y := (v3 + nI 1)) (q := 70) dX2_moveMoney_67 rfl rfl (congrArg (fun z => v3 + z) (by decide)) (by decide) rfl ?_
    refine v_goto (q := 39) dX2_moveMoney_70 (by decide) ?_
    exact h
set_option maxRecDepth 20000 in
theorem bX2_markEndings_0 {d : Nat} {σ : SS} {K : SS → Prop} (p1 : Int32)   (h : VV mX2_markEndings d s00 2 [some (.ref 1), some (.int p1), some (.int (nI 0))] [] σ (Qv K)) : VV mX2_markEndings d s00 0 [some (.ref 1), some (.int p1), none] [] σ (Qv K) := by
  refine v_iconst (v := (nI 0)) (q := 1) dX2_markEndings_0 rfl (by decide) ?_
  refine v_istore_n (q := 2) dX2_markEndings_1 rfl (by decide) rfl ?_
  exact h
theorem eX2_markEndings {d : Nat} {σ : SS} {K : SS → Prop} (p1 : Int32)   (h : VV mX2_markEndings d s00 2 [some (.ref 1), some (.int p1), some (.int (nI 0))] [] σ (Qv K)) : CTv mX2_markEndings d [.ref 1, .int p1] σ K := CT_of (Q := (Qv K)) (by decide +kernel) rfl (by decide) (Nat.le_of_ble_eq_true rfl) rfl (bX2_markEndings_0 p1  h)
set_option maxRecDepth 20000 in
theorem bX2_markEndings_2 {d : Nat} {σ : SS} {K : SS → Prop} (v1 : Int32) (v2 : Int32)  (hd1 : 1 ≤ d) (h : (((nI 20) ≤ v2) → (K σ)) ∧ ((¬ (nI 20) ≤ v2) → (((v2 = v1) → ((vp_in v2 20) ∧ (VV mX2_markEndings d s00 2 [some (.ref 1), some (.int v1), some (.int (v2 + nI 1))] [] (sA σ 13 v2.toNatClampNeg (nI 1)) (Qv K)))) ∧ ((¬ v2 = v1) → (CTi mX2_phrases (d - 1) [.ref 1] σ (fun x1 s2 => ((x1 ≤ v2) → ((vp_in v2 20) ∧ (VV mX2_markEndings d s00 2 [some (.ref 1), some (.int v1), some (.int (v2 + nI 1))] [] (sA s2 13 v2.toNatClampNeg (nI 0)) (Qv K)))) ∧ ((¬ x1 ≤ v2) → (CTi mX2_hasMarkedParent (d - 1) [.ref 1, .int v2] s2 (fun x3 s4 => ((x3 = 0) → ((vp_in v2 20) ∧ (VV mX2_markEndings d s00 2 [some (.ref 1), some (.int v1), some (.int (v2 + nI 1))] [] (sA s4 13 v2.toNatClampNeg (nI 0)) (Qv K)))) ∧ ((¬ x3 = 0) → (CTi mX2_parentOf (d - 1) [.ref 1, .int v2] s4 (fun x5 s6 => CTi mX2_likenessOf (d - 1) [.ref 1, .int v2, .int x5] s6 (fun x7 s8 => CTi mX2_settingOf (d - 1) [.ref 1, .int (nI 4)] s8 (fun x9 s10 => ((x7 < x9) → ((vp_in v2 20) ∧ (VV mX2_markEndings d s00 2 [some (.ref 1), some (.int v1), some (.int (v2 + nI 1))] [] (sA s10 13 v2.toNatClampNeg (nI 0)) (Qv K)))) ∧ ((¬ x7 < x9) → ((vp_in v2 20) ∧ (VV mX2_markEndings d s00 2 [some (.ref 1), some (.int v1), some (.int (v2 + nI 1))] [] (sA s10 13 v2.toNatClampNeg (nI 1)) (Qv K)))))))))))))))))) : VV mX2_markEndings d s00 2 [some (.ref 1), some (.int v1), some (.int v2)] [] σ (Qv K) := by
  refine v_iload_n (q := 3) dX2_markEndings_2 rfl rfl ?_
  refine v_bipush (v := (nI 20)) (q := 5) dX2_markEndings_3 rfl (by decide) ?_
  refine v_icmp_ge (t := 64) (q := 8) dX2_markEndings_5 rfl (by decide) (fun c => ?_) (fun c => ?_)
  · have h := h.1 (c)
    exact v_ret0 dX2_markEndings_64 rfl ⟨rfl, h⟩
  · have h := h.2 (c)
    refine v_aload_n (q := 9) dX2_markEndings_8 rfl rfl ?_
    refine v_get (q := 12) dX2_markEndings_9 rfl fl_2_15 rfl rfl ?_
    refine v_iload_n (q := 13) dX2_markEndings_12 rfl rfl ?_
    refine v_iload_n (q := 14) dX2_markEndings_13 rfl rfl ?_
    refine v_iload_n (q := 15) dX2_markEndings_14 rfl rfl ?_
    refine v_icmp_eq (t := 52) (q := 18) dX2_markEndings_15 rfl (by decide) (fun c => ?_) (fun c => ?_)
    · have h := h.1 (c)
      refine v_iconst (v := (nI 1)) (q := 53) dX2_markEndings_52 rfl (by decide) ?_
      refine v_goto (q := 57) dX2_markEndings_53 (by decide) ?_
      refine v_zast (q := 58) dX2_markEndings_57 rfl h.1 (by decide) ?_
      have h := h.2
      refine v_iinc (y := (v2 + nI 1)) (q := 61) dX2_markEndings_58 rfl rfl (congrArg (fun z => v2 + z) (by decide)) (by decide) rfl ?_
      refine v_goto (q := 2) dX2_markEndings_61 (by decide) ?_
      exact h
    · have h := h.2 (c)
      refine v_iload_n (q := 19) dX2_markEndings_18 rfl rfl ?_
      refine v_aload_n (q := 20) dX2_markEndings_19 rfl rfl ?_
      refine v_callV (As := []) (n := 0) (q := 23) dX2_markEndings_20 rfl lk_2_57 hd1 rfl rfl (Nat.le_of_ble_eq_true rfl) (CT.imp h (fun r s2 h => ?_))
      obtain ⟨x1, rfl, h⟩ := h
      show VV mX2_markEndings d s00 23 [some (.ref 1), some (.int v1), some (.int v2)] [.int x1, .int v2, .int v2, .ref 13] s2 (Qv K)
      refine v_icmp_ge (t := 56) (q := 26) dX2_markEndings_23 rfl (by decide) (fun c => ?_) (fun c => ?_)
      · have h := h.1 (c)
        refine v_iconst (v := (nI 0)) (q := 57) dX2_markEndings_56 rfl (by decide) ?_
        refine v_zast (q := 58) dX2_markEndings_57 rfl h.1 (by decide) ?_
        have h := h.2
        refine v_iinc (y := (v2 + nI 1)) (q := 61) dX2_markEndings_58 rfl rfl (congrArg (fun z => v2 + z) (by decide)) (by decide) rfl ?_
        refine v_goto (q := 2) dX2_markEndings_61 (by decide) ?_
        exact h
      · have h := h.2 (c)
        refine v_aload_n (q := 27) dX2_markEndings_26 rfl rfl ?_
        refine v_iload_n (q := 28) dX2_markEndings_27 rfl rfl ?_
        refine v_callV (As := [.int v2]) (n := 1) (q := 31) dX2_markEndings_28 rfl lk_2_180 hd1 rfl rfl (Nat.le_of_ble_eq_true rfl) (CT.imp h (fun r s4 h => ?_))
        obtain ⟨x3, rfl, h⟩ := h
        show VV mX2_markEndings d s00 31 [some (.ref 1), some (.int v1), some (.int v2)] [.int x3, .int v2, .ref 13] s4 (Qv K)
        refine v_if_eq (t := 56) (q := 34) dX2_markEndings_31 rfl (by decide) (fun c => ?_) (fun c => ?_)
        · have h := h.1 (c)
          refine v_iconst (v := (nI 0)) (q := 57) dX2_markEndings_56 rfl (by decide) ?_
          refine v_zast (q := 58) dX2_markEndings_57 rfl h.1 (by decide) ?_
          have h := h.2
          refine v_iinc (y := (v2 + nI 1)) (q := 61) dX2_markEndings_58 rfl rfl (congrArg (fun z => v2 + z) (by decide)) (by decide) rfl ?_
          refine v_goto (q := 2) dX2_markEndings_61 (by decide) ?_
          exact h
        · have h := h.2 (c)
          refine v_aload_n (q := 35) dX2_markEndings_34 rfl rfl ?_
          refine v_iload_n (q := 36) dX2_markEndings_35 rfl rfl ?_
          refine v_aload_n (q := 37) dX2_markEndings_36 rfl rfl ?_
          refine v_iload_n (q := 38) dX2_markEndings_37 rfl rfl ?_
          refine v_callV (As := [.int v2]) (n := 1) (q := 41) dX2_markEndings_38 rfl lk_2_177 hd1 rfl rfl (Nat.le_of_ble_eq_true rfl) (CT.imp h (fun r s6 h => ?_))
          obtain ⟨x5, rfl, h⟩ := h
          show VV mX2_markEndings d s00 41 [some (.ref 1), some (.int v1), some (.int v2)] [.int x5, .int v2, .ref 1, .int v2, .ref 13] s6 (Qv K)
          refine v_callV (As := [.int v2, .int x5]) (n := 2) (q := 44) dX2_markEndings_41 rfl lk_2_183 hd1 rfl rfl (Nat.le_of_ble_eq_true rfl) (CT.imp h (fun r s8 h => ?_))
          obtain ⟨x7, rfl, h⟩ := h
          show VV mX2_markEndings d s00 44 [some (.ref 1), some (.int v1), some (.int v2)] [.int x7, .int v2, .ref 13] s8 (Qv K)
          refine v_aload_n (q := 45) dX2_markEndings_44 rfl rfl ?_
          refine v_iconst (v := (nI 4)) (q := 46) dX2_markEndings_45 rfl (by decide) ?_
          refine v_callV (As := [.int (nI 4)]) (n := 1) (q := 49) dX2_markEndings_46 rfl lk_2_104 hd1 rfl rfl (Nat.le_of_ble_eq_true rfl) (CT.imp h (fun r s10 h => ?_))
          obtain ⟨x9, rfl, h⟩ := h
          show VV mX2_markEndings d s00 49 [some (.ref 1), some (.int v1), some (.int v2)] [.int x9, .int x7, .int v2, .ref 13] s10 (Qv K)
          refine v_icmp_lt (t := 56) (q := 52) dX2_markEndings_49 rfl (by decide) (fun c => ?_) (fun c => ?_)
          · have h := h.1 (c)
            refine v_iconst (v := (nI 0)) (q := 57) dX2_markEndings_56 rfl (by decide) ?_
            refine v_zast (q := 58) dX2_markEndings_57 rfl h.1 (by decide) ?_
            have h := h.2
            refine v_iinc (y := (v2 + nI 1)) (q := 61) dX2_markEndings_58 rfl rfl (congrArg (fun z => v2 + z) (by decide)) (by decide) rfl ?_
            refine v_goto (q := 2) dX2_markEndings_61 (by decide) ?_
            exact h
          · have h := h.2 (c)
            refine v_iconst (v := (nI 1)) (q := 53) dX2_markEndings_52 rfl (by decide) ?_
            refine v_goto (q := 57) dX2_markEndings_53 (by decide) ?_
            refine v_zast (q := 58) dX2_markEndings_57 rfl h.1 (by decide) ?_
            have h := h.2
            refine v_iinc (y := (v2 + nI 1)) (q := 61) dX2_markEndings_58 rfl rfl (congrArg (fun z => v2 + z) (by decide)) (by decide) rfl ?_
            refine v_goto (q := 2) dX2_markEndings_61 (by decide) ?_
            exact h
set_option maxRecDepth 20000 in
theorem bX2_isMarked_0 {d : Nat} {σ : SS} {K : Int32 → SS → Prop} (p1 : Int32)   (h : ((p1 < 0) → (K (nI 0) σ)) ∧ ((¬ p1 < 0) → ((((nI 20) ≤ p1) → (K (nI 0) σ)) ∧ ((¬ (nI 20) ≤ p1) → ((vp_in p1 20) ∧ ((((σ.1 13 p1.toNatClampNeg) = 0) → (K (nI 0) σ)) ∧ ((¬ (σ.1 13 p1.toNatClampNeg) = 0) → (K (nI 1) σ)))))))) : VV mX2_isMarked d s00 0 [some (.ref 1), some (.int p1)] [] σ (Qi K) := by
  refine v_iload_n (q := 1) dX2_isMarked_0 rfl rfl ?_
  refine v_if_lt (t := 23) (q := 4) dX2_isMarked_1 rfl (by decide) (fun c => ?_) (fun c => ?_)
  · have h := h.1 (c)
    refine v_iconst (v := (nI 0)) (q := 24) dX2_isMarked_23 rfl (by decide) ?_
    exact v_zret dX2_isMarked_24 rfl (by decide) ⟨_, rfl, h⟩
  · have h := h.2 (c)
    refine v_iload_n (q := 5) dX2_isMarked_4 rfl rfl ?_
    refine v_bipush (v := (nI 20)) (q := 7) dX2_isMarked_5 rfl (by decide) ?_
    refine v_icmp_ge (t := 23) (q := 10) dX2_isMarked_7 rfl (by decide) (fun c => ?_) (fun c => ?_)
    · have h := h.1 (c)
      refine v_iconst (v := (nI 0)) (q := 24) dX2_isMarked_23 rfl (by decide) ?_
      exact v_zret dX2_isMarked_24 rfl (by decide) ⟨_, rfl, h⟩
    · have h := h.2 (c)
      refine v_aload_n (q := 11) dX2_isMarked_10 rfl rfl ?_
      refine v_get (q := 14) dX2_isMarked_11 rfl fl_2_15 rfl rfl ?_
      refine v_iload_n (q := 15) dX2_isMarked_14 rfl rfl ?_
      refine v_zald (q := 16) dX2_isMarked_15 rfl h.1 ?_
      have h := h.2
      refine v_if_eq (t := 23) (q := 19) dX2_isMarked_16 rfl (by decide) (fun c => ?_) (fun c => ?_)
      · have h := h.1 (c)
        refine v_iconst (v := (nI 0)) (q := 24) dX2_isMarked_23 rfl (by decide) ?_
        exact v_zret dX2_isMarked_24 rfl (by decide) ⟨_, rfl, h⟩
      · have h := h.2 (c)
        refine v_iconst (v := (nI 1)) (q := 20) dX2_isMarked_19 rfl (by decide) ?_
        refine v_goto (q := 24) dX2_isMarked_20 (by decide) ?_
        exact v_zret dX2_isMarked_24 rfl (by decide) ⟨_, rfl, h⟩
theorem eX2_isMarked {d : Nat} {σ : SS} {K : Int32 → SS → Prop} (p1 : Int32)   (h : ((p1 < 0) → (K (nI 0) σ)) ∧ ((¬ p1 < 0) → ((((nI 20) ≤ p1) → (K (nI 0) σ)) ∧ ((¬ (nI 20) ≤ p1) → ((vp_in p1 20) ∧ ((((σ.1 13 p1.toNatClampNeg) = 0) → (K (nI 0) σ)) ∧ ((¬ (σ.1 13 p1.toNatClampNeg) = 0) → (K (nI 1) σ)))))))) : CTi mX2_isMarked d [.ref 1, .int p1] σ K := CT_of (Q := (Qi K)) (by decide +kernel) rfl (by decide) (Nat.le_of_ble_eq_true rfl) rfl (bX2_isMarked_0 p1  h)
set_option maxRecDepth 20000 in
theorem bX2_hasMarkedParent_0 {d : Nat} {σ : SS} {K : Int32 → SS → Prop} (p1 : Int32)  (hd1 : 1 ≤ d) (h : CTi mX2_isLive (d - 1) [.ref 1, .int p1] σ (fun x1 s2 => ((x1 = 0) → (K (nI 0) s2)) ∧ ((¬ x1 = 0) → (CTi mX2_parentOf (d - 1) [.ref 1, .int p1] s2 (fun x3 s4 => CTi mX2_isMarked (d - 1) [.ref 1, .int x3] s4 (fun x5 s6 => ((x5 = 0) → (K (nI 0) s6)) ∧ ((¬ x5 = 0) → (K (nI 1) s6)))))))) : VV mX2_hasMarkedParent d s00 0 [some (.ref 1), some (.int p1)] [] σ (Qi K) := by
  refine v_aload_n (q := 1) dX2_hasMarkedParent_0 rfl rfl ?_
  refine v_iload_n (q := 2) dX2_hasMarkedParent_1 rfl rfl ?_
  refine v_callV (As := [.int p1]) (n := 1) (q := 5) dX2_hasMarkedParent_2 rfl lk_2_79 hd1 rfl rfl (Nat.le_of_ble_eq_true rfl) (CT.imp h (fun r s2 h => ?_))
  obtain ⟨x1, rfl, h⟩ := h
  show VV mX2_hasMarkedParent d s00 5 [some (.ref 1), some (.int p1)] [.int x1] s2 (Qi K)
  refine v_if_eq (t := 24) (q := 8) dX2_hasMarkedParent_5 rfl (by decide) (fun c => ?_) (fun c => ?_)
  · have h := h.1 (c)
    refine v_iconst (v := (nI 0)) (q := 25) dX2_hasMarkedParent_24 rfl (by decide) ?_
    exact v_zret dX2_hasMarkedParent_25 rfl (by decide) ⟨_, rfl, h⟩
  · have h := h.2 (c)
    refine v_aload_n (q := 9) dX2_hasMarkedParent_8 rfl rfl ?_
    refine v_aload_n (q := 10) dX2_hasMarkedParent_9 rfl rfl ?_
    refine v_iload_n (q := 11) dX2_hasMarkedParent_10 rfl rfl ?_
    refine v_callV (As := [.int p1]) (n := 1) (q := 14) dX2_hasMarkedParent_11 rfl lk_2_177 hd1 rfl rfl (Nat.le_of_ble_eq_true rfl) (CT.imp h (fun r s4 h => ?_))
    obtain ⟨x3, rfl, h⟩ := h
    show VV mX2_hasMarkedParent d s00 14 [some (.ref 1), some (.int p1)] [.int x3, .ref 1] s4 (Qi K)
    refine v_callV (As := [.int x3]) (n := 1) (q := 17) dX2_hasMarkedParent_14 rfl lk_2_186 hd1 rfl rfl (Nat.le_of_ble_eq_true rfl) (CT.imp h (fun r s6 h => ?_))
    obtain ⟨x5, rfl, h⟩ := h
    show VV mX2_hasMarkedParent d s00 17 [some (.ref 1), some (.int p1)] [.int x5] s6 (Qi K)
    refine v_if_eq (t := 24) (q := 20) dX2_hasMarkedParent_17 rfl (by decide) (fun c => ?_) (fun c => ?_)
    · have h := h.1 (c)
      refine v_iconst (v := (nI 0)) (q := 25) dX2_hasMarkedParent_24 rfl (by decide) ?_
      exact v_zret dX2_hasMarkedParent_25 rfl (by decide) ⟨_, rfl, h⟩
    · have h := h.2 (c)
      refine v_iconst (v := (nI 1)) (q := 21) dX2_hasMarkedParent_20 rfl (by decide) ?_
      refine v_goto (q := 25) dX2_hasMarkedParent_21 (by decide) ?_
      exact v_zret dX2_hasMarkedParent_25 rfl (by decide) ⟨_, rfl, h⟩
theorem eX2_hasMarkedParent {d : Nat} {σ : SS} {K : Int32 → SS → Prop} (p1 : Int32)  (hd1 : 1 ≤ d) (h : CTi mX2_isLive (d - 1) [.ref 1, .int p1] σ (fun x1 s2 => ((x1 = 0) → (K (nI 0) s2)) ∧ ((¬ x1 = 0) → (CTi mX2_parentOf (d - 1) [.ref 1, .int p1] s2 (fun x3 s4 => CTi mX2_isMarked (d - 1) [.ref 1, .int x3] s4 (fun x5 s6 => ((x5 = 0) → (K (nI 0) s6)) ∧ ((¬ x5 = 0) → (K (nI 1) s6)))))))) : CTi mX2_hasMarkedParent d [.ref 1, .int p1] σ K := CT_of (Q := (Qi K)) (by decide +kernel) rfl (by decide) (Nat.le_of_ble_eq_true rfl) rfl (bX2_hasMarkedParent_0 p1 hd1 h)
set_option maxRecDepth 20000 in
theorem bX2_endMarked_0 {d : Nat} {σ : SS} {K : Int32 → SS → Prop}    (h : VV mX2_endMarked d s00 4 [some (.ref 1), some (.int (nI 0)), some (.int (nI 0))] [] σ (Qi K)) : VV mX2_endMarked d s00 0 [some (.ref 1), none, none] [] σ (Qi K) := by
  refine v_iconst (v := (nI 0)) (q := 1) dX2_endMarked_0 rfl (by decide) ?_
  refine v_istore_n (q := 2) dX2_endMarked_1 rfl (by decide) rfl ?_
  refine v_iconst (v := (nI 0)) (q := 3) dX2_endMarked_2 rfl (by decide) ?_
  refine v_istore_n (q := 4) dX2_endMarked_3 rfl (by decide) rfl ?_
  exact h
theorem eX2_endMarked {d : Nat} {σ : SS} {K : Int32 → SS → Prop}    (h : VV mX2_endMarked d s00 4 [some (.ref 1), some (.int (nI 0)), some (.int (nI 0))] [] σ (Qi K)) : CTi mX2_endMarked d [.ref 1] σ K := CT_of (Q := (Qi K)) (by decide +kernel) rfl (by decide) (Nat.le_of_ble_eq_true rfl) rfl (bX2_endMarked_0   h)
set_option maxRecDepth 20000 in
theorem bX2_endMarked_4 {d : Nat} {σ : SS} {K : Int32 → SS → Prop} (v1 : Int32) (v2 : Int32)  (hd1 : 1 ≤ d) (h : CTi mX2_phrases (d - 1) [.ref 1] σ (fun x1 s2 => ((x1 ≤ v2) → (K v1 s2)) ∧ ((¬ x1 ≤ v2) → (CTi mX2_isMarked (d - 1) [.ref 1, .int v2] s2 (fun x3 s4 => ((x3 = 0) → (CTi mX2_hasMarkedParent (d - 1) [.ref 1, .int v2] s4 (fun x5 s6 => ((x5 = 0) → (VV mX2_endMarked d s00 4 [some (.ref 1), some (.int v1), some (.int (v2 + nI 1))] [] s6 (Qi K))) ∧ ((¬ x5 = 0) → (CTi mX2_phraseCell (d - 1) [.int v2, .int (nI 3)] s6 (fun x7 s8 => (vp_in x7 654) ∧ (VV mX2_endMarked d s00 4 [some (.ref 1), some (.int v1), some (.int (v2 + nI 1))] [] (sA s8 12 x7.toNatClampNeg (-1000000)) (Qi K)))))))) ∧ ((¬ x3 = 0) → (CTi mX2_phraseCell (d - 1) [.int v2, .int (nI 4)] s4 (fun x9 s10 => (vp_in x9 654) ∧ (VV mX2_endMarked d s00 4 [some (.ref 1), some (.int (v1 + nI 1)), some (.int (v2 + nI 1))] [] (sA s10 12 x9.toNatClampNeg (nI 0)) (Qi K)))))))))) : VV mX2_endMarked d s00 4 [some (.ref 1), some (.int v1), some (.int v2)] [] σ (Qi K) := by
  refine v_iload_n (q := 5) dX2_endMarked_4 rfl rfl ?_
  refine v_aload_n (q := 6) dX2_endMarked_5 rfl rfl ?_
  refine v_callV (As := []) (n := 0) (q := 9) dX2_endMarked_6 rfl lk_2_57 hd1 rfl rfl (Nat.le_of_ble_eq_true rfl) (CT.imp h (fun r s2 h => ?_))
  obtain ⟨x1, rfl, h⟩ := h
  show VV mX2_endMarked d s00 9 [some (.ref 1), some (.int v1), some (.int v2)] [.int x1, .int v2] s2 (Qi K)
  refine v_icmp_ge (t := 61) (q := 12) dX2_endMarked_9 rfl (by decide) (fun c => ?_) (fun c => ?_)
  · have h := h.1 (c)
    refine v_iload_n (q := 62) dX2_endMarked_61 rfl rfl ?_
    exact v_iret dX2_endMarked_62 rfl ⟨_, rfl, h⟩
  · have h := h.2 (c)
    refine v_aload_n (q := 13) dX2_endMarked_12 rfl rfl ?_
    refine v_iload_n (q := 14) dX2_endMarked_13 rfl rfl ?_
    refine v_callV (As := [.int v2]) (n := 1) (q := 17) dX2_endMarked_14 rfl lk_2_186 hd1 rfl rfl (Nat.le_of_ble_eq_true rfl) (CT.imp h (fun r s4 h => ?_))
    obtain ⟨x3, rfl, h⟩ := h
    show VV mX2_endMarked d s00 17 [some (.ref 1), some (.int v1), some (.int v2)] [.int x3] s4 (Qi K)
    refine v_if_eq (t := 36) (q := 20) dX2_endMarked_17 rfl (by decide) (fun c => ?_) (fun c => ?_)
    · have h := h.1 (c)
      refine v_aload_n (q := 37) dX2_endMarked_36 rfl rfl ?_
      refine v_iload_n (q := 38) dX2_endMarked_37 rfl rfl ?_
      refine v_callV (As := [.int v2]) (n := 1) (q := 41) dX2_endMarked_38 rfl lk_2_180 hd1 rfl rfl (Nat.le_of_ble_eq_true rfl) (CT.imp h (fun r s6 h => ?_))
      obtain ⟨x5, rfl, h⟩ := h
      show VV mX2_endMarked d s00 41 [some (.ref 1), some (.int v1), some (.int v2)] [.int x5] s6 (Qi K)
      refine v_if_eq (t := 55) (q := 44) dX2_endMarked_41 rfl (by decide) (fun c => ?_) (fun c => ?_)
      · have h := h.1 (c)
        refine v_iinc (y := (v2 + nI 1)) (q := 58) dX2_endMarked_55 rfl rfl (congrArg (fun z => v2 + z) (by decide)) (by decide) rfl ?_
        refine v_goto (q := 4) dX2_endMarked_58 (by decide) ?_
        exact h
      · have h := h.2 (c)
        refine v_aload_n (q := 45) dX2_endMarked_44 rfl rfl ?_
        refine v_iload_n (q := 46) dX2_endMarked_45 rfl rfl ?_
        refine v_iconst (v := (nI 3)) (q := 47) dX2_endMarked_46 rfl (by decide) ?_
        refine v_callS (As := [.int v2, .int (nI 3)]) (n := 2) (q := 50) dX2_endMarked_47 rfl lk_2_110 hd1 rfl (Nat.le_of_ble_eq_true rfl) (CT.imp h (fun r s8 h => ?_))
        obtain ⟨x7, rfl, h⟩ := h
        show VV mX2_endMarked d s00 50 [some (.ref 1), some (.int v1), some (.int v2)] [.int x7, .ref 1] s8 (Qi K)
        refine v_ldc (v := (-1000000)) (q := 52) dX2_endMarked_50 rfl cn_2_176 ?_
        refine v_putc (q := 55) dX2_endMarked_52 rfl lk_2_49 (Nat.le_of_ble_eq_true rfl) h.1 ?_
        have h := h.2
        refine v_iinc (y := (v2 + nI 1)) (q := 58) dX2_endMarked_55 rfl rfl (congrArg (fun z => v2 + z) (by decide)) (by decide) rfl ?_
        refine v_goto (q := 4) dX2_endMarked_58 (by decide) ?_
        exact h
    · have h := h.2 (c)
      refine v_aload_n (q := 21) dX2_endMarked_20 rfl rfl ?_
      refine v_iload_n (q := 22) dX2_endMarked_21 rfl rfl ?_
      refine v_iconst (v := (nI 4)) (q := 23) dX2_endMarked_22 rfl (by decide) ?_
      refine v_callS (As := [.int v2, .int (nI 4)]) (n := 2) (q := 26) dX2_endMarked_23 rfl lk_2_110 hd1 rfl (Nat.le_of_ble_eq_true rfl) (CT.imp h (fun r s10 h => ?_))
      obtain ⟨x9, rfl, h⟩ := h
      show VV mX2_endMarked d s00 26 [some (.ref 1), some (.int v1), some (.int v2)] [.int x9, .ref 1] s10 (Qi K)
      refine v_iconst (v := (nI 0)) (q := 27) dX2_endMarked_26 rfl (by decide) ?_
      refine v_putc (q := 30) dX2_endMarked_27 rfl lk_2_49 (Nat.le_of_ble_eq_true rfl) h.1 ?_
      have h := h.2
      refine v_iinc (y := (v1 + nI 1)) (q := 33) dX2_endMarked_30 rfl rfl (congrArg (fun z => v1 + z) (by decide)) (by decide) rfl ?_
      refine v_goto (q := 55) dX2_endMarked_33 (by decide) ?_
      refine v_iinc (y := (v2 + nI 1)) (q := 58) dX2_endMarked_55 rfl rfl (congrArg (fun z => v2 + z) (by decide)) (by decide) rfl ?_
      refine v_goto (q := 4) dX2_endMarked_58 (by decide) ?_
      exact h
set_option maxRecDepth 20000 in
theorem bX2_isOwed_0 {d : Nat} {σ : SS} {K : Int32 → SS → Prop} (p1 : Int32)  (hd1 : 1 ≤ d) (h : CTi mX2_isPaidBack (d - 1) [.ref 1, .int p1] σ (fun x1 s2 => ((¬ x1 = 0) → (K (nI 0) s2)) ∧ ((x1 = 0) → (CTi mX2_noteProperty (d - 1) [.ref 1, .int p1, .int (nI 1)] s2 (fun x3 s4 => CTi mX2_isMarked (d - 1) [.ref 1, .int x3] s4 (fun x5 s6 => ((x5 = 0) → (K (nI 0) s6)) ∧ ((¬ x5 = 0) → (CTi mX2_noteProperty (d - 1) [.ref 1, .int p1, .int (nI 4)] s6 (fun x7 s8 => CTi mX2_tick (d - 1) [.ref 1] s8 (fun x9 s10 => CTi mX2_settingOf (d - 1) [.ref 1, .int (nI 3)] s10 (fun x11 s12 => ((x7 < (x9 - x11)) → (K (nI 0) s12)) ∧ ((¬ x7 < (x9 - x11)) → (K (nI 1) s12))))))))))))) : VV mX2_isOwed d s00 0 [some (.ref 1), some (.int p1)] [] σ (Qi K) := by
  refine v_aload_n (q := 1) dX2_isOwed_0 rfl rfl ?_
  refine v_iload_n (q := 2) dX2_isOwed_1 rfl rfl ?_
  refine v_callV (As := [.int p1]) (n := 1) (q := 5) dX2_isOwed_2 rfl lk_2_89 hd1 rfl rfl (Nat.le_of_ble_eq_true rfl) (CT.imp h (fun r s2 h => ?_))
  obtain ⟨x1, rfl, h⟩ := h
  show VV mX2_isOwed d s00 5 [some (.ref 1), some (.int p1)] [.int x1] s2 (Qi K)
  refine v_if_ne (t := 44) (q := 8) dX2_isOwed_5 rfl (by decide) (fun c => ?_) (fun c => ?_)
  · have h := h.1 (c)
    refine v_iconst (v := (nI 0)) (q := 45) dX2_isOwed_44 rfl (by decide) ?_
    exact v_zret dX2_isOwed_45 rfl (by decide) ⟨_, rfl, h⟩
  · have h := h.2 (c)
    refine v_aload_n (q := 9) dX2_isOwed_8 rfl rfl ?_
    refine v_aload_n (q := 10) dX2_isOwed_9 rfl rfl ?_
    refine v_iload_n (q := 11) dX2_isOwed_10 rfl rfl ?_
    refine v_iconst (v := (nI 1)) (q := 12) dX2_isOwed_11 rfl (by decide) ?_
    refine v_callV (As := [.int p1, .int (nI 1)]) (n := 2) (q := 15) dX2_isOwed_12 rfl lk_2_86 hd1 rfl rfl (Nat.le_of_ble_eq_true rfl) (CT.imp h (fun r s4 h => ?_))
    obtain ⟨x3, rfl, h⟩ := h
    show VV mX2_isOwed d s00 15 [some (.ref 1), some (.int p1)] [.int x3, .ref 1] s4 (Qi K)
    refine v_callV (As := [.int x3]) (n := 1) (q := 18) dX2_isOwed_15 rfl lk_2_186 hd1 rfl rfl (Nat.le_of_ble_eq_true rfl) (CT.imp h (fun r s6 h => ?_))
    obtain ⟨x5, rfl, h⟩ := h
    show VV mX2_isOwed d s00 18 [some (.ref 1), some (.int p1)] [.int x5] s6 (Qi K)
    refine v_if_eq (t := 44) (q := 21) dX2_isOwed_18 rfl (by decide) (fun c => ?_) (fun c => ?_)
    · have h := h.1 (c)
      refine v_iconst (v := (nI 0)) (q := 45) dX2_isOwed_44 rfl (by decide) ?_
      exact v_zret dX2_isOwed_45 rfl (by decide) ⟨_, rfl, h⟩
    · have h := h.2 (c)
      refine v_aload_n (q := 22) dX2_isOwed_21 rfl rfl ?_
      refine v_iload_n (q := 23) dX2_isOwed_22 rfl rfl ?_
      refine v_iconst (v := (nI 4)) (q := 24) dX2_isOwed_23 rfl (by decide) ?_
      refine v_callV (As := [.int p1, .int (nI 4)]) (n := 2) (q := 27) dX2_isOwed_24 rfl lk_2_86 hd1 rfl rfl (Nat.le_of_ble_eq_true rfl) (CT.imp h (fun r s8 h => ?_))
      obtain ⟨x7, rfl, h⟩ := h
      show VV mX2_isOwed d s00 27 [some (.ref 1), some (.int p1)] [.int x7] s8 (Qi K)
      refine v_aload_n (q := 28) dX2_isOwed_27 rfl rfl ?_
      refine v_callV (As := []) (n := 0) (q := 31) dX2_isOwed_28 rfl lk_2_98 hd1 rfl rfl (Nat.le_of_ble_eq_true rfl) (CT.imp h (fun r s10 h => ?_))
      obtain ⟨x9, rfl, h⟩ := h
      show VV mX2_isOwed d s00 31 [some (.ref 1), some (.int p1)] [.int x9, .int x7] s10 (Qi K)
      refine v_aload_n (q := 32) dX2_isOwed_31 rfl rfl ?_
      refine v_iconst (v := (nI 3)) (q := 33) dX2_isOwed_32 rfl (by decide) ?_
      refine v_callV (As := [.int (nI 3)]) (n := 1) (q := 36) dX2_isOwed_33 rfl lk_2_104 hd1 rfl rfl (Nat.le_of_ble_eq_true rfl) (CT.imp h (fun r s12 h => ?_))
      obtain ⟨x11, rfl, h⟩ := h
      show VV mX2_isOwed d s00 36 [some (.ref 1), some (.int p1)] [.int x11, .int x9, .int x7] s12 (Qi K)
      refine v_isub (q := 37) dX2_isOwed_36 rfl ?_
      refine v_icmp_lt (t := 44) (q := 40) dX2_isOwed_37 rfl (by decide) (fun c => ?_) (fun c => ?_)
      · have h := h.1 (c)
        refine v_iconst (v := (nI 0)) (q := 45) dX2_isOwed_44 rfl (by decide) ?_
        exact v_zret dX2_isOwed_45 rfl (by decide) ⟨_, rfl, h⟩
      · have h := h.2 (c)
        refine v_iconst (v := (nI 1)) (q := 41) dX2_isOwed_40 rfl (by decide) ?_
        refine v_goto (q := 45) dX2_isOwed_41 (by decide) ?_
        exact v_zret dX2_isOwed_45 rfl (by decide) ⟨_, rfl, h⟩
theorem eX2_isOwed {d : Nat} {σ : SS} {K : Int32 → SS → Prop} (p1 : Int32)  (hd1 : 1 ≤ d) (h : CTi mX2_isPaidBack (d - 1) [.ref 1, .int p1] σ (fun x1 s2 => ((¬ x1 = 0) → (K (nI 0) s2)) ∧ ((x1 = 0) → (CTi mX2_noteProperty (d - 1) [.ref 1, .int p1, .int (nI 1)] s2 (fun x3 s4 => CTi mX2_isMarked (d - 1) [.ref 1, .int x3] s4 (fun x5 s6 => ((x5 = 0) → (K (nI 0) s6)) ∧ ((¬ x5 = 0) → (CTi mX2_noteProperty (d - 1) [.ref 1, .int p1, .int (nI 4)] s6 (fun x7 s8 => CTi mX2_tick (d - 1) [.ref 1] s8 (fun x9 s10 => CTi mX2_settingOf (d - 1) [.ref 1, .int (nI 3)] s10 (fun x11 s12 => ((x7 < (x9 - x11)) → (K (nI 0) s12)) ∧ ((¬ x7 < (x9 - x11)) → (K (nI 1) s12))))))))))))) : CTi mX2_isOwed d [.ref 1, .int p1] σ K := CT_of (Q := (Qi K)) (by decide +kernel) rfl (by decide) (Nat.le_of_ble_eq_true rfl) rfl (bX2_isOwed_0 p1 hd1 h)
set_option maxRecDepth 20000 in
theorem bX2_owedForMarked_0 {d : Nat} {σ : SS} {K : Int32 → SS → Prop}    (h : VV mX2_owedForMarked d s00 4 [some (.ref 1), some (.int (nI 0)), some (.int (nI 0))] [] σ (Qi K)) : VV mX2_owedForMarked d s00 0 [some (.ref 1), none, none] [] σ (Qi K) := by
  refine v_iconst (v := (nI 0)) (q := 1) dX2_owedForMarked_0 rfl (by decide) ?_
  refine v_istore_n (q := 2) dX2_owedForMarked_1 rfl (by decide) rfl ?_
  refine v_iconst (v := (nI 0)) (q := 3) dX2_owedForMarked_2 rfl (by decide) ?_
  refine v_istore_n (q := 4) dX2_owedForMarked_3 rfl (by decide) rfl ?_
  exact h
theorem eX2_owedForMarked {d : Nat} {σ : SS} {K : Int32 → SS → Prop}    (h : VV mX2_owedForMarked d s00 4 [some (.ref 1), some (.int (nI 0)), some (.int (nI 0))] [] σ (Qi K)) : CTi mX2_owedForMarked d [.ref 1] σ K := CT_of (Q := (Qi K)) (by decide +kernel) rfl (by decide) (Nat.le_of_ble_eq_true rfl) rfl (bX2_owedForMarked_0   h)
set_option maxRecDepth 20000 in
theorem bX2_owedForMarked_4 {d : Nat} {σ : SS} {K : Int32 → SS → Prop} (v1 : Int32) (v2 : Int32)  (hd1 : 1 ≤ d) (h : CTi mX2_notes (d - 1) [.ref 1] σ (fun x1 s2 => ((x1 ≤ v2) → (K v1 s2)) ∧ ((¬ x1 ≤ v2) → (CTi mX2_isOwed (d - 1) [.ref 1, .int v2] s2 (fun x3 s4 => ((x3 = 0) → (VV mX2_owedForMarked d s00 4 [some (.ref 1), some (.int v1), some (.int (v2 + nI 1))] [] s4 (Qi K))) ∧ ((¬ x3 = 0) → (CTi mX2_noteProperty (d - 1) [.ref 1, .int v2, .int (nI 3)] s4 (fun x5 s6 => VV mX2_owedForMarked d s00 4 [some (.ref 1), some (.int (v1 + x5)), some (.int (v2 + nI 1))] [] s6 (Qi K))))))))) : VV mX2_owedForMarked d s00 4 [some (.ref 1), some (.int v1), some (.int v2)] [] σ (Qi K) := by
  refine v_iload_n (q := 5) dX2_owedForMarked_4 rfl rfl ?_
  refine v_aload_n (q := 6) dX2_owedForMarked_5 rfl rfl ?_
  refine v_callV (As := []) (n := 0) (q := 9) dX2_owedForMarked_6 rfl lk_2_60 hd1 rfl rfl (Nat.le_of_ble_eq_true rfl) (CT.imp h (fun r s2 h => ?_))
  obtain ⟨x1, rfl, h⟩ := h
  show VV mX2_owedForMarked d s00 9 [some (.ref 1), some (.int v1), some (.int v2)] [.int x1, .int v2] s2 (Qi K)
  refine v_icmp_ge (t := 35) (q := 12) dX2_owedForMarked_9 rfl (by decide) (fun c => ?_) (fun c => ?_)
  · have h := h.1 (c)
    refine v_iload_n (q := 36) dX2_owedForMarked_35 rfl rfl ?_
    exact v_iret dX2_owedForMarked_36 rfl ⟨_, rfl, h⟩
  · have h := h.2 (c)
    refine v_aload_n (q := 13) dX2_owedForMarked_12 rfl rfl ?_
    refine v_iload_n (q := 14) dX2_owedForMarked_13 rfl rfl ?_
    refine v_callV (As := [.int v2]) (n := 1) (q := 17) dX2_owedForMarked_14 rfl lk_2_189 hd1 rfl rfl (Nat.le_of_ble_eq_true rfl) (CT.imp h (fun r s4 h => ?_))
    obtain ⟨x3, rfl, h⟩ := h
    show VV mX2_owedForMarked d s00 17 [some (.ref 1), some (.int v1), some (.int v2)] [.int x3] s4 (Qi K)
    refine v_if_eq (t := 29) (q := 20) dX2_owedForMarked_17 rfl (by decide) (fun c => ?_) (fun c => ?_)
    · have h := h.1 (c)
      refine v_iinc (y := (v2 + nI 1)) (q := 32) dX2_owedForMarked_29 rfl rfl (congrArg (fun z => v2 + z) (by decide)) (by decide) rfl ?_
      refine v_goto (q := 4) dX2_owedForMarked_32 (by decide) ?_
      exact h
    · have h := h.2 (c)
      refine v_iload_n (q := 21) dX2_owedForMarked_20 rfl rfl ?_
      refine v_aload_n (q := 22) dX2_owedForMarked_21 rfl rfl ?_
      refine v_iload_n (q := 23) dX2_owedForMarked_22 rfl rfl ?_
      refine v_iconst (v := (nI 3)) (q := 24) dX2_owedForMarked_23 rfl (by decide) ?_
      refine v_callV (As := [.int v2, .int (nI 3)]) (n := 2) (q := 27) dX2_owedForMarked_24 rfl lk_2_86 hd1 rfl rfl (Nat.le_of_ble_eq_true rfl) (CT.imp h (fun r s6 h => ?_))
      obtain ⟨x5, rfl, h⟩ := h
      show VV mX2_owedForMarked d s00 27 [some (.ref 1), some (.int v1), some (.int v2)] [.int x5, .int v1] s6 (Qi K)
      refine v_iadd (q := 28) dX2_owedForMarked_27 rfl ?_
      refine v_istore_n (q := 29) dX2_owedForMarked_28 rfl (by decide) rfl ?_
      refine v_iinc (y := (v2 + nI 1)) (q := 32) dX2_owedForMarked_29 rfl rfl (congrArg (fun z => v2 + z) (by decide)) (by decide) rfl ?_
      refine v_goto (q := 4) dX2_owedForMarked_32 (by decide) ?_
      exact h
set_option maxRecDepth 20000 in
theorem bX2_payBackMarked_0 {d : Nat} {σ : SS} {K : SS → Prop}    (h : VV mX2_payBackMarked d s00 2 [some (.ref 1), some (.int (nI 0))] [] σ (Qv K)) : VV mX2_payBackMarked d s00 0 [some (.ref 1), none] [] σ (Qv K) := by
  refine v_iconst (v := (nI 0)) (q := 1) dX2_payBackMarked_0 rfl (by decide) ?_
  refine v_istore_n (q := 2) dX2_payBackMarked_1 rfl (by decide) rfl ?_
  exact h
theorem eX2_payBackMarked {d : Nat} {σ : SS} {K : SS → Prop}    (h : VV mX2_payBackMarked d s00 2 [some (.ref 1), some (.int (nI 0))] [] σ (Qv K)) : CTv mX2_payBackMarked d [.ref 1] σ K := CT_of (Q := (Qv K)) (by decide +kernel) rfl (by decide) (Nat.le_of_ble_eq_true rfl) rfl (bX2_payBackMarked_0   h)
set_option maxRecDepth 20000 in
theorem bX2_payBackMarked_2 {d : Nat} {σ : SS} {K : SS → Prop} (v1 : Int32)  (hd1 : 1 ≤ d) (h : CTi mX2_notes (d - 1) [.ref 1] σ (fun x1 s2 => ((x1 ≤ v1) → (K s2)) ∧ ((¬ x1 ≤ v1) → (CTi mX2_isOwed (d - 1) [.ref 1, .int v1] s2 (fun x3 s4 => ((x3 = 0) → (VV mX2_payBackMarked d s00 2 [some (.ref 1), some (.int (v1 + nI 1))] [] s4 (Qv K))) ∧ ((¬ x3 = 0) → (CTv mX2_moveMoney (d - 1) [.ref 1, .int v1, .int (-1)] s4 (fun s6 => CTi mX2_noteCell (d - 1) [.int v1, .int (nI 5)] s6 (fun x7 s8 => (vp_in x7 654) ∧ (VV mX2_payBackMarked d s00 2 [some (.ref 1), some (.int (v1 + nI 1))] [] (sA s8 12 x7.toNatClampNeg (nI 1)) (Qv K))))))))))) : VV mX2_payBackMarked d s00 2 [some (.ref 1), some (.int v1)] [] σ (Qv K) := by
  refine v_iload_n (q := 3) dX2_payBackMarked_2 rfl rfl ?_
  refine v_aload_n (q := 4) dX2_payBackMarked_3 rfl rfl ?_
  refine v_callV (As := []) (n := 0) (q := 7) dX2_payBackMarked_4 rfl lk_2_60 hd1 rfl rfl (Nat.le_of_ble_eq_true rfl) (CT.imp h (fun r s2 h => ?_))
  obtain ⟨x1, rfl, h⟩ := h
  show VV mX2_payBackMarked d s00 7 [some (.ref 1), some (.int v1)] [.int x1, .int v1] s2 (Qv K)
  refine v_icmp_ge (t := 40) (q := 10) dX2_payBackMarked_7 rfl (by decide) (fun c => ?_) (fun c => ?_)
  · have h := h.1 (c)
    exact v_ret0 dX2_payBackMarked_40 rfl ⟨rfl, h⟩
  · have h := h.2 (c)
    refine v_aload_n (q := 11) dX2_payBackMarked_10 rfl rfl ?_
    refine v_iload_n (q := 12) dX2_payBackMarked_11 rfl rfl ?_
    refine v_callV (As := [.int v1]) (n := 1) (q := 15) dX2_payBackMarked_12 rfl lk_2_189 hd1 rfl rfl (Nat.le_of_ble_eq_true rfl) (CT.imp h (fun r s4 h => ?_))
    obtain ⟨x3, rfl, h⟩ := h
    show VV mX2_payBackMarked d s00 15 [some (.ref 1), some (.int v1)] [.int x3] s4 (Qv K)
    refine v_if_eq (t := 34) (q := 18) dX2_payBackMarked_15 rfl (by decide) (fun c => ?_) (fun c => ?_)
    · have h := h.1 (c)
      refine v_iinc (y := (v1 + nI 1)) (q := 37) dX2_payBackMarked_34 rfl rfl (congrArg (fun z => v1 + z) (by decide)) (by decide) rfl ?_
      refine v_goto (q := 2) dX2_payBackMarked_37 (by decide) ?_
      exact h
    · have h := h.2 (c)
      refine v_aload_n (q := 19) dX2_payBackMarked_18 rfl rfl ?_
      refine v_iload_n (q := 20) dX2_payBackMarked_19 rfl rfl ?_
      refine v_iconst (v := (-1)) (q := 21) dX2_payBackMarked_20 rfl (by decide) ?_
      refine v_callV (As := [.int v1, .int (-1)]) (n := 2) (q := 24) dX2_payBackMarked_21 rfl lk_2_173 hd1 rfl rfl (Nat.le_of_ble_eq_true rfl) (CT.imp h (fun r s6 h => ?_))
      obtain ⟨rfl, h⟩ := h
      show VV mX2_payBackMarked d s00 24 [some (.ref 1), some (.int v1)] [] s6 (Qv K)
      refine v_aload_n (q := 25) dX2_payBackMarked_24 rfl rfl ?_
      refine v_iload_n (q := 26) dX2_payBackMarked_25 rfl rfl ?_
      refine v_iconst (v := (nI 5)) (q := 27) dX2_payBackMarked_26 rfl (by decide) ?_
      refine v_callS (As := [.int v1, .int (nI 5)]) (n := 2) (q := 30) dX2_payBackMarked_27 rfl lk_2_163 hd1 rfl (Nat.le_of_ble_eq_true rfl) (CT.imp h (fun r s8 h => ?_))
      obtain ⟨x7, rfl, h⟩ := h
      show VV mX2_payBackMarked d s00 30 [some (.ref 1), some (.int v1)] [.int x7, .ref 1] s8 (Qv K)
      refine v_iconst (v := (nI 1)) (q := 31) dX2_payBackMarked_30 rfl (by decide) ?_
      refine v_putc (q := 34) dX2_payBackMarked_31 rfl lk_2_49 (Nat.le_of_ble_eq_true rfl) h.1 ?_
      have h := h.2
      refine v_iinc (y := (v1 + nI 1)) (q := 37) dX2_payBackMarked_34 rfl rfl (congrArg (fun z => v1 + z) (by decide)) (by decide) rfl ?_
      refine v_goto (q := 2) dX2_payBackMarked_37 (by decide) ?_
      exact h
set_option maxRecDepth 20000 in
theorem bX3_isLetter_0 {d : Nat} {σ : SS} {K : Int32 → SS → Prop} (p1 : Int32)   (h : ((p1 < (nI 97)) → (K (nI 0) σ)) ∧ ((¬ p1 < (nI 97)) → ((((nI 122) < p1) → (K (nI 0) σ)) ∧ ((¬ (nI 122) < p1) → (K (nI 1) σ))))) : VV mX3_isLetter d s00 0 [some (.int p1)] [] σ (Qi K) := by
  refine v_iload_n (q := 1) dX3_isLetter_0 rfl rfl ?_
  refine v_bipush (v := (nI 97)) (q := 3) dX3_isLetter_1 rfl (by decide) ?_
  refine v_icmp_lt (t := 16) (q := 6) dX3_isLetter_3 rfl (by decide) (fun c => ?_) (fun c => ?_)
  · have h := h.1 (c)
    refine v_iconst (v := (nI 0)) (q := 17) dX3_isLetter_16 rfl (by decide) ?_
    exact v_zret dX3_isLetter_17 rfl (by decide) ⟨_, rfl, h⟩
  · have h := h.2 (c)
    refine v_iload_n (q := 7) dX3_isLetter_6 rfl rfl ?_
    refine v_bipush (v := (nI 122)) (q := 9) dX3_isLetter_7 rfl (by decide) ?_
    refine v_icmp_gt (t := 16) (q := 12) dX3_isLetter_9 rfl (by decide) (fun c => ?_) (fun c => ?_)
    · have h := h.1 (c)
      refine v_iconst (v := (nI 0)) (q := 17) dX3_isLetter_16 rfl (by decide) ?_
      exact v_zret dX3_isLetter_17 rfl (by decide) ⟨_, rfl, h⟩
    · have h := h.2 (c)
      refine v_iconst (v := (nI 1)) (q := 13) dX3_isLetter_12 rfl (by decide) ?_
      refine v_goto (q := 17) dX3_isLetter_13 (by decide) ?_
      exact v_zret dX3_isLetter_17 rfl (by decide) ⟨_, rfl, h⟩
theorem eX3_isLetter {d : Nat} {σ : SS} {K : Int32 → SS → Prop} (p1 : Int32)   (h : ((p1 < (nI 97)) → (K (nI 0) σ)) ∧ ((¬ p1 < (nI 97)) → ((((nI 122) < p1) → (K (nI 0) σ)) ∧ ((¬ (nI 122) < p1) → (K (nI 1) σ))))) : CTi mX3_isLetter d [.int p1] σ K := CT_of (Q := (Qi K)) (by decide +kernel) rfl (by decide) (Nat.le_of_ble_eq_true rfl) rfl (bX3_isLetter_0 p1  h)
set_option maxRecDepth 20000 in
theorem bX3_append_0 {d : Nat} {σ : SS} {K : Int32 → SS → Prop} (p1 : Int32)   (h : (((nI 40) ≤ (σ.2.1 2)) → (K (σ.2.1 2) σ)) ∧ ((¬ (nI 40) ≤ (σ.2.1 2)) → ((vp_in (σ.2.1 2) 40) ∧ (K ((sF (sA σ 31 (σ.2.1 2).toNatClampNeg p1) 2 (((sA σ 31 (σ.2.1 2).toNatClampNeg p1).2.1 2) + (nI 1))).2.1 2) (sF (sA σ 31 (σ.2.1 2).toNatClampNeg p1) 2 (((sA σ 31 (σ.2.1 2).toNatClampNeg p1).2.1 2) + (nI 1))))))) : VV mX3_append d s00 0 [some (.ref 3), some (.int p1)] [] σ (Qi K) := by
  refine v_aload_n (q := 1) dX3_append_0 rfl rfl ?_
  refine v_get (q := 4) dX3_append_1 rfl fl_3_15 rfl rfl ?_
  refine v_bipush (v := (nI 40)) (q := 6) dX3_append_4 rfl (by decide) ?_
  refine v_icmp_ge (t := 29) (q := 9) dX3_append_6 rfl (by decide) (fun c => ?_) (fun c => ?_)
  · have h := h.1 (c)
    refine v_aload_n (q := 30) dX3_append_29 rfl rfl ?_
    refine v_get (q := 33) dX3_append_30 rfl fl_3_15 rfl rfl ?_
    exact v_iret dX3_append_33 rfl ⟨_, rfl, h⟩
  · have h := h.2 (c)
    refine v_aload_n (q := 10) dX3_append_9 rfl rfl ?_
    refine v_get (q := 13) dX3_append_10 rfl fl_3_9 rfl rfl ?_
    refine v_aload_n (q := 14) dX3_append_13 rfl rfl ?_
    refine v_get (q := 17) dX3_append_14 rfl fl_3_15 rfl rfl ?_
    refine v_iload_n (q := 18) dX3_append_17 rfl rfl ?_
    refine v_iast (q := 19) dX3_append_18 rfl (isI_d rfl) h.1 ?_
    have h := h.2
    refine v_aload_n (q := 20) dX3_append_19 rfl rfl ?_
    refine v_dup (q := 21) dX3_append_20 rfl rfl ?_
    refine v_get (q := 24) dX3_append_21 rfl fl_3_15 rfl rfl ?_
    refine v_iconst (v := (nI 1)) (q := 25) dX3_append_24 rfl (by decide) ?_
    refine v_iadd (q := 26) dX3_append_25 rfl ?_
    refine v_put (q := 29) dX3_append_26 rfl fp_3_15 rfl rfl ?_
    refine v_aload_n (q := 30) dX3_append_29 rfl rfl ?_
    refine v_get (q := 33) dX3_append_30 rfl fl_3_15 rfl rfl ?_
    exact v_iret dX3_append_33 rfl ⟨_, rfl, h⟩
theorem eX3_append {d : Nat} {σ : SS} {K : Int32 → SS → Prop} (p1 : Int32)   (h : (((nI 40) ≤ (σ.2.1 2)) → (K (σ.2.1 2) σ)) ∧ ((¬ (nI 40) ≤ (σ.2.1 2)) → ((vp_in (σ.2.1 2) 40) ∧ (K ((sF (sA σ 31 (σ.2.1 2).toNatClampNeg p1) 2 (((sA σ 31 (σ.2.1 2).toNatClampNeg p1).2.1 2) + (nI 1))).2.1 2) (sF (sA σ 31 (σ.2.1 2).toNatClampNeg p1) 2 (((sA σ 31 (σ.2.1 2).toNatClampNeg p1).2.1 2) + (nI 1))))))) : CTi mX3_append d [.ref 3, .int p1] σ K := CT_of (Q := (Qi K)) (by decide +kernel) rfl (by decide) (Nat.le_of_ble_eq_true rfl) rfl (bX3_append_0 p1  h)
set_option maxRecDepth 20000 in
theorem bX3_empty_0 {d : Nat} {σ : SS} {K : Int32 → SS → Prop}    (h : K (σ.2.1 2) (sF σ 2 (nI 0))) : VV mX3_empty d s00 0 [some (.ref 3), none] [] σ (Qi K) := by
  refine v_aload_n (q := 1) dX3_empty_0 rfl rfl ?_
  refine v_get (q := 4) dX3_empty_1 rfl fl_3_15 rfl rfl ?_
  refine v_istore_n (q := 5) dX3_empty_4 rfl (by decide) rfl ?_
  refine v_aload_n (q := 6) dX3_empty_5 rfl rfl ?_
  refine v_iconst (v := (nI 0)) (q := 7) dX3_empty_6 rfl (by decide) ?_
  refine v_put (q := 10) dX3_empty_7 rfl fp_3_15 rfl rfl ?_
  refine v_iload_n (q := 11) dX3_empty_10 rfl rfl ?_
  exact v_iret dX3_empty_11 rfl ⟨_, rfl, h⟩
theorem eX3_empty {d : Nat} {σ : SS} {K : Int32 → SS → Prop}    (h : K (σ.2.1 2) (sF σ 2 (nI 0))) : CTi mX3_empty d [.ref 3] σ K := CT_of (Q := (Qi K)) (by decide +kernel) rfl (by decide) (Nat.le_of_ble_eq_true rfl) rfl (bX3_empty_0   h)
set_option maxRecDepth 20000 in
theorem bX3_fault_0 {d : Nat} {σ : SS} {K : Int32 → SS → Prop}    (h : VV mX3_fault d s00 4 [some (.ref 3), some (.int (nI 0)), some (.int (nI 0))] [] σ (Qi K)) : VV mX3_fault d s00 0 [some (.ref 3), none, none] [] σ (Qi K) := by
  refine v_iconst (v := (nI 0)) (q := 1) dX3_fault_0 rfl (by decide) ?_
  refine v_istore_n (q := 2) dX3_fault_1 rfl (by decide) rfl ?_
  refine v_iconst (v := (nI 0)) (q := 3) dX3_fault_2 rfl (by decide) ?_
  refine v_istore_n (q := 4) dX3_fault_3 rfl (by decide) rfl ?_
  exact h
theorem eX3_fault {d : Nat} {σ : SS} {K : Int32 → SS → Prop}    (h : VV mX3_fault d s00 4 [some (.ref 3), some (.int (nI 0)), some (.int (nI 0))] [] σ (Qi K)) : CTi mX3_fault d [.ref 3] σ K := CT_of (Q := (Qi K)) (by decide +kernel) rfl (by decide) (Nat.le_of_ble_eq_true rfl) rfl (bX3_fault_0   h)
set_option maxRecDepth 20000 in
theorem bX3_fault_4 {d : Nat} {σ : SS} {K : Int32 → SS → Prop} (v1 : Int32) (v2 : Int32)  (hd1 : 1 ≤ d) (h : (((σ.2.1 2) ≤ v2) → (((¬ v1 = 0) → (K (-1000000) σ)) ∧ ((v1 = 0) → (K (σ.2.1 2) σ)))) ∧ ((¬ (σ.2.1 2) ≤ v2) → ((vp_in v2 40) ∧ (CTi mX3_isLetter (d - 1) [.int (σ.1 31 v2.toNatClampNeg)] σ (fun x1 s2 => ((x1 = 0) → ((vp_in v2 40) ∧ ((((s2.1 31 v2.toNatClampNeg) = (nI 32)) → (VV mX3_fault d s00 4 [some (.ref 3), some (.int v1), some (.int (v2 + nI 1))] [] s2 (Qi K))) ∧ ((¬ (s2.1 31 v2.toNatClampNeg) = (nI 32)) → (K v2 s2))))) ∧ ((¬ x1 = 0) → ((((nI 10) ≤ v1) → ((vp_in v2 40) ∧ ((((s2.1 31 v2.toNatClampNeg) = (nI 32)) → (VV mX3_fault d s00 4 [some (.ref 3), some (.int v1), some (.int (v2 + nI 1))] [] s2 (Qi K))) ∧ ((¬ (s2.1 31 v2.toNatClampNeg) = (nI 32)) → (K v2 s2))))) ∧ ((¬ (nI 10) ≤ v1) → (VV mX3_fault d s00 4 [some (.ref 3), some (.int (v1 + nI 1)), some (.int (v2 + nI 1))] [] s2 (Qi K)))))))))) : VV mX3_fault d s00 4 [some (.ref 3), some (.int v1), some (.int v2)] [] σ (Qi K) := by
  refine v_iload_n (q := 5) dX3_fault_4 rfl rfl ?_
  refine v_aload_n (q := 6) dX3_fault_5 rfl rfl ?_
  refine v_get (q := 9) dX3_fault_6 rfl fl_3_15 rfl rfl ?_
  refine v_icmp_ge (t := 55) (q := 12) dX3_fault_9 rfl (by decide) (fun c => ?_) (fun c => ?_)
  · have h := h.1 (c)
    refine v_iload_n (q := 56) dX3_fault_55 rfl rfl ?_
    refine v_if_ne (t := 66) (q := 59) dX3_fault_56 rfl (by decide) (fun c => ?_) (fun c => ?_)
    · have h := h.1 (c)
      refine v_ldc (v := (-1000000)) (q := 68) dX3_fault_66 rfl cn_3_23 ?_
      exact v_iret dX3_fault_68 rfl ⟨_, rfl, h⟩
    · have h := h.2 (c)
      refine v_aload_n (q := 60) dX3_fault_59 rfl rfl ?_
      refine v_get (q := 63) dX3_fault_60 rfl fl_3_15 rfl rfl ?_
      refine v_goto (q := 68) dX3_fault_63 (by decide) ?_
      exact v_iret dX3_fault_68 rfl ⟨_, rfl, h⟩
  · have h := h.2 (c)
    refine v_aload_n (q := 13) dX3_fault_12 rfl rfl ?_
    refine v_get (q := 16) dX3_fault_13 rfl fl_3_9 rfl rfl ?_
    refine v_iload_n (q := 17) dX3_fault_16 rfl rfl ?_
    refine v_iald (q := 18) dX3_fault_17 rfl (isI_d rfl) h.1 ?_
    have h := h.2
    refine v_callS (As := [.int (σ.1 31 v2.toNatClampNeg)]) (n := 1) (q := 21) dX3_fault_18 rfl lk_3_19 hd1 rfl (Nat.le_of_ble_eq_true rfl) (CT.imp h (fun r s2 h => ?_))
    obtain ⟨x1, rfl, h⟩ := h
    show VV mX3_fault d s00 21 [some (.ref 3), some (.int v1), some (.int v2)] [.int x1] s2 (Qi K)
    refine v_if_eq (t := 36) (q := 24) dX3_fault_21 rfl (by decide) (fun c => ?_) (fun c => ?_)
    · have h := h.1 (c)
      refine v_aload_n (q := 37) dX3_fault_36 rfl rfl ?_
      refine v_get (q := 40) dX3_fault_37 rfl fl_3_9 rfl rfl ?_
      refine v_iload_n (q := 41) dX3_fault_40 rfl rfl ?_
      refine v_iald (q := 42) dX3_fault_41 rfl (isI_d rfl) h.1 ?_
      have h := h.2
      refine v_bipush (v := (nI 32)) (q := 44) dX3_fault_42 rfl (by decide) ?_
      refine v_icmp_eq (t := 49) (q := 47) dX3_fault_44 rfl (by decide) (fun c => ?_) (fun c => ?_)
      · have h := h.1 (c)
        refine v_iinc (y := (v2 + nI 1)) (q := 52) dX3_fault_49 rfl rfl (congrArg (fun z => v2 + z) (by decide)) (by decide) rfl ?_
        refine v_goto (q := 4) dX3_fault_52 (by decide) ?_
        exact h
      · have h := h.2 (c)
        refine v_iload_n (q := 48) dX3_fault_47 rfl rfl ?_
        exact v_iret dX3_fault_48 rfl ⟨_, rfl, h⟩
    · have h := h.2 (c)
      refine v_iload_n (q := 25) dX3_fault_24 rfl rfl ?_
      refine v_bipush (v := (nI 10)) (q := 27) dX3_fault_25 rfl (by decide) ?_
      refine v_icmp_ge (t := 36) (q := 30) dX3_fault_27 rfl (by decide) (fun c => ?_) (fun c => ?_)
      · have h := h.1 (c)
        refine v_aload_n (q := 37) dX3_fault_36 rfl rfl ?_
        refine v_get (q := 40) dX3_fault_37 rfl fl_3_9 rfl rfl ?_
        refine v_iload_n (q := 41) dX3_fault_40 rfl rfl ?_
        refine v_iald (q := 42) dX3_fault_41 rfl (isI_d rfl) h.1 ?_
        have h := h.2
        refine v_bipush (v := (nI 32)) (q := 44) dX3_fault_42 rfl (by decide) ?_
        refine v_icmp_eq (t := 49) (q := 47) dX3_fault_44 rfl (by decide) (fun c => ?_) (fun c => ?_)
        · have h := h.1 (c)
          refine v_iinc (y := (v2 + nI 1)) (q := 52) dX3_fault_49 rfl rfl (congrArg (fun z => v2 + z) (by decide)) (by decide) rfl ?_
          refine v_goto (q := 4) dX3_fault_52 (by decide) ?_
          exact h
        · have h := h.2 (c)
          refine v_iload_n (q := 48) dX3_fault_47 rfl rfl ?_
          exact v_iret dX3_fault_48 rfl ⟨_, rfl, h⟩
      · have h := h.2 (c)
        refine v_iinc (y := (v1 + nI 1)) (q := 33) dX3_fault_30 rfl rfl (congrArg (fun z => v1 + z) (by decide)) (by decide) rfl ?_
        refine v_goto (q := 49) dX3_fault_33 (by decide) ?_
        refine v_iinc (y := (v2 + nI 1)) (q := 52) dX3_fault_49 rfl rfl (congrArg (fun z => v2 + z) (by decide)) (by decide) rfl ?_
        refine v_goto (q := 4) dX3_fault_52 (by decide) ?_
        exact h
set_option maxRecDepth 20000 in
theorem bX3_isFaulty_0 {d : Nat} {σ : SS} {K : Int32 → SS → Prop}   (hd1 : 1 ≤ d) (h : CTi mX3_fault (d - 1) [.ref 3] σ (fun x1 s2 => ((x1 = (-1000000)) → (K (nI 0) s2)) ∧ ((¬ x1 = (-1000000)) → (K (nI 1) s2)))) : VV mX3_isFaulty d s00 0 [some (.ref 3)] [] σ (Qi K) := by
  refine v_aload_n (q := 1) dX3_isFaulty_0 rfl rfl ?_
  refine v_callV (As := []) (n := 0) (q := 4) dX3_isFaulty_1 rfl lk_3_24 hd1 rfl rfl (Nat.le_of_ble_eq_true rfl) (CT.imp h (fun r s2 h => ?_))
  obtain ⟨x1, rfl, h⟩ := h
  show VV mX3_isFaulty d s00 4 [some (.ref 3)] [.int x1] s2 (Qi K)
  refine v_ldc (v := (-1000000)) (q := 6) dX3_isFaulty_4 rfl cn_3_23 ?_
  refine v_icmp_eq (t := 13) (q := 9) dX3_isFaulty_6 rfl (by decide) (fun c => ?_) (fun c => ?_)
  · have h := h.1 (c)
    refine v_iconst (v := (nI 0)) (q := 14) dX3_isFaulty_13 rfl (by decide) ?_
    exact v_zret dX3_isFaulty_14 rfl (by decide) ⟨_, rfl, h⟩
  · have h := h.2 (c)
    refine v_iconst (v := (nI 1)) (q := 10) dX3_isFaulty_9 rfl (by decide) ?_
    refine v_goto (q := 14) dX3_isFaulty_10 (by decide) ?_
    exact v_zret dX3_isFaulty_14 rfl (by decide) ⟨_, rfl, h⟩
theorem eX3_isFaulty {d : Nat} {σ : SS} {K : Int32 → SS → Prop}   (hd1 : 1 ≤ d) (h : CTi mX3_fault (d - 1) [.ref 3] σ (fun x1 s2 => ((x1 = (-1000000)) → (K (nI 0) s2)) ∧ ((¬ x1 = (-1000000)) → (K (nI 1) s2)))) : CTi mX3_isFaulty d [.ref 3] σ K := CT_of (Q := (Qi K)) (by decide +kernel) rfl (by decide) (Nat.le_of_ble_eq_true rfl) rfl (bX3_isFaulty_0  hd1 h)
set_option maxRecDepth 20000 in
theorem bX3_readInto_0 {d : Nat} {σ : SS} {K : SS → Prop} {se w f : Nat} (hse : Sen se w f) (hd1 : 1 ≤ d) (h : CTv mX1_clear (d - 1) [.ref se] σ (fun s2 => VV mX3_readInto d s00 6 [some (.ref 3), some (.ref se), some (.int (nI 0))] [] s2 (Qv K))) : VV mX3_readInto d s00 0 [some (.ref 3), some (.ref se), none] [] σ (Qv K) := by
  refine v_aload_n (q := 1) dX3_readInto_0 rfl rfl ?_
  refine v_callN (As := []) (n := 0) (q := 4) dX3_readInto_1 rfl lk_3_28 hd1 rfl (hse.1 _) (Nat.le_of_ble_eq_true rfl) (CT.imp h (fun r s2 h => ?_))
  obtain ⟨rfl, h⟩ := h
  show VV mX3_readInto d s00 4 [some (.ref 3), some (.ref se), none] [] s2 (Qv K)
  refine v_iconst (v := (nI 0)) (q := 5) dX3_readInto_4 rfl (by decide) ?_
  refine v_istore_n (q := 6) dX3_readInto_5 rfl (by decide) rfl ?_
  exact h
theorem eX3_readInto {d : Nat} {σ : SS} {K : SS → Prop} {se w f : Nat} (hse : Sen se w f) (hd1 : 1 ≤ d) (h : CTv mX1_clear (d - 1) [.ref se] σ (fun s2 => VV mX3_readInto d s00 6 [some (.ref 3), some (.ref se), some (.int (nI 0))] [] s2 (Qv K))) : CTv mX3_readInto d [.ref 3, .ref se] σ K := CT_of (Q := (Qv K)) (by decide +kernel) rfl (by decide) (Nat.le_of_ble_eq_true rfl) rfl (bX3_readInto_0 hse hd1 h)
set_option maxRecDepth 20000 in
theorem bX3_readInto_6 {d : Nat} {σ : SS} {K : SS → Prop} {se w f : Nat} (v2 : Int32) (hse : Sen se w f) (hd1 : 1 ≤ d) (h : (((σ.2.1 2) ≤ v2) → (K σ)) ∧ ((¬ (σ.2.1 2) ≤ v2) → ((vp_in v2 40) ∧ (CTi mX3_isLetter (d - 1) [.int (σ.1 31 v2.toNatClampNeg)] σ (fun x1 s2 => ((x1 = 0) → (VV mX3_readInto d s00 6 [some (.ref 3), some (.ref se), some (.int (v2 + nI 1))] [] s2 (Qv K))) ∧ ((¬ x1 = 0) → ((vp_in v2 40) ∧ (CTv mX1_append (d - 1) [.ref se, .int ((s2.1 31 v2.toNatClampNeg) - (nI 97))] s2 (fun s4 => VV mX3_readInto d s00 6 [some (.ref 3), some (.ref se), some (.int (v2 + nI 1))] [] s4 (Qv K)))))))))) : VV mX3_readInto d s00 6 [some (.ref 3), some (.ref se), some (.int v2)] [] σ (Qv K) := by
  refine v_iload_n (q := 7) dX3_readInto_6 rfl rfl ?_
  refine v_aload_n (q := 8) dX3_readInto_7 rfl rfl ?_
  refine v_get (q := 11) dX3_readInto_8 rfl fl_3_15 rfl rfl ?_
  refine v_icmp_ge (t := 45) (q := 14) dX3_readInto_11 rfl (by decide) (fun c => ?_) (fun c => ?_)
  · have h := h.1 (c)
    exact v_ret0 dX3_readInto_45 rfl ⟨rfl, h⟩
  · have h := h.2 (c)
    refine v_aload_n (q := 15) dX3_readInto_14 rfl rfl ?_
    refine v_get (q := 18) dX3_readInto_15 rfl fl_3_9 rfl rfl ?_
    refine v_iload_n (q := 19) dX3_readInto_18 rfl rfl ?_
    refine v_iald (q := 20) dX3_readInto_19 rfl (isI_d rfl) h.1 ?_
    have h := h.2
    refine v_callS (As := [.int (σ.1 31 v2.toNatClampNeg)]) (n := 1) (q := 23) dX3_readInto_20 rfl lk_3_19 hd1 rfl (Nat.le_of_ble_eq_true rfl) (CT.imp h (fun r s2 h => ?_))
    obtain ⟨x1, rfl, h⟩ := h
    show VV mX3_readInto d s00 23 [some (.ref 3), some (.ref se), some (.int v2)] [.int x1] s2 (Qv K)
    refine v_if_eq (t := 39) (q := 26) dX3_readInto_23 rfl (by decide) (fun c => ?_) (fun c => ?_)
    · have h := h.1 (c)
      refine v_iinc (y := (v2 + nI 1)) (q := 42) dX3_readInto_39 rfl rfl (congrArg (fun z => v2 + z) (by decide)) (by decide) rfl ?_
      refine v_goto (q := 6) dX3_readInto_42 (by decide) ?_
      exact h
    · have h := h.2 (c)
      refine v_aload_n (q := 27) dX3_readInto_26 rfl rfl ?_
      refine v_aload_n (q := 28) dX3_readInto_27 rfl rfl ?_
      refine v_get (q := 31) dX3_readInto_28 rfl fl_3_9 rfl rfl ?_
      refine v_iload_n (q := 32) dX3_readInto_31 rfl rfl ?_
      refine v_iald (q := 33) dX3_readInto_32 rfl (isI_d rfl) h.1 ?_
      have h := h.2
      refine v_bipush (v := (nI 97)) (q := 35) dX3_readInto_33 rfl (by decide) ?_
      refine v_isub (q := 36) dX3_readInto_35 rfl ?_
      refine v_callN (As := [.int ((s2.1 31 v2.toNatClampNeg) - (nI 97))]) (n := 1) (q := 39) dX3_readInto_36 rfl lk_3_33 hd1 rfl (hse.1 _) (Nat.le_of_ble_eq_true rfl) (CT.imp h (fun r s4 h => ?_))
      obtain ⟨rfl, h⟩ := h
      show VV mX3_readInto d s00 39 [some (.ref 3), some (.ref se), some (.int v2)] [] s4 (Qv K)
      refine v_iinc (y := (v2 + nI 1)) (q := 42) dX3_readInto_39 rfl rfl (congrArg (fun z => v2 + z) (by decide)) (by decide) rfl ?_
      refine v_goto (q := 6) dX3_readInto_42 (by decide) ?_
      exact h
set_option maxRecDepth 20000 in
theorem bX4_start_0 {d : Nat} {σ : SS} {K : SS → Prop} (p1 : Int32)  (hd1 : 1 ≤ d) (h : CTv mX4_open (d - 1) [.ref 5, .int ((sF σ 4 (if (nI 0) < (if (nI 10) < p1 then (nI 10) else p1) then (if (nI 10) < p1 then (nI 10) else p1) else (nI 0))).2.1 4)] (sF σ 4 (if (nI 0) < (if (nI 10) < p1 then (nI 10) else p1) then (if (nI 10) < p1 then (nI 10) else p1) else (nI 0))) (fun s2 => (vp_in (s2.2.1 4) 11) ∧ (K (sA s2 33 (s2.2.1 4).toNatClampNeg (nI 0))))) : VV mX4_start d s00 0 [some (.ref 5), some (.int p1)] [] σ (Qv K) := by
  refine v_aload_n (q := 1) dX4_start_0 rfl rfl ?_
  refine v_iconst (v := (nI 0)) (q := 2) dX4_start_1 rfl (by decide) ?_
  refine v_iload_n (q := 3) dX4_start_2 rfl rfl ?_
  refine v_bipush (v := (nI 10)) (q := 5) dX4_start_3 rfl (by decide) ?_
  refine v_min (q := 8) dX4_start_5 rfl lm_4_24 hd1 (Nat.le_of_ble_eq_true rfl) ?_
  refine v_max (q := 11) dX4_start_8 rfl lm_4_30 hd1 (Nat.le_of_ble_eq_true rfl) ?_
  refine v_put (q := 14) dX4_start_11 rfl fp_4_33 rfl rfl ?_
  refine v_aload_n (q := 15) dX4_start_14 rfl rfl ?_
  refine v_aload_n (q := 16) dX4_start_15 rfl rfl ?_
  refine v_get (q := 19) dX4_start_16 rfl fl_4_33 rfl rfl ?_
  refine v_callV (As := [.int ((sF σ 4 (if (nI 0) < (if (nI 10) < p1 then (nI 10) else p1) then (if (nI 10) < p1 then (nI 10) else p1) else (nI 0))).2.1 4)]) (n := 1) (q := 22) dX4_start_19 rfl lk_4_37 hd1 rfl rfl (Nat.le_of_ble_eq_true rfl) (CT.imp h (fun r s2 h => ?_))
  obtain ⟨rfl, h⟩ := h
  show VV mX4_start d s00 22 [some (.ref 5), some (.int p1)] [] s2 (Qv K)
  refine v_aload_n (q := 23) dX4_start_22 rfl rfl ?_
  refine v_get (q := 26) dX4_start_23 rfl fl_4_9 rfl rfl ?_
  refine v_aload_n (q := 27) dX4_start_26 rfl rfl ?_
  refine v_get (q := 30) dX4_start_27 rfl fl_4_33 rfl rfl ?_
  refine v_iconst (v := (nI 0)) (q := 31) dX4_start_30 rfl (by decide) ?_
  refine v_iast (q := 32) dX4_start_31 rfl (isI_d rfl) h.1 ?_
  have h := h.2
  exact v_ret0 dX4_start_32 rfl ⟨rfl, h⟩
theorem eX4_start {d : Nat} {σ : SS} {K : SS → Prop} (p1 : Int32)  (hd1 : 1 ≤ d) (h : CTv mX4_open (d - 1) [.ref 5, .int ((sF σ 4 (if (nI 0) < (if (nI 10) < p1 then (nI 10) else p1) then (if (nI 10) < p1 then (nI 10) else p1) else (nI 0))).2.1 4)] (sF σ 4 (if (nI 0) < (if (nI 10) < p1 then (nI 10) else p1) then (if (nI 10) < p1 then (nI 10) else p1) else (nI 0))) (fun s2 => (vp_in (s2.2.1 4) 11) ∧ (K (sA s2 33 (s2.2.1 4).toNatClampNeg (nI 0))))) : CTv mX4_start d [.ref 5, .int p1] σ K := CT_of (Q := (Qv K)) (by decide +kernel) rfl (by decide) (Nat.le_of_ble_eq_true rfl) rfl (bX4_start_0 p1 hd1 h)
set_option maxRecDepth 20000 in
theorem bX4_isPlace_0 {d : Nat} {σ : SS} {K : Int32 → SS → Prop} (p1 : Int32)   (h : ((p1 < 0) → (K (nI 0) σ)) ∧ ((¬ p1 < 0) → ((((σ.2.1 4) < p1) → (K (nI 0) σ)) ∧ ((¬ (σ.2.1 4) < p1) → (K (nI 1) σ))))) : VV mX4_isPlace d s00 0 [some (.ref 5), some (.int p1)] [] σ (Qi K) := by
  refine v_iload_n (q := 1) dX4_isPlace_0 rfl rfl ?_
  refine v_if_lt (t := 16) (q := 4) dX4_isPlace_1 rfl (by decide) (fun c => ?_) (fun c => ?_)
  · have h := h.1 (c)
    refine v_iconst (v := (nI 0)) (q := 17) dX4_isPlace_16 rfl (by decide) ?_
    exact v_zret dX4_isPlace_17 rfl (by decide) ⟨_, rfl, h⟩
  · have h := h.2 (c)
    refine v_iload_n (q := 5) dX4_isPlace_4 rfl rfl ?_
    refine v_aload_n (q := 6) dX4_isPlace_5 rfl rfl ?_
    refine v_get (q := 9) dX4_isPlace_6 rfl fl_4_33 rfl rfl ?_
    refine v_icmp_gt (t := 16) (q := 12) dX4_isPlace_9 rfl (by decide) (fun c => ?_) (fun c => ?_)
    · have h := h.1 (c)
      refine v_iconst (v := (nI 0)) (q := 17) dX4_isPlace_16 rfl (by decide) ?_
      exact v_zret dX4_isPlace_17 rfl (by decide) ⟨_, rfl, h⟩
    · have h := h.2 (c)
      refine v_iconst (v := (nI 1)) (q := 13) dX4_isPlace_12 rfl (by decide) ?_
      refine v_goto (q := 17) dX4_isPlace_13 (by decide) ?_
      exact v_zret dX4_isPlace_17 rfl (by decide) ⟨_, rfl, h⟩
theorem eX4_isPlace {d : Nat} {σ : SS} {K : Int32 → SS → Prop} (p1 : Int32)   (h : ((p1 < 0) → (K (nI 0) σ)) ∧ ((¬ p1 < 0) → ((((σ.2.1 4) < p1) → (K (nI 0) σ)) ∧ ((¬ (σ.2.1 4) < p1) → (K (nI 1) σ))))) : CTi mX4_isPlace d [.ref 5, .int p1] σ K := CT_of (Q := (Qi K)) (by decide +kernel) rfl (by decide) (Nat.le_of_ble_eq_true rfl) rfl (bX4_isPlace_0 p1  h)
set_option maxRecDepth 20000 in
theorem bX4_open_0 {d : Nat} {σ : SS} {K : SS → Prop} (p1 : Int32)  (hd1 : 1 ≤ d) (h : CTi mX4_isPlace (d - 1) [.ref 5, .int p1] σ (fun x1 s2 => ((x1 = 0) → (K s2)) ∧ ((¬ x1 = 0) → ((vp_in p1 11) ∧ ((vp_in p1 11) ∧ ((vp_in p1 11) ∧ ((vp_in p1 11) ∧ (K (sA (sA (sA (sA s2 33 p1.toNatClampNeg (-1000000)) 34 p1.toNatClampNeg (nI 0)) 35 p1.toNatClampNeg (-1000000)) 36 p1.toNatClampNeg ((sA (sA (sA s2 33 p1.toNatClampNeg (-1000000)) 34 p1.toNatClampNeg (nI 0)) 35 p1.toNatClampNeg (-1000000)).2.1 4)))))))))) : VV mX4_open d s00 0 [some (.ref 5), some (.int p1)] [] σ (Qv K) := by
  refine v_aload_n (q := 1) dX4_open_0 rfl rfl ?_
  refine v_iload_n (q := 2) dX4_open_1 rfl rfl ?_
  refine v_callV (As := [.int p1]) (n := 1) (q := 5) dX4_open_2 rfl lk_4_41 hd1 rfl rfl (Nat.le_of_ble_eq_true rfl) (CT.imp h (fun r s2 h => ?_))
  obtain ⟨x1, rfl, h⟩ := h
  show VV mX4_open d s00 5 [some (.ref 5), some (.int p1)] [.int x1] s2 (Qv K)
  refine v_if_eq (t := 41) (q := 8) dX4_open_5 rfl (by decide) (fun c => ?_) (fun c => ?_)
  · have h := h.1 (c)
    exact v_ret0 dX4_open_41 rfl ⟨rfl, h⟩
  · have h := h.2 (c)
    refine v_aload_n (q := 9) dX4_open_8 rfl rfl ?_
    refine v_get (q := 12) dX4_open_9 rfl fl_4_9 rfl rfl ?_
    refine v_iload_n (q := 13) dX4_open_12 rfl rfl ?_
    refine v_ldc (v := (-1000000)) (q := 15) dX4_open_13 rfl cn_4_45 ?_
    refine v_iast (q := 16) dX4_open_15 rfl (isI_d rfl) h.1 ?_
    have h := h.2
    refine v_aload_n (q := 17) dX4_open_16 rfl rfl ?_
    refine v_get (q := 20) dX4_open_17 rfl fl_4_15 rfl rfl ?_
    refine v_iload_n (q := 21) dX4_open_20 rfl rfl ?_
    refine v_iconst (v := (nI 0)) (q := 22) dX4_open_21 rfl (by decide) ?_
    refine v_iast (q := 23) dX4_open_22 rfl (isI_d rfl) h.1 ?_
    have h := h.2
    refine v_aload_n (q := 24) dX4_open_23 rfl rfl ?_
    refine v_get (q := 27) dX4_open_24 rfl fl_4_18 rfl rfl ?_
    refine v_iload_n (q := 28) dX4_open_27 rfl rfl ?_
    refine v_ldc (v := (-1000000)) (q := 30) dX4_open_28 rfl cn_4_45 ?_
    refine v_iast (q := 31) dX4_open_30 rfl (isI_d rfl) h.1 ?_
    have h := h.2
    refine v_aload_n (q := 32) dX4_open_31 rfl rfl ?_
    refine v_get (q := 35) dX4_open_32 rfl fl_4_21 rfl rfl ?_
    refine v_iload_n (q := 36) dX4_open_35 rfl rfl ?_
    refine v_aload_n (q := 37) dX4_open_36 rfl rfl ?_
    refine v_get (q := 40) dX4_open_37 rfl fl_4_33 rfl rfl ?_
    refine v_iast (q := 41) dX4_open_40 rfl (isI_d rfl) h.1 ?_
    have h := h.2
    exact v_ret0 dX4_open_41 rfl ⟨rfl, h⟩
theorem eX4_open {d : Nat} {σ : SS} {K : SS → Prop} (p1 : Int32)  (hd1 : 1 ≤ d) (h : CTi mX4_isPlace (d - 1) [.ref 5, .int p1] σ (fun x1 s2 => ((x1 = 0) → (K s2)) ∧ ((¬ x1 = 0) → ((vp_in p1 11) ∧ ((vp_in p1 11) ∧ ((vp_in p1 11) ∧ ((vp_in p1 11) ∧ (K (sA (sA (sA (sA s2 33 p1.toNatClampNeg (-1000000)) 34 p1.toNatClampNeg (nI 0)) 35 p1.toNatClampNeg (-1000000)) 36 p1.toNatClampNeg ((sA (sA (sA s2 33 p1.toNatClampNeg (-1000000)) 34 p1.toNatClampNeg (nI 0)) 35 p1.toNatClampNeg (-1000000)).2.1 4)))))))))) : CTv mX4_open d [.ref 5, .int p1] σ K := CT_of (Q := (Qv K)) (by decide +kernel) rfl (by decide) (Nat.le_of_ble_eq_true rfl) rfl (bX4_open_0 p1 hd1 h)
set_option maxRecDepth 20000 in
theorem bX4_offer_0 {d : Nat} {σ : SS} {K : SS → Prop} (p1 : Int32) (p2 : Int32) (p3 : Int32) (p4 : Int32)  (hd1 : 1 ≤ d) (h : CTi mX4_isPlace (d - 1) [.ref 5, .int p1] σ (fun x1 s2 => ((x1 = 0) → (K s2)) ∧ ((¬ x1 = 0) → (CTi mX4_isPlace (d - 1) [.ref 5, .int (p1 + p3)] s2 (fun x3 s4 => ((x3 = 0) → (K s4)) ∧ ((¬ x3 = 0) → ((vp_in (p1 + p3) 11) ∧ (((¬ (s4.1 33 (p1 + p3).toNatClampNeg) = (-1000000)) → ((vp_in (p1 + p3) 11) ∧ ((vp_in (p1 + p3) 11) ∧ ((vp_in p1 11) ∧ ((((s4.1 33 p1.toNatClampNeg) = (-1000000)) → ((vp_in p1 11) ∧ ((vp_in p1 11) ∧ ((vp_in p1 11) ∧ ((vp_in p1 11) ∧ (K (sA (sA (sA (sA s4 33 p1.toNatClampNeg (p4 + (s4.1 33 (p1 + p3).toNatClampNeg))) 34 p1.toNatClampNeg ((nI 1) + (s4.1 34 (p1 + p3).toNatClampNeg))) 35 p1.toNatClampNeg p2) 36 p1.toNatClampNeg (p1 + p3)))))))) ∧ ((¬ (s4.1 33 p1.toNatClampNeg) = (-1000000)) → ((vp_in p1 11) ∧ ((((p4 + (s4.1 33 (p1 + p3).toNatClampNeg)) < (s4.1 33 p1.toNatClampNeg)) → ((vp_in p1 11) ∧ ((vp_in p1 11) ∧ ((vp_in p1 11) ∧ ((vp_in p1 11) ∧ (K (sA (sA (sA (sA s4 33 p1.toNatClampNeg (p4 + (s4.1 33 (p1 + p3).toNatClampNeg))) 34 p1.toNatClampNeg ((nI 1) + (s4.1 34 (p1 + p3).toNatClampNeg))) 35 p1.toNatClampNeg p2) 36 p1.toNatClampNeg (p1 + p3)))))))) ∧ ((¬ (p4 + (s4.1 33 (p1 + p3).toNatClampNeg)) < (s4.1 33 p1.toNatClampNeg)) → ((vp_in p1 11) ∧ (((¬ (p4 + (s4.1 33 (p1 + p3).toNatClampNeg)) = (s4.1 33 p1.toNatClampNeg)) → (K s4)) ∧ (((p4 + (s4.1 33 (p1 + p3).toNatClampNeg)) = (s4.1 33 p1.toNatClampNeg)) → ((vp_in p1 11) ∧ ((((s4.1 34 p1.toNatClampNeg) ≤ ((nI 1) + (s4.1 34 (p1 + p3).toNatClampNeg))) → (K s4)) ∧ ((¬ (s4.1 34 p1.toNatClampNeg) ≤ ((nI 1) + (s4.1 34 (p1 + p3).toNatClampNeg))) → ((vp_in p1 11) ∧ ((vp_in p1 11) ∧ ((vp_in p1 11) ∧ ((vp_in p1 11) ∧ (K (sA (sA (sA (sA s4 33 p1.toNatClampNeg (p4 + (s4.1 33 (p1 + p3).toNatClampNeg))) 34 p1.toNatClampNeg ((nI 1) + (s4.1 34 (p1 + p3).toNatClampNeg))) 35 p1.toNatClampNeg p2) 36 p1.toNatClampNeg (p1 + p3)))))))))))))))))))))) ∧ (((s4.1 33 (p1 + p3).toNatClampNeg) = (-1000000)) → (K s4)))))))))) : VV mX4_offer d s00 0 [some (.ref 5), some (.int p1), some (.int p2), some (.int p3), some (.int p4), none, none, none] [] σ (Qv K) := by
  refine v_iload_n (q := 1) dX4_offer_0 rfl rfl ?_
  refine v_iload_n (q := 2) dX4_offer_1 rfl rfl ?_
  refine v_iadd (q := 3) dX4_offer_2 rfl ?_
  refine v_istore (q := 5) dX4_offer_3 rfl (by decide) rfl ?_
  refine v_aload_n (q := 6) dX4_offer_5 rfl rfl ?_
  refine v_iload_n (q := 7) dX4_offer_6 rfl rfl ?_
  refine v_callV (As := [.int p1]) (n := 1) (q := 10) dX4_offer_7 rfl lk_4_41 hd1 rfl rfl (Nat.le_of_ble_eq_true rfl) (CT.imp h (fun r s2 h => ?_))
  obtain ⟨x1, rfl, h⟩ := h
  show VV mX4_offer d s00 10 [some (.ref 5), some (.int p1), some (.int p2), some (.int p3), some (.int p4), some (.int (p1 + p3)), none, none] [.int x1] s2 (Qv K)
  refine v_if_eq (t := 34) (q := 13) dX4_offer_10 rfl (by decide) (fun c => ?_) (fun c => ?_)
  · have h := h.1 (c)
    exact v_ret0 dX4_offer_34 rfl ⟨rfl, h⟩
  · have h := h.2 (c)
    refine v_aload_n (q := 14) dX4_offer_13 rfl rfl ?_
    refine v_iload (q := 16) dX4_offer_14 rfl rfl ?_
    refine v_callV (As := [.int (p1 + p3)]) (n := 1) (q := 19) dX4_offer_16 rfl lk_4_41 hd1 rfl rfl (Nat.le_of_ble_eq_true rfl) (CT.imp h (fun r s4 h => ?_))
    obtain ⟨x3, rfl, h⟩ := h
    show VV mX4_offer d s00 19 [some (.ref 5), some (.int p1), some (.int p2), some (.int p3), some (.int p4), some (.int (p1 + p3)), none, none] [.int x3] s4 (Qv K)
    refine v_if_eq (t := 34) (q := 22) dX4_offer_19 rfl (by decide) (fun c => ?_) (fun c => ?_)
    · have h := h.1 (c)
      exact v_ret0 dX4_offer_34 rfl ⟨rfl, h⟩
    · have h := h.2 (c)
      refine v_aload_n (q := 23) dX4_offer_22 rfl rfl ?_
      refine v_get (q := 26) dX4_offer_23 rfl fl_4_9 rfl rfl ?_
      refine v_iload (q := 28) dX4_offer_26 rfl rfl ?_
      refine v_iald (q := 29) dX4_offer_28 rfl (isI_d rfl) h.1 ?_
      have h := h.2
      refine v_ldc (v := (-1000000)) (q := 31) dX4_offer_29 rfl cn_4_45 ?_
      refine v_icmp_ne (t := 35) (q := 34) dX4_offer_31 rfl (by decide) (fun c => ?_) (fun c => ?_)
      · have h := h.1 (c)
        refine v_iload (q := 37) dX4_offer_35 rfl rfl ?_
        refine v_aload_n (q := 38) dX4_offer_37 rfl rfl ?_
        refine v_get (q := 41) dX4_offer_38 rfl fl_4_9 rfl rfl ?_
        refine v_iload (q := 43) dX4_offer_41 rfl rfl ?_
        refine v_iald (q := 44) dX4_offer_43 rfl (isI_d rfl) h.1 ?_
        have h := h.2
        refine v_iadd (q := 45) dX4_offer_44 rfl ?_
        refine v_istore (q := 47) dX4_offer_45 rfl (by decide) rfl ?_
        refine v_iconst (v := (nI 1)) (q := 48) dX4_offer_47 rfl (by decide) ?_
        refine v_aload_n (q := 49) dX4_offer_48 rfl rfl ?_
        refine v_get (q := 52) dX4_offer_49 rfl fl_4_15 rfl rfl ?_
        refine v_iload (q := 54) dX4_offer_52 rfl rfl ?_
        refine v_iald (q := 55) dX4_offer_54 rfl (isI_d rfl) h.1 ?_
        have h := h.2
        refine v_iadd (q := 56) dX4_offer_55 rfl ?_
        refine v_istore (q := 58) dX4_offer_56 rfl (by decide) rfl ?_
        refine v_aload_n (q := 59) dX4_offer_58 rfl rfl ?_
        refine v_get (q := 62) dX4_offer_59 rfl fl_4_9 rfl rfl ?_
        refine v_iload_n (q := 63) dX4_offer_62 rfl rfl ?_
        refine v_iald (q := 64) dX4_offer_63 rfl (isI_d rfl) h.1 ?_
        have h := h.2
        refine v_ldc (v := (-1000000)) (q := 66) dX4_offer_64 rfl cn_4_45 ?_
        refine v_icmp_eq (t := 102) (q := 69) dX4_offer_66 rfl (by decide) (fun c => ?_) (fun c => ?_)
        · have h := h.1 (c)
          refine v_aload_n (q := 103) dX4_offer_102 rfl rfl ?_
          refine v_get (q := 106) dX4_offer_103 rfl fl_4_9 rfl rfl ?_
          refine v_iload_n (q := 107) dX4_offer_106 rfl rfl ?_
          refine v_iload (q := 109) dX4_offer_107 rfl rfl ?_
          refine v_iast (q := 110) dX4_offer_109 rfl (isI_d rfl) h.1 ?_
          have h := h.2
          refine v_aload_n (q := 111) dX4_offer_110 rfl rfl ?_
          refine v_get (q := 114) dX4_offer_111 rfl fl_4_15 rfl rfl ?_
          refine v_iload_n (q := 115) dX4_offer_114 rfl rfl ?_
          refine v_iload (q := 117) dX4_offer_115 rfl rfl ?_
          refine v_iast (q := 118) dX4_offer_117 rfl (isI_d rfl) h.1 ?_
          have h := h.2
          refine v_aload_n (q := 119) dX4_offer_118 rfl rfl ?_
          refine v_get (q := 122) dX4_offer_119 rfl fl_4_18 rfl rfl ?_
          refine v_iload_n (q := 123) dX4_offer_122 rfl rfl ?_
          refine v_iload_n (q := 124) dX4_offer_123 rfl rfl ?_
          refine v_iast (q := 125) dX4_offer_124 rfl (isI_d rfl) h.1 ?_
          have h := h.2
          refine v_aload_n (q := 126) dX4_offer_125 rfl rfl ?_
          refine v_get (q := 129) dX4_offer_126 rfl fl_4_21 rfl rfl ?_
          refine v_iload_n (q := 130) dX4_offer_129 rfl rfl ?_
          refine v_iload (q := 132) dX4_offer_130 rfl rfl ?_
          refine v_iast (q := 133) dX4_offer_132 rfl (isI_d rfl) h.1 ?_
          have h := h.2
          exact v_ret0 dX4_offer_133 rfl ⟨rfl, h⟩
        · have h := h.2 (c)
          refine v_iload (q := 71) dX4_offer_69 rfl rfl ?_
          refine v_aload_n (q := 72) dX4_offer_71 rfl rfl ?_
          refine v_get (q := 75) dX4_offer_72 rfl fl_4_9 rfl rfl ?_
          refine v_iload_n (q := 76) dX4_offer_75 rfl rfl ?_
          refine v_iald (q := 77) dX4_offer_76 rfl (isI_d rfl) h.1 ?_
          have h := h.2
          refine v_icmp_lt (t := 102) (q := 80) dX4_offer_77 rfl (by decide) (fun c => ?_) (fun c => ?_)
          · have h := h.1 (c)
            refine v_aload_n (q := 103) dX4_offer_102 rfl rfl ?_
            refine v_get (q := 106) dX4_offer_103 rfl fl_4_9 rfl rfl ?_
            refine v_iload_n (q := 107) dX4_offer_106 rfl rfl ?_
            refine v_iload (q := 109) dX4_offer_107 rfl rfl ?_
            refine v_iast (q := 110) dX4_offer_109 rfl (isI_d rfl) h.1 ?_
            have h := h.2
            refine v_aload_n (q := 111) dX4_offer_110 rfl rfl ?_
            refine v_get (q := 114) dX4_offer_111 rfl fl_4_15 rfl rfl ?_
            refine v_iload_n (q := 115) dX4_offer_114 rfl rfl ?_
            refine v_iload (q := 117) dX4_offer_115 rfl rfl ?_
            refine v_iast (q := 118) dX4_offer_117 rfl (isI_d rfl) h.1 ?_
            have h := h.2
            refine v_aload_n (q := 119) dX4_offer_118 rfl rfl ?_
            refine v_get (q := 122) dX4_offer_119 rfl fl_4_18 rfl rfl ?_
            refine v_iload_n (q := 123) dX4_offer_122 rfl rfl ?_
            refine v_iload_n (q := 124) dX4_offer_123 rfl rfl ?_
            refine v_iast (q := 125) dX4_offer_124 rfl (isI_d rfl) h.1 ?_
            have h := h.2
            refine v_aload_n (q := 126) dX4_offer_125 rfl rfl ?_
            refine v_get (q := 129) dX4_offer_126 rfl fl_4_21 rfl rfl ?_
            refine v_iload_n (q := 130) dX4_offer_129 rfl rfl ?_
            refine v_iload (q := 132) dX4_offer_130 rfl rfl ?_
            refine v_iast (q := 133) dX4_offer_132 rfl (isI_d rfl) h.1 ?_
            have h := h.2
            exact v_ret0 dX4_offer_133 rfl ⟨rfl, h⟩
          · have h := h.2 (c)
            refine v_iload (q := 82) dX4_offer_80 rfl rfl ?_
            refine v_aload_n (q := 83) dX4_offer_82 rfl rfl ?_
            refine v_get (q := 86) dX4_offer_83 rfl fl_4_9 rfl rfl ?_
            refine v_iload_n (q := 87) dX4_offer_86 rfl rfl ?_
            refine v_iald (q := 88) dX4_offer_87 rfl (isI_d rfl) h.1 ?_
            have h := h.2
            refine v_icmp_ne (t := 133) (q := 91) dX4_offer_88 rfl (by decide) (fun c => ?_) (fun c => ?_)
            · have h := h.1 (c)
              exact v_ret0 dX4_offer_133 rfl ⟨rfl, h⟩
            · have h := h.2 (c)
              refine v_iload (q := 93) dX4_offer_91 rfl rfl ?_
              refine v_aload_n (q := 94) dX4_offer_93 rfl rfl ?_
              refine v_get (q := 97) dX4_offer_94 rfl fl_4_15 rfl rfl ?_
              refine v_iload_n (q := 98) dX4_offer_97 rfl rfl ?_
              refine v_iald (q := 99) dX4_offer_98 rfl (isI_d rfl) h.1 ?_
              have h := h.2
              refine v_icmp_ge (t := 133) (q := 102) dX4_offer_99 rfl (by decide) (fun c => ?_) (fun c => ?_)
              · have h := h.1 (c)
                exact v_ret0 dX4_offer_133 rfl ⟨rfl, h⟩
              · have h := h.2 (c)
                refine v_aload_n (q := 103) dX4_offer_102 rfl rfl ?_
                refine v_get (q := 106) dX4_offer_103 rfl fl_4_9 rfl rfl ?_
                refine v_iload_n (q := 107) dX4_offer_106 rfl rfl ?_
                refine v_iload (q := 109) dX4_offer_107 rfl rfl ?_
                refine v_iast (q := 110) dX4_offer_109 rfl (isI_d rfl) h.1 ?_
                have h := h.2
                refine v_aload_n (q := 111) dX4_offer_110 rfl rfl ?_
                refine v_get (q := 114) dX4_offer_111 rfl fl_4_15 rfl rfl ?_
                refine v_iload_n (q := 115) dX4_offer_114 rfl rfl ?_
                refine v_iload (q := 117) dX4_offer_115 rfl rfl ?_
                refine v_iast (q := 118) dX4_offer_117 rfl (isI_d rfl) h.1 ?_
                have h := h.2
                refine v_aload_n (q := 119) dX4_offer_118 rfl rfl ?_
                refine v_get (q := 122) dX4_offer_119 rfl fl_4_18 rfl rfl ?_
                refine v_iload_n (q := 123) dX4_offer_122 rfl rfl ?_
                refine v_iload_n (q := 124) dX4_offer_123 rfl rfl ?_
                refine v_iast (q := 125) dX4_offer_124 rfl (isI_d rfl) h.1 ?_
                have h := h.2
                refine v_aload_n (q := 126) dX4_offer_125 rfl rfl ?_
                refine v_get (q := 129) dX4_offer_126 rfl fl_4_21 rfl rfl ?_
                refine v_iload_n (q := 130) dX4_offer_129 rfl rfl ?_
                refine v_iload (q := 132) dX4_offer_130 rfl rfl ?_
                refine v_iast (q := 133) dX4_offer_132 rfl (isI_d rfl) h.1 ?_
                have h := h.2
                exact v_ret0 dX4_offer_133 rfl ⟨rfl, h⟩
      · have h := h.2 (c)
        exact v_ret0 dX4_offer_34 rfl ⟨rfl, h⟩
theorem eX4_offer {d : Nat} {σ : SS} {K : SS → Prop} (p1 : Int32) (p2 : Int32) (p3 : Int32) (p4 : Int32)  (hd1 : 1 ≤ d) (h : CTi mX4_isPlace (d - 1) [.ref 5, .int p1] σ (fun x1 s2 => ((x1 = 0) → (K s2)) ∧ ((¬ x1 = 0) → (CTi mX4_isPlace (d - 1) [.ref 5, .int (p1 + p3)] s2 (fun x3 s4 => ((x3 = 0) → (K s4)) ∧ ((¬ x3 = 0) → ((vp_in (p1 + p3) 11) ∧ (((¬ (s4.1 33 (p1 + p3).toNatClampNeg) = (-1000000)) → ((vp_in (p1 + p3) 11) ∧ ((vp_in (p1 + p3) 11) ∧ ((vp_in p1 11) ∧ ((((s4.1 33 p1.toNatClampNeg) = (-1000000)) → ((vp_in p1 11) ∧ ((vp_in p1 11) ∧ ((vp_in p1 11) ∧ ((vp_in p1 11) ∧ (K (sA (sA (sA (sA s4 33 p1.toNatClampNeg (p4 + (s4.1 33 (p1 + p3).toNatClampNeg))) 34 p1.toNatClampNeg ((nI 1) + (s4.1 34 (p1 + p3).toNatClampNeg))) 35 p1.toNatClampNeg p2) 36 p1.toNatClampNeg (p1 + p3)))))))) ∧ ((¬ (s4.1 33 p1.toNatClampNeg) = (-1000000)) → ((vp_in p1 11) ∧ ((((p4 + (s4.1 33 (p1 + p3).toNatClampNeg)) < (s4.1 33 p1.toNatClampNeg)) → ((vp_in p1 11) ∧ ((vp_in p1 11) ∧ ((vp_in p1 11) ∧ ((vp_in p1 11) ∧ (K (sA (sA (sA (sA s4 33 p1.toNatClampNeg (p4 + (s4.1 33 (p1 + p3).toNatClampNeg))) 34 p1.toNatClampNeg ((nI 1) + (s4.1 34 (p1 + p3).toNatClampNeg))) 35 p1.toNatClampNeg p2) 36 p1.toNatClampNeg (p1 + p3)))))))) ∧ ((¬ (p4 + (s4.1 33 (p1 + p3).toNatClampNeg)) < (s4.1 33 p1.toNatClampNeg)) → ((vp_in p1 11) ∧ (((¬ (p4 + (s4.1 33 (p1 + p3).toNatClampNeg)) = (s4.1 33 p1.toNatClampNeg)) → (K s4)) ∧ (((p4 + (s4.1 33 (p1 + p3).toNatClampNeg)) = (s4.1 33 p1.toNatClampNeg)) → ((vp_in p1 11) ∧ ((((s4.1 34 p1.toNatClampNeg) ≤ ((nI 1) + (s4.1 34 (p1 + p3).toNatClampNeg))) → (K s4)) ∧ ((¬ (s4.1 34 p1.toNatClampNeg) ≤ ((nI 1) + (s4.1 34 (p1 + p3).toNatClampNeg))) → ((vp_in p1 11) ∧ ((vp_in p1 11) ∧ ((vp_in p1 11) ∧ ((vp_in p1 11) ∧ (K (sA (sA (sA (sA s4 33 p1.toNatClampNeg (p4 + (s4.1 33 (p1 + p3).toNatClampNeg))) 34 p1.toNatClampNeg ((nI 1) + (s4.1 34 (p1 + p3).toNatClampNeg))) 35 p1.toNatClampNeg p2) 36 p1.toNatClampNeg (p1 + p3)))))))))))))))))))))) ∧ (((s4.1 33 (p1 + p3).toNatClampNeg) = (-1000000)) → (K s4)))))))))) : CTv mX4_offer d [.ref 5, .int p1, .int p2, .int p3, .int p4] σ K := CT_of (Q := (Qv K)) (by decide +kernel) rfl (by decide) (Nat.le_of_ble_eq_true rfl) rfl (bX4_offer_0 p1 p2 p3 p4 hd1 h)
set_option maxRecDepth 20000 in
theorem bX4_bestCost_0 {d : Nat} {σ : SS} {K : Int32 → SS → Prop}    (h : (vp_in (nI 0) 11) ∧ (K (σ.1 33 (nI 0).toNatClampNeg) σ)) : VV mX4_bestCost d s00 0 [some (.ref 5)] [] σ (Qi K) := by
  refine v_aload_n (q := 1) dX4_bestCost_0 rfl rfl ?_
  refine v_get (q := 4) dX4_bestCost_1 rfl fl_4_9 rfl rfl ?_
  refine v_iconst (v := (nI 0)) (q := 5) dX4_bestCost_4 rfl (by decide) ?_
  refine v_iald (q := 6) dX4_bestCost_5 rfl (isI_d rfl) h.1 ?_
  have h := h.2
  exact v_iret dX4_bestCost_6 rfl ⟨_, rfl, h⟩
theorem eX4_bestCost {d : Nat} {σ : SS} {K : Int32 → SS → Prop}    (h : (vp_in (nI 0) 11) ∧ (K (σ.1 33 (nI 0).toNatClampNeg) σ)) : CTi mX4_bestCost d [.ref 5] σ K := CT_of (Q := (Qi K)) (by decide +kernel) rfl (by decide) (Nat.le_of_ble_eq_true rfl) rfl (bX4_bestCost_0   h)
set_option maxRecDepth 20000 in
theorem bX4_pieceAt_0 {d : Nat} {σ : SS} {K : Int32 → SS → Prop} (p1 : Int32)   (h : ((p1 < 0) → (K (-1000000) σ)) ∧ ((¬ p1 < 0) → ((vp_in (nI 0) 11) ∧ (((p1 < (σ.1 34 (nI 0).toNatClampNeg)) → (VV mX4_pieceAt d s00 21 [some (.ref 5), some (.int p1), some (.int (nI 0)), some (.int (nI 0))] [] σ (Qi K))) ∧ ((¬ p1 < (σ.1 34 (nI 0).toNatClampNeg)) → (K (-1000000) σ)))))) : VV mX4_pieceAt d s00 0 [some (.ref 5), some (.int p1), none, none] [] σ (Qi K) := by
  refine v_iload_n (q := 1) dX4_pieceAt_0 rfl rfl ?_
  refine v_if_lt (t := 14) (q := 4) dX4_pieceAt_1 rfl (by decide) (fun c => ?_) (fun c => ?_)
  · have h := h.1 (c)
    refine v_ldc (v := (-1000000)) (q := 16) dX4_pieceAt_14 rfl cn_4_45 ?_
    exact v_iret dX4_pieceAt_16 rfl ⟨_, rfl, h⟩
  · have h := h.2 (c)
    refine v_iload_n (q := 5) dX4_pieceAt_4 rfl rfl ?_
    refine v_aload_n (q := 6) dX4_pieceAt_5 rfl rfl ?_
    refine v_get (q := 9) dX4_pieceAt_6 rfl fl_4_15 rfl rfl ?_
    refine v_iconst (v := (nI 0)) (q := 10) dX4_pieceAt_9 rfl (by decide) ?_
    refine v_iald (q := 11) dX4_pieceAt_10 rfl (isI_d rfl) h.1 ?_
    have h := h.2
    refine v_icmp_lt (t := 17) (q := 14) dX4_pieceAt_11 rfl (by decide) (fun c => ?_) (fun c => ?_)
    · have h := h.1 (c)
      refine v_iconst (v := (nI 0)) (q := 18) dX4_pieceAt_17 rfl (by decide) ?_
      refine v_istore_n (q := 19) dX4_pieceAt_18 rfl (by decide) rfl ?_
      refine v_iconst (v := (nI 0)) (q := 20) dX4_pieceAt_19 rfl (by decide) ?_
      refine v_istore_n (q := 21) dX4_pieceAt_20 rfl (by decide) rfl ?_
      exact h
    · have h := h.2 (c)
      refine v_ldc (v := (-1000000)) (q := 16) dX4_pieceAt_14 rfl cn_4_45 ?_
      exact v_iret dX4_pieceAt_16 rfl ⟨_, rfl, h⟩
theorem eX4_pieceAt {d : Nat} {σ : SS} {K : Int32 → SS → Prop} (p1 : Int32)   (h : ((p1 < 0) → (K (-1000000) σ)) ∧ ((¬ p1 < 0) → ((vp_in (nI 0) 11) ∧ (((p1 < (σ.1 34 (nI 0).toNatClampNeg)) → (VV mX4_pieceAt d s00 21 [some (.ref 5), some (.int p1), some (.int (nI 0)), some (.int (nI 0))] [] σ (Qi K))) ∧ ((¬ p1 < (σ.1 34 (nI 0).toNatClampNeg)) → (K (-1000000) σ)))))) : CTi mX4_pieceAt d [.ref 5, .int p1] σ K := CT_of (Q := (Qi K)) (by decide +kernel) rfl (by decide) (Nat.le_of_ble_eq_true rfl) rfl (bX4_pieceAt_0 p1  h)
set_option maxRecDepth 20000 in
theorem bX4_pieceAt_21 {d : Nat} {σ : SS} {K : Int32 → SS → Prop} (v1 : Int32) (v2 : Int32) (v3 : Int32)   (h : ((v1 ≤ v3) → ((vp_in v2 11) ∧ (K (σ.1 35 v2.toNatClampNeg) σ))) ∧ ((¬ v1 ≤ v3) → ((vp_in v2 11) ∧ (VV mX4_pieceAt d s00 21 [some (.ref 5), some (.int v1), some (.int (σ.1 36 v2.toNatClampNeg)), some (.int (v3 + nI 1))] [] σ (Qi K))))) : VV mX4_pieceAt d s00 21 [some (.ref 5), some (.int v1), some (.int v2), some (.int v3)] [] σ (Qi K) := by
  refine v_iload_n (q := 22) dX4_pieceAt_21 rfl rfl ?_
  refine v_iload_n (q := 23) dX4_pieceAt_22 rfl rfl ?_
  refine v_icmp_ge (t := 39) (q := 26) dX4_pieceAt_23 rfl (by decide) (fun c => ?_) (fun c => ?_)
  · have h := h.1 (c)
    refine v_aload_n (q := 40) dX4_pieceAt_39 rfl rfl ?_
    refine v_get (q := 43) dX4_pieceAt_40 rfl fl_4_18 rfl rfl ?_
    refine v_iload_n (q := 44) dX4_pieceAt_43 rfl rfl ?_
    refine v_iald (q := 45) dX4_pieceAt_44 rfl (isI_d rfl) h.1 ?_
    have h := h.2
    exact v_iret dX4_pieceAt_45 rfl ⟨_, rfl, h⟩
  · have h := h.2 (c)
    refine v_aload_n (q := 27) dX4_pieceAt_26 rfl rfl ?_
    refine v_get (q := 30) dX4_pieceAt_27 rfl fl_4_21 rfl rfl ?_
    refine v_iload_n (q := 31) dX4_pieceAt_30 rfl rfl ?_
    refine v_iald (q := 32) dX4_pieceAt_31 rfl (isI_d rfl) h.1 ?_
    have h := h.2
    refine v_istore_n (q := 33) dX4_pieceAt_32 rfl (by decide) rfl ?_
    refine v_iinc (y := (v3 + nI 1)) (q := 36) dX4_pieceAt_33 rfl rfl (congrArg (fun z => v3 + z) (by decide)) (by decide) rfl ?_
    refine v_goto (q := 21) dX4_pieceAt_36 (by decide) ?_
    exact h
set_option maxRecDepth 20000 in
theorem bX5_measure_0 {d : Nat} {σ : SS} {K : Int32 → SS → Prop} {se w f : Nat} {se2 w2 f2 : Nat} (hse : Sen se w f) (hse2 : Sen se2 w2 f2) (hd1 : 1 ≤ d) (h : (((if (σ.2.1 f) < (σ.2.1 f2) then (σ.2.1 f2) else (σ.2.1 f)) < (nI 1)) → (K (nI 0) σ)) ∧ ((¬ (if (σ.2.1 f) < (σ.2.1 f2) then (σ.2.1 f2) else (σ.2.1 f)) < (nI 1)) → ((((if (σ.2.1 f) < (σ.2.1 f2) then (σ.2.1 f2) else (σ.2.1 f)) ≤ (nI 10)) → (CTi mX5_distance (d - 1) [.ref 8, .ref se, .ref se2] σ (fun x1 s2 => (¬ (if (σ.2.1 f) < (σ.2.1 f2) then (σ.2.1 f2) else (σ.2.1 f)) = 0) ∧ (K (((nI 100) * ((if (σ.2.1 f) < (σ.2.1 f2) then (σ.2.1 f2) else (σ.2.1 f)) - x1)) / (if (σ.2.1 f) < (σ.2.1 f2) then (σ.2.1 f2) else (σ.2.1 f))) s2)))) ∧ ((¬ (if (σ.2.1 f) < (σ.2.1 f2) then (σ.2.1 f2) else (σ.2.1 f)) ≤ (nI 10)) → (K (nI 0) σ))))) : VV mX5_measure d s00 0 [some (.ref 8), some (.ref se), some (.ref se2), none] [] σ (Qi K) := by
  refine v_aload_n (q := 1) dX5_measure_0 rfl rfl ?_
  refine v_get (q := 4) dX5_measure_1 rfl fl_5_16 (hse.1 _) rfl ?_
  refine v_aload_n (q := 5) dX5_measure_4 rfl rfl ?_
  refine v_get (q := 8) dX5_measure_5 rfl fl_5_16 (hse2.1 _) rfl ?_
  refine v_max (q := 11) dX5_measure_8 rfl lm_5_22 hd1 (Nat.le_of_ble_eq_true rfl) ?_
  refine v_istore_n (q := 12) dX5_measure_11 rfl (by decide) rfl ?_
  refine v_iload_n (q := 13) dX5_measure_12 rfl rfl ?_
  refine v_iconst (v := (nI 1)) (q := 14) dX5_measure_13 rfl (by decide) ?_
  refine v_icmp_lt (t := 23) (q := 17) dX5_measure_14 rfl (by decide) (fun c => ?_) (fun c => ?_)
  · have h := h.1 (c)
    refine v_iconst (v := (nI 0)) (q := 24) dX5_measure_23 rfl (by decide) ?_
    refine v_goto (q := 40) dX5_measure_24 (by decide) ?_
    exact v_iret dX5_measure_40 rfl ⟨_, rfl, h⟩
  · have h := h.2 (c)
    refine v_iload_n (q := 18) dX5_measure_17 rfl rfl ?_
    refine v_bipush (v := (nI 10)) (q := 20) dX5_measure_18 rfl (by decide) ?_
    refine v_icmp_le (t := 27) (q := 23) dX5_measure_20 rfl (by decide) (fun c => ?_) (fun c => ?_)
    · have h := h.1 (c)
      refine v_bipush (v := (nI 100)) (q := 29) dX5_measure_27 rfl (by decide) ?_
      refine v_iload_n (q := 30) dX5_measure_29 rfl rfl ?_
      refine v_aload_n (q := 31) dX5_measure_30 rfl rfl ?_
      refine v_aload_n (q := 32) dX5_measure_31 rfl rfl ?_
      refine v_aload_n (q := 33) dX5_measure_32 rfl rfl ?_
      refine v_callV (As := [.ref se, .ref se2]) (n := 2) (q := 36) dX5_measure_33 rfl lk_5_28 hd1 rfl rfl (Nat.le_of_ble_eq_true rfl) (CT.imp h (fun r s2 h => ?_))
      obtain ⟨x1, rfl, h⟩ := h
      show VV mX5_measure d s00 36 [some (.ref 8), some (.ref se), some (.ref se2), some (.int (if (σ.2.1 f) < (σ.2.1 f2) then (σ.2.1 f2) else (σ.2.1 f)))] [.int x1, .int (if (σ.2.1 f) < (σ.2.1 f2) then (σ.2.1 f2) else (σ.2.1 f)), .int (nI 100)] s2 (Qi K)
      refine v_isub (q := 37) dX5_measure_36 rfl ?_
      refine v_imul (q := 38) dX5_measure_37 rfl ?_
      refine v_iload_n (q := 39) dX5_measure_38 rfl rfl ?_
      refine v_idiv (q := 40) dX5_measure_39 rfl h.1 ?_
      have h := h.2
      exact v_iret dX5_measure_40 rfl ⟨_, rfl, h⟩
    · have h := h.2 (c)
      refine v_iconst (v := (nI 0)) (q := 24) dX5_measure_23 rfl (by decide) ?_
      refine v_goto (q := 40) dX5_measure_24 (by decide) ?_
      exact v_iret dX5_measure_40 rfl ⟨_, rfl, h⟩
theorem eX5_measure {d : Nat} {σ : SS} {K : Int32 → SS → Prop} {se w f : Nat} {se2 w2 f2 : Nat} (hse : Sen se w f) (hse2 : Sen se2 w2 f2) (hd1 : 1 ≤ d) (h : (((if (σ.2.1 f) < (σ.2.1 f2) then (σ.2.1 f2) else (σ.2.1 f)) < (nI 1)) → (K (nI 0) σ)) ∧ ((¬ (if (σ.2.1 f) < (σ.2.1 f2) then (σ.2.1 f2) else (σ.2.1 f)) < (nI 1)) → ((((if (σ.2.1 f) < (σ.2.1 f2) then (σ.2.1 f2) else (σ.2.1 f)) ≤ (nI 10)) → (CTi mX5_distance (d - 1) [.ref 8, .ref se, .ref se2] σ (fun x1 s2 => (¬ (if (σ.2.1 f) < (σ.2.1 f2) then (σ.2.1 f2) else (σ.2.1 f)) = 0) ∧ (K (((nI 100) * ((if (σ.2.1 f) < (σ.2.1 f2) then (σ.2.1 f2) else (σ.2.1 f)) - x1)) / (if (σ.2.1 f) < (σ.2.1 f2) then (σ.2.1 f2) else (σ.2.1 f))) s2)))) ∧ ((¬ (if (σ.2.1 f) < (σ.2.1 f2) then (σ.2.1 f2) else (σ.2.1 f)) ≤ (nI 10)) → (K (nI 0) σ))))) : CTi mX5_measure d [.ref 8, .ref se, .ref se2] σ K := CT_of (Q := (Qi K)) (by decide +kernel) rfl (by decide) (Nat.le_of_ble_eq_true rfl) rfl (bX5_measure_0 hse hse2 hd1 h)
set_option maxRecDepth 20000 in
theorem bX5_distance_0 {d : Nat} {σ : SS} {K : Int32 → SS → Prop} {se w f : Nat} {se2 w2 f2 : Nat} (hse : Sen se w f) (hse2 : Sen se2 w2 f2)  (h : VV mX5_distance d s00 2 [some (.ref 8), some (.ref se), some (.ref se2), some (.int (nI 0)), none, none, none] [] σ (Qi K)) : VV mX5_distance d s00 0 [some (.ref 8), some (.ref se), some (.ref se2), none, none, none, none] [] σ (Qi K) := by
  refine v_iconst (v := (nI 0)) (q := 1) dX5_distance_0 rfl (by decide) ?_
  refine v_istore_n (q := 2) dX5_distance_1 rfl (by decide) rfl ?_
  exact h
theorem eX5_distance {d : Nat} {σ : SS} {K : Int32 → SS → Prop} {se w f : Nat} {se2 w2 f2 : Nat} (hse : Sen se w f) (hse2 : Sen se2 w2 f2)  (h : VV mX5_distance d s00 2 [some (.ref 8), some (.ref se), some (.ref se2), some (.int (nI 0)), none, none, none] [] σ (Qi K)) : CTi mX5_distance d [.ref 8, .ref se, .ref se2] σ K := CT_of (Q := (Qi K)) (by decide +kernel) rfl (by decide) (Nat.le_of_ble_eq_true rfl) rfl (bX5_distance_0 hse hse2  h)
set_option maxRecDepth 20000 in
theorem bX5_distance_2 {d : Nat} {σ : SS} {K : Int32 → SS → Prop} {se w f : Nat} {se2 w2 f2 : Nat} (v3 : Int32) (hse : Sen se w f) (hse2 : Sen se2 w2 f2)  (h : (((σ.2.1 f) < v3) → ((vp_in (σ.2.1 f) 11) ∧ ((vp_in (σ.2.1 f2) 11) ∧ (K (σ.1 (16 + (σ.2.1 f).toNatClampNeg) (σ.2.1 f2).toNatClampNeg) σ)))) ∧ ((¬ (σ.2.1 f) < v3) → (VV mX5_distance d s00 13 [some (.ref 8), some (.ref se), some (.ref se2), some (.int v3), some (.int (nI 0)), none, none] [] σ (Qi K)))) : VV mX5_distance d s00 2 [some (.ref 8), some (.ref se), some (.ref se2), some (.int v3), none, none, none] [] σ (Qi K) := by
  refine v_iload_n (q := 3) dX5_distance_2 rfl rfl ?_
  refine v_aload_n (q := 4) dX5_distance_3 rfl rfl ?_
  refine v_get (q := 7) dX5_distance_4 rfl fl_5_16 (hse.1 _) rfl ?_
  refine v_icmp_gt (t := 143) (q := 10) dX5_distance_7 rfl (by decide) (fun c => ?_) (fun c => ?_)
  · have h := h.1 (c)
    refine v_aload_n (q := 144) dX5_distance_143 rfl rfl ?_
    refine v_get (q := 147) dX5_distance_144 rfl fl_5_11 rfl rfl ?_
    refine v_aload_n (q := 148) dX5_distance_147 rfl rfl ?_
    refine v_get (q := 151) dX5_distance_148 rfl fl_5_16 (hse.1 _) rfl ?_
    refine v_aald (n := 11) (b := 16) (q := 152) dX5_distance_151 rfl (by decide) h.1 ?_
    have hv1 := h.1
    have h := h.2
    refine v_aload_n (q := 153) dX5_distance_152 rfl rfl ?_
    refine v_get (q := 156) dX5_distance_153 rfl fl_5_16 (hse2.1 _) rfl ?_
    refine v_iald (q := 157) dX5_distance_156 rfl (isI_s hv1) (by rw [al_s hv1]; exact h.1) ?_
    have h := h.2
    exact v_iret dX5_distance_157 rfl ⟨_, rfl, h⟩
  · have h := h.2 (c)
    refine v_iconst (v := (nI 0)) (q := 11) dX5_distance_10 rfl (by decide) ?_
    refine v_istore (q := 13) dX5_distance_11 rfl (by decide) rfl ?_
    exact h
set_option maxRecDepth 20000 in
theorem bX5_distance_13 {d : Nat} {σ : SS} {K : Int32 → SS → Prop} {se w f : Nat} {se2 w2 f2 : Nat} (v3 : Int32) (v4 : Int32) (hse : Sen se w f) (hse2 : Sen se2 w2 f2)  (h : (((σ.2.1 f2) < v4) → (VV mX5_distance d s00 2 [some (.ref 8), some (.ref se), some (.ref se2), some (.int (v3 + nI 1)), none, none, none] [] σ (Qi K))) ∧ ((¬ (σ.2.1 f2) < v4) → (((v3 = 0) → ((vp_in v3 11) ∧ ((vp_in v4 11) ∧ (VV mX5_distance d s00 131 [some (.ref 8), some (.ref se), some (.ref se2), some (.int v3), some (.int v4), none, none] [] (sA σ (16 + v3.toNatClampNeg) v4.toNatClampNeg (v3 + v4)) (Qi K))))) ∧ ((¬ v3 = 0) → (((¬ v4 = 0) → ((vp_in (v3 - (nI 1)) 10) ∧ (¬ (σ.2.1 f) ≤ (v3 - (nI 1))) ∧ ((vp_in (v4 - (nI 1)) 10) ∧ (¬ (σ.2.1 f2) ≤ (v4 - (nI 1))) ∧ (((¬ (σ.1 w (v3 - (nI 1)).toNatClampNeg) = (σ.1 w2 (v4 - (nI 1)).toNatClampNeg)) → (VV mX5_distance d s00 72 [some (.ref 8), some (.ref se), some (.ref se2), some (.int v3), some (.int v4), some (.int (nI 1)), none] [] σ (Qi K))) ∧ (((σ.1 w (v3 - (nI 1)).toNatClampNeg) = (σ.1 w2 (v4 - (nI 1)).toNatClampNeg)) → (VV mX5_distance d s00 72 [some (.ref 8), some (.ref se), some (.ref se2), some (.int v3), some (.int v4), some (.int (nI 0)), none] [] σ (Qi K))))))) ∧ ((v4 = 0) → ((vp_in v3 11) ∧ ((vp_in v4 11) ∧ (VV mX5_distance d s00 131 [some (.ref 8), some (.ref se), some (.ref se2), some (.int v3), some (.int v4), none, none] [] (sA σ (16 + v3.toNatClampNeg) v4.toNatClampNeg (v3 + v4)) (Qi K)))))))))) : VV mX5_distance d s00 13 [some (.ref 8), some (.ref se), some (.ref se2), some (.int v3), some (.int v4), none, none] [] σ (Qi K) := by
  refine v_iload (q := 15) dX5_distance_13 rfl rfl ?_
  refine v_aload_n (q := 16) dX5_distance_15 rfl rfl ?_
  refine v_get (q := 19) dX5_distance_16 rfl fl_5_16 (hse2.1 _) rfl ?_
  refine v_icmp_gt (t := 137) (q := 22) dX5_distance_19 rfl (by decide) (fun c => ?_) (fun c => ?_)
  · have h := h.1 (c)
    refine v_iinc (y := (v3 + nI 1)) (q := 140) dX5_distance_137 rfl rfl (congrArg (fun z => v3 + z) (by decide)) (by decide) rfl ?_
    refine v_goto (q := 2) dX5_distance_140 (by decide) ?_
    exact v_msk [true, true, true, true, false, false, false] h
  · have h := h.2 (c)
    refine v_iload_n (q := 23) dX5_distance_22 rfl rfl ?_
    refine v_if_eq (t := 31) (q := 26) dX5_distance_23 rfl (by decide) (fun c => ?_) (fun c => ?_)
    · have h := h.1 (c)
      refine v_aload_n (q := 32) dX5_distance_31 rfl rfl ?_
      refine v_get (q := 35) dX5_distance_32 rfl fl_5_11 rfl rfl ?_
      refine v_iload_n (q := 36) dX5_distance_35 rfl rfl ?_
      refine v_aald (n := 11) (b := 16) (q := 37) dX5_distance_36 rfl (by decide) h.1 ?_
      have hv1 := h.1
      have h := h.2
      refine v_iload (q := 39) dX5_distance_37 rfl rfl ?_
      refine v_iload_n (q := 40) dX5_distance_39 rfl rfl ?_
      refine v_iload (q := 42) dX5_distance_40 rfl rfl ?_
      refine v_iadd (q := 43) dX5_distance_42 rfl ?_
      refine v_iast (q := 44) dX5_distance_43 rfl (isI_s hv1) (by rw [al_s hv1]; exact h.1) ?_
      have h := h.2
      refine v_goto (q := 131) dX5_distance_44 (by decide) ?_
      exact h
    · have h := h.2 (c)
      refine v_iload (q := 28) dX5_distance_26 rfl rfl ?_
      refine v_if_ne (t := 47) (q := 31) dX5_distance_28 rfl (by decide) (fun c => ?_) (fun c => ?_)
      · have h := h.1 (c)
        refine v_aload_n (q := 48) dX5_distance_47 rfl rfl ?_
        refine v_iload_n (q := 49) dX5_distance_48 rfl rfl ?_
        refine v_iconst (v := (nI 1)) (q := 50) dX5_distance_49 rfl (by decide) ?_
        refine v_isub (q := 51) dX5_distance_50 rfl ?_
        refine v_wordAt (q := 54) dX5_distance_51 rfl lk_5_32 hse (Nat.le_of_ble_eq_true rfl) h.1 h.2.1 ?_
        have h := h.2.2
        refine v_aload_n (q := 55) dX5_distance_54 rfl rfl ?_
        refine v_iload (q := 57) dX5_distance_55 rfl rfl ?_
        refine v_iconst (v := (nI 1)) (q := 58) dX5_distance_57 rfl (by decide) ?_
        refine v_isub (q := 59) dX5_distance_58 rfl ?_
        refine v_wordAt (q := 62) dX5_distance_59 rfl lk_5_32 hse2 (Nat.le_of_ble_eq_true rfl) h.1 h.2.1 ?_
        have h := h.2.2
        refine v_icmp_ne (t := 69) (q := 65) dX5_distance_62 rfl (by decide) (fun c => ?_) (fun c => ?_)
        · have h := h.1 (c)
          refine v_iconst (v := (nI 1)) (q := 70) dX5_distance_69 rfl (by decide) ?_
          refine v_istore (q := 72) dX5_distance_70 rfl (by decide) rfl ?_
          exact h
        · have h := h.2 (c)
          refine v_iconst (v := (nI 0)) (q := 66) dX5_distance_65 rfl (by decide) ?_
          refine v_goto (q := 70) dX5_distance_66 (by decide) ?_
          refine v_istore (q := 72) dX5_distance_70 rfl (by decide) rfl ?_
          exact h
      · have h := h.2 (c)
        refine v_aload_n (q := 32) dX5_distance_31 rfl rfl ?_
        refine v_get (q := 35) dX5_distance_32 rfl fl_5_11 rfl rfl ?_
        refine v_iload_n (q := 36) dX5_distance_35 rfl rfl ?_
        refine v_aald (n := 11) (b := 16) (q := 37) dX5_distance_36 rfl (by decide) h.1 ?_
        have hv2 := h.1
        have h := h.2
        refine v_iload (q := 39) dX5_distance_37 rfl rfl ?_
        refine v_iload_n (q := 40) dX5_distance_39 rfl rfl ?_
        refine v_iload (q := 42) dX5_distance_40 rfl rfl ?_
        refine v_iadd (q := 43) dX5_distance_42 rfl ?_
        refine v_iast (q := 44) dX5_distance_43 rfl (isI_s hv2) (by rw [al_s hv2]; exact h.1) ?_
        have h := h.2
        refine v_goto (q := 131) dX5_distance_44 (by decide) ?_
        exact h
set_option maxRecDepth 20000 in
theorem bX5_distance_72 {d : Nat} {σ : SS} {K : Int32 → SS → Prop} {se w f : Nat} {se2 w2 f2 : Nat} (v3 : Int32) (v4 : Int32) (v5 : Int32) (hse : Sen se w f) (hse2 : Sen se2 w2 f2) (hd1 : 1 ≤ d) (h : (vp_in (v3 - (nI 1)) 11) ∧ ((vp_in v4 11) ∧ ((vp_in v3 11) ∧ ((vp_in (v4 - (nI 1)) 11) ∧ ((vp_in v3 11) ∧ ((vp_in (v3 - (nI 1)) 11) ∧ ((vp_in (v4 - (nI 1)) 11) ∧ ((vp_in v4 11) ∧ (VV mX5_distance d s00 131 [some (.ref 8), some (.ref se), some (.ref se2), some (.int v3), some (.int v4), none, none] [] (sA σ (16 + v3.toNatClampNeg) v4.toNatClampNeg (if ((σ.1 (16 + (v3 - (nI 1)).toNatClampNeg) (v4 - (nI 1)).toNatClampNeg) + v5) < ((nI 1) + (if (σ.1 (16 + v3.toNatClampNeg) (v4 - (nI 1)).toNatClampNeg) < (σ.1 (16 + (v3 - (nI 1)).toNatClampNeg) v4.toNatClampNeg) then (σ.1 (16 + v3.toNatClampNeg) (v4 - (nI 1)).toNatClampNeg) else (σ.1 (16 + (v3 - (nI 1)).toNatClampNeg) v4.toNatClampNeg))) then ((σ.1 (16 + (v3 - (nI 1)).toNatClampNeg) (v4 - (nI 1)).toNatClampNeg) + v5) else ((nI 1) + (if (σ.1 (16 + v3.toNatClampNeg) (v4 - (nI 1)).toNatClampNeg) < (σ.1 (16 + (v3 - (nI 1)).toNatClampNeg) v4.toNatClampNeg) then (σ.1 (16 + v3.toNatClampNeg) (v4 - (nI 1)).toNatClampNeg) else (σ.1 (16 + (v3 - (nI 1)).toNatClampNeg) v4.toNatClampNeg))))) (Qi K)))))))))) : VV mX5_distance d s00 72 [some (.ref 8), some (.ref se), some (.ref se2), some (.int v3), some (.int v4), some (.int v5), none] [] σ (Qi K) := by
  refine v_iconst (v := (nI 1)) (q := 73) dX5_distance_72 rfl (by decide) ?_
  refine v_aload_n (q := 74) dX5_distance_73 rfl rfl ?_
  refine v_get (q := 77) dX5_distance_74 rfl fl_5_11 rfl rfl ?_
  refine v_iload_n (q := 78) dX5_distance_77 rfl rfl ?_
  refine v_iconst (v := (nI 1)) (q := 79) dX5_distance_78 rfl (by decide) ?_
  refine v_isub (q := 80) dX5_distance_79 rfl ?_
  refine v_aald (n := 11) (b := 16) (q := 81) dX5_distance_80 rfl (by decide) h.1 ?_
  have hv1 := h.1
  have h := h.2
  refine v_iload (q := 83) dX5_distance_81 rfl rfl ?_
  refine v_iald (q := 84) dX5_distance_83 rfl (isI_s hv1) (by rw [al_s hv1]; exact h.1) ?_
  have h := h.2
  refine v_aload_n (q := 85) dX5_distance_84 rfl rfl ?_
  refine v_get (q := 88) dX5_distance_85 rfl fl_5_11 rfl rfl ?_
  refine v_iload_n (q := 89) dX5_distance_88 rfl rfl ?_
  refine v_aald (n := 11) (b := 16) (q := 90) dX5_distance_89 rfl (by decide) h.1 ?_
  have hv2 := h.1
  have h := h.2
  refine v_iload (q := 92) dX5_distance_90 rfl rfl ?_
  refine v_iconst (v := (nI 1)) (q := 93) dX5_distance_92 rfl (by decide) ?_
  refine v_isub (q := 94) dX5_distance_93 rfl ?_
  refine v_iald (q := 95) dX5_distance_94 rfl (isI_s hv2) (by rw [al_s hv2]; exact h.1) ?_
  have h := h.2
  refine v_min (q := 98) dX5_distance_95 rfl lm_5_36 hd1 (Nat.le_of_ble_eq_true rfl) ?_
  refine v_iadd (q := 99) dX5_distance_98 rfl ?_
  refine v_istore (q := 101) dX5_distance_99 rfl (by decide) rfl ?_
  refine v_aload_n (q := 102) dX5_distance_101 rfl rfl ?_
  refine v_get (q := 105) dX5_distance_102 rfl fl_5_11 rfl rfl ?_
  refine v_iload_n (q := 106) dX5_distance_105 rfl rfl ?_
  refine v_aald (n := 11) (b := 16) (q := 107) dX5_distance_106 rfl (by decide) h.1 ?_
  have hv3 := h.1
  have h := h.2
  refine v_iload (q := 109) dX5_distance_107 rfl rfl ?_
  refine v_iload (q := 111) dX5_distance_109 rfl rfl ?_
  refine v_aload_n (q := 112) dX5_distance_111 rfl rfl ?_
  refine v_get (q := 115) dX5_distance_112 rfl fl_5_11 rfl rfl ?_
  refine v_iload_n (q := 116) dX5_distance_115 rfl rfl ?_
  refine v_iconst (v := (nI 1)) (q := 117) dX5_distance_116 rfl (by decide) ?_
  refine v_isub (q := 118) dX5_distance_117 rfl ?_
  refine v_aald (n := 11) (b := 16) (q := 119) dX5_distance_118 rfl (by decide) h.1 ?_
  have hv4 := h.1
  have h := h.2
  refine v_iload (q := 121) dX5_distance_119 rfl rfl ?_
  refine v_iconst (v := (nI 1)) (q := 122) dX5_distance_121 rfl (by decide) ?_
  refine v_isub (q := 123) dX5_distance_122 rfl ?_
  refine v_iald (q := 124) dX5_distance_123 rfl (isI_s hv4) (by rw [al_s hv4]; exact h.1) ?_
  have h := h.2
  refine v_iload (q := 126) dX5_distance_124 rfl rfl ?_
  refine v_iadd (q := 127) dX5_distance_126 rfl ?_
  refine v_min (q := 130) dX5_distance_127 rfl lm_5_36 hd1 (Nat.le_of_ble_eq_true rfl) ?_
  refine v_iast (q := 131) dX5_distance_130 rfl (isI_s hv3) (by rw [al_s hv3]; exact h.1) ?_
  have h := h.2
  exact v_msk [true, true, true, true, true, false, false] h
set_option maxRecDepth 20000 in
theorem bX5_distance_131 {d : Nat} {σ : SS} {K : Int32 → SS → Prop} {se w f : Nat} {se2 w2 f2 : Nat} (v3 : Int32) (v4 : Int32) (hse : Sen se w f) (hse2 : Sen se2 w2 f2)  (h : VV mX5_distance d s00 13 [some (.ref 8), some (.ref se), some (.ref se2), some (.int v3), some (.int (v4 + nI 1)), none, none] [] σ (Qi K)) : VV mX5_distance d s00 131 [some (.ref 8), some (.ref se), some (.ref se2), some (.int v3), some (.int v4), none, none] [] σ (Qi K) := by
  refine v_iinc (y := (v4 + nI 1)) (q := 134) dX5_distance_131 rfl rfl (congrArg (fun z => v4 + z) (by decide)) (by decide) rfl ?_
  refine v_goto (q := 13) dX5_distance_134 (by decide) ?_
  exact h
set_option maxRecDepth 20000 in
theorem bX6_addMember_0 {d : Nat} {σ : SS} {K : Int32 → SS → Prop}   (hd1 : 1 ≤ d) (h : CTi mX2_members (d - 1) [.ref 1] σ (fun x1 s2 => ((x1 < (nI 6)) → (CTv mX0_keep (d - 1) [.ref 2, .ref 1] s2 (fun s4 => CTi mX2_startMember (d - 1) [.ref 1] s4 (fun x5 s6 => K x5 s6)))) ∧ ((¬ x1 < (nI 6)) → (K (-1000004) s2)))) : VV mX6_addMember d s00 0 [some (.ref 0)] [] σ (Qi K) := by
  refine v_aload_n (q := 1) dX6_addMember_0 rfl rfl ?_
  refine v_get (q := 4) dX6_addMember_1 rfl fl_6_10 rfl rfl ?_
  refine v_callN (As := []) (n := 0) (q := 7) dX6_addMember_4 rfl lk_6_44 hd1 rfl rfl (Nat.le_of_ble_eq_true rfl) (CT.imp h (fun r s2 h => ?_))
  obtain ⟨x1, rfl, h⟩ := h
  show VV mX6_addMember d s00 7 [some (.ref 0)] [.int x1] s2 (Qi K)
  refine v_bipush (v := (nI 6)) (q := 9) dX6_addMember_7 rfl (by decide) ?_
  refine v_icmp_lt (t := 15) (q := 12) dX6_addMember_9 rfl (by decide) (fun c => ?_) (fun c => ?_)
  · have h := h.1 (c)
    refine v_aload_n (q := 16) dX6_addMember_15 rfl rfl ?_
    refine v_get (q := 19) dX6_addMember_16 rfl fl_6_19 rfl rfl ?_
    refine v_aload_n (q := 20) dX6_addMember_19 rfl rfl ?_
    refine v_get (q := 23) dX6_addMember_20 rfl fl_6_10 rfl rfl ?_
    refine v_callN (As := [.ref 1]) (n := 1) (q := 26) dX6_addMember_23 rfl lk_6_49 hd1 rfl rfl (Nat.le_of_ble_eq_true rfl) (CT.imp h (fun r s4 h => ?_))
    obtain ⟨rfl, h⟩ := h
    show VV mX6_addMember d s00 26 [some (.ref 0)] [] s4 (Qi K)
    refine v_aload_n (q := 27) dX6_addMember_26 rfl rfl ?_
    refine v_get (q := 30) dX6_addMember_27 rfl fl_6_10 rfl rfl ?_
    refine v_callN (As := []) (n := 0) (q := 33) dX6_addMember_30 rfl lk_6_53 hd1 rfl rfl (Nat.le_of_ble_eq_true rfl) (CT.imp h (fun r s6 h => ?_))
    obtain ⟨x5, rfl, h⟩ := h
    show VV mX6_addMember d s00 33 [some (.ref 0)] [.int x5] s6 (Qi K)
    exact v_iret dX6_addMember_33 rfl ⟨_, rfl, h⟩
  · have h := h.2 (c)
    refine v_ldc (v := (-1000004)) (q := 14) dX6_addMember_12 rfl cn_6_48 ?_
    exact v_iret dX6_addMember_14 rfl ⟨_, rfl, h⟩
theorem eX6_addMember {d : Nat} {σ : SS} {K : Int32 → SS → Prop}   (hd1 : 1 ≤ d) (h : CTi mX2_members (d - 1) [.ref 1] σ (fun x1 s2 => ((x1 < (nI 6)) → (CTv mX0_keep (d - 1) [.ref 2, .ref 1] s2 (fun s4 => CTi mX2_startMember (d - 1) [.ref 1] s4 (fun x5 s6 => K x5 s6)))) ∧ ((¬ x1 < (nI 6)) → (K (-1000004) s2)))) : CTi mX6_addMember d [.ref 0] σ K := CT_of (Q := (Qi K)) (by decide +kernel) rfl (by decide) (Nat.le_of_ble_eq_true rfl) rfl (bX6_addMember_0  hd1 h)
set_option maxRecDepth 20000 in
theorem bX6_setPrice_0 {d : Nat} {σ : SS} {K : Int32 → SS → Prop} (p1 : Int32) (p2 : Int32)  (hd1 : 1 ≤ d) (h : CTi mX2_hasMember (d - 1) [.ref 1, .int p1] σ (fun x1 s2 => ((¬ x1 = 0) → (((p2 < 0) → (K (-1000002) s2)) ∧ ((¬ p2 < 0) → (((p2 ≤ (nI 200)) → (CTv mX0_keep (d - 1) [.ref 2, .ref 1] s2 (fun s4 => CTi mX2_priceOf (d - 1) [.ref 1, .int p1] s4 (fun x5 s6 => CTv mX2_changePrice (d - 1) [.ref 1, .int p1, .int p2] s6 (fun s8 => K x5 s8))))) ∧ ((¬ p2 ≤ (nI 200)) → (K (-1000002) s2)))))) ∧ ((x1 = 0) → (K (-1000001) s2)))) : VV mX6_setPrice d s00 0 [some (.ref 0), some (.int p1), some (.int p2), none] [] σ (Qi K) := by
  refine v_aload_n (q := 1) dX6_setPrice_0 rfl rfl ?_
  refine v_get (q := 4) dX6_setPrice_1 rfl fl_6_10 rfl rfl ?_
  refine v_iload_n (q := 5) dX6_setPrice_4 rfl rfl ?_
  refine v_callN (As := [.int p1]) (n := 1) (q := 8) dX6_setPrice_5 rfl lk_6_56 hd1 rfl rfl (Nat.le_of_ble_eq_true rfl) (CT.imp h (fun r s2 h => ?_))
  obtain ⟨x1, rfl, h⟩ := h
  show VV mX6_setPrice d s00 8 [some (.ref 0), some (.int p1), some (.int p2), none] [.int x1] s2 (Qi K)
  refine v_if_ne (t := 14) (q := 11) dX6_setPrice_8 rfl (by decide) (fun c => ?_) (fun c => ?_)
  · have h := h.1 (c)
    refine v_iload_n (q := 15) dX6_setPrice_14 rfl rfl ?_
    refine v_if_lt (t := 25) (q := 18) dX6_setPrice_15 rfl (by decide) (fun c => ?_) (fun c => ?_)
    · have h := h.1 (c)
      refine v_ldc (v := (-1000002)) (q := 27) dX6_setPrice_25 rfl cn_6_61 ?_
      exact v_iret dX6_setPrice_27 rfl ⟨_, rfl, h⟩
    · have h := h.2 (c)
      refine v_iload_n (q := 19) dX6_setPrice_18 rfl rfl ?_
      refine v_sipush (v := (nI 200)) (q := 22) dX6_setPrice_19 rfl (by decide) ?_
      refine v_icmp_le (t := 28) (q := 25) dX6_setPrice_22 rfl (by decide) (fun c => ?_) (fun c => ?_)
      · have h := h.1 (c)
        refine v_aload_n (q := 29) dX6_setPrice_28 rfl rfl ?_
        refine v_get (q := 32) dX6_setPrice_29 rfl fl_6_19 rfl rfl ?_
        refine v_aload_n (q := 33) dX6_setPrice_32 rfl rfl ?_
        refine v_get (q := 36) dX6_setPrice_33 rfl fl_6_10 rfl rfl ?_
        refine v_callN (As := [.ref 1]) (n := 1) (q := 39) dX6_setPrice_36 rfl lk_6_49 hd1 rfl rfl (Nat.le_of_ble_eq_true rfl) (CT.imp h (fun r s4 h => ?_))
        obtain ⟨rfl, h⟩ := h
        show VV mX6_setPrice d s00 39 [some (.ref 0), some (.int p1), some (.int p2), none] [] s4 (Qi K)
        refine v_aload_n (q := 40) dX6_setPrice_39 rfl rfl ?_
        refine v_get (q := 43) dX6_setPrice_40 rfl fl_6_10 rfl rfl ?_
        refine v_iload_n (q := 44) dX6_setPrice_43 rfl rfl ?_
        refine v_callN (As := [.int p1]) (n := 1) (q := 47) dX6_setPrice_44 rfl lk_6_62 hd1 rfl rfl (Nat.le_of_ble_eq_true rfl) (CT.imp h (fun r s6 h => ?_))
        obtain ⟨x5, rfl, h⟩ := h
        show VV mX6_setPrice d s00 47 [some (.ref 0), some (.int p1), some (.int p2), none] [.int x5] s6 (Qi K)
        refine v_istore_n (q := 48) dX6_setPrice_47 rfl (by decide) rfl ?_
        refine v_aload_n (q := 49) dX6_setPrice_48 rfl rfl ?_
        refine v_get (q := 52) dX6_setPrice_49 rfl fl_6_10 rfl rfl ?_
        refine v_iload_n (q := 53) dX6_setPrice_52 rfl rfl ?_
        refine v_iload_n (q := 54) dX6_setPrice_53 rfl rfl ?_
        refine v_callN (As := [.int p1, .int p2]) (n := 2) (q := 57) dX6_setPrice_54 rfl lk_6_66 hd1 rfl rfl (Nat.le_of_ble_eq_true rfl) (CT.imp h (fun r s8 h => ?_))
        obtain ⟨rfl, h⟩ := h
        show VV mX6_setPrice d s00 57 [some (.ref 0), some (.int p1), some (.int p2), some (.int x5)] [] s8 (Qi K)
        refine v_iload_n (q := 58) dX6_setPrice_57 rfl rfl ?_
        exact v_iret dX6_setPrice_58 rfl ⟨_, rfl, h⟩
      · have h := h.2 (c)
        refine v_ldc (v := (-1000002)) (q := 27) dX6_setPrice_25 rfl cn_6_61 ?_
        exact v_iret dX6_setPrice_27 rfl ⟨_, rfl, h⟩
  · have h := h.2 (c)
    refine v_ldc (v := (-1000001)) (q := 13) dX6_setPrice_11 rfl cn_6_60 ?_
    exact v_iret dX6_setPrice_13 rfl ⟨_, rfl, h⟩
theorem eX6_setPrice {d : Nat} {σ : SS} {K : Int32 → SS → Prop} (p1 : Int32) (p2 : Int32)  (hd1 : 1 ≤ d) (h : CTi mX2_hasMember (d - 1) [.ref 1, .int p1] σ (fun x1 s2 => ((¬ x1 = 0) → (((p2 < 0) → (K (-1000002) s2)) ∧ ((¬ p2 < 0) → (((p2 ≤ (nI 200)) → (CTv mX0_keep (d - 1) [.ref 2, .ref 1] s2 (fun s4 => CTi mX2_priceOf (d - 1) [.ref 1, .int p1] s4 (fun x5 s6 => CTv mX2_changePrice (d - 1) [.ref 1, .int p1, .int p2] s6 (fun s8 => K x5 s8))))) ∧ ((¬ p2 ≤ (nI 200)) → (K (-1000002) s2)))))) ∧ ((x1 = 0) → (K (-1000001) s2)))) : CTi mX6_setPrice d [.ref 0, .int p1, .int p2] σ K := CT_of (Q := (Qi K)) (by decide +kernel) rfl (by decide) (Nat.le_of_ble_eq_true rfl) rfl (bX6_setPrice_0 p1 p2 hd1 h)
set_option maxRecDepth 20000 in
theorem bX6_set_0 {d : Nat} {σ : SS} {K : Int32 → SS → Prop} (p1 : Int32) (p2 : Int32)  (hd1 : 1 ≤ d) (h : ((p1 < 0) → (K (-1000001) σ)) ∧ ((¬ p1 < 0) → (((p1 < (nI 5)) → ((vp_in p1 5) ∧ (((p2 < (lst 100 p1.toNatClampNeg)) → (K (-1000002) σ)) ∧ ((¬ p2 < (lst 100 p1.toNatClampNeg)) → ((vp_in p1 5) ∧ (((p2 ≤ (lst 101 p1.toNatClampNeg)) → (CTv mX0_keep (d - 1) [.ref 2, .ref 1] σ (fun s2 => CTi mX2_settingOf (d - 1) [.ref 1, .int p1] s2 (fun x3 s4 => CTv mX2_changeSetting (d - 1) [.ref 1, .int p1, .int p2] s4 (fun s6 => K x3 s6))))) ∧ ((¬ p2 ≤ (lst 101 p1.toNatClampNeg)) → (K (-1000002) σ)))))))) ∧ ((¬ p1 < (nI 5)) → (K (-1000001) σ))))) : VV mX6_set d s00 0 [some (.ref 0), some (.int p1), some (.int p2), none] [] σ (Qi K) := by
  refine v_iload_n (q := 1) dX6_set_0 rfl rfl ?_
  refine v_if_lt (t := 9) (q := 4) dX6_set_1 rfl (by decide) (fun c => ?_) (fun c => ?_)
  · have h := h.1 (c)
    refine v_ldc (v := (-1000001)) (q := 11) dX6_set_9 rfl cn_6_60 ?_
    exact v_iret dX6_set_11 rfl ⟨_, rfl, h⟩
  · have h := h.2 (c)
    refine v_iload_n (q := 5) dX6_set_4 rfl rfl ?_
    refine v_iconst (v := (nI 5)) (q := 6) dX6_set_5 rfl (by decide) ?_
    refine v_icmp_lt (t := 12) (q := 9) dX6_set_6 rfl (by decide) (fun c => ?_) (fun c => ?_)
    · have h := h.1 (c)
      refine v_iload_n (q := 13) dX6_set_12 rfl rfl ?_
      refine v_gets (g := 100) (q := 16) dX6_set_13 rfl (by decide) sl_6_70 ?_
      refine v_iload_n (q := 17) dX6_set_16 rfl rfl ?_
      refine v_stld (q := 18) dX6_set_17 rfl (by decide) h.1 ?_
      have h := h.2
      refine v_icmp_lt (t := 30) (q := 21) dX6_set_18 rfl (by decide) (fun c => ?_) (fun c => ?_)
      · have h := h.1 (c)
        refine v_ldc (v := (-1000002)) (q := 32) dX6_set_30 rfl cn_6_61 ?_
        exact v_iret dX6_set_32 rfl ⟨_, rfl, h⟩
      · have h := h.2 (c)
        refine v_iload_n (q := 22) dX6_set_21 rfl rfl ?_
        refine v_gets (g := 101) (q := 25) dX6_set_22 rfl (by decide) sl_6_74 ?_
        refine v_iload_n (q := 26) dX6_set_25 rfl rfl ?_
        refine v_stld (q := 27) dX6_set_26 rfl (by decide) h.1 ?_
        have h := h.2
        refine v_icmp_le (t := 33) (q := 30) dX6_set_27 rfl (by decide) (fun c => ?_) (fun c => ?_)
        · have h := h.1 (c)
          refine v_aload_n (q := 34) dX6_set_33 rfl rfl ?_
          refine v_get (q := 37) dX6_set_34 rfl fl_6_19 rfl rfl ?_
          refine v_aload_n (q := 38) dX6_set_37 rfl rfl ?_
          refine v_get (q := 41) dX6_set_38 rfl fl_6_10 rfl rfl ?_
          refine v_callN (As := [.ref 1]) (n := 1) (q := 44) dX6_set_41 rfl lk_6_49 hd1 rfl rfl (Nat.le_of_ble_eq_true rfl) (CT.imp h (fun r s2 h => ?_))
          obtain ⟨rfl, h⟩ := h
          show VV mX6_set d s00 44 [some (.ref 0), some (.int p1), some (.int p2), none] [] s2 (Qi K)
          refine v_aload_n (q := 45) dX6_set_44 rfl rfl ?_
          refine v_get (q := 48) dX6_set_45 rfl fl_6_10 rfl rfl ?_
          refine v_iload_n (q := 49) dX6_set_48 rfl rfl ?_
          refine v_callN (As := [.int p1]) (n := 1) (q := 52) dX6_set_49 rfl lk_6_77 hd1 rfl rfl (Nat.le_of_ble_eq_true rfl) (CT.imp h (fun r s4 h => ?_))
          obtain ⟨x3, rfl, h⟩ := h
          show VV mX6_set d s00 52 [some (.ref 0), some (.int p1), some (.int p2), none] [.int x3] s4 (Qi K)
          refine v_istore_n (q := 53) dX6_set_52 rfl (by decide) rfl ?_
          refine v_aload_n (q := 54) dX6_set_53 rfl rfl ?_
          refine v_get (q := 57) dX6_set_54 rfl fl_6_10 rfl rfl ?_
          refine v_iload_n (q := 58) dX6_set_57 rfl rfl ?_
          refine v_iload_n (q := 59) dX6_set_58 rfl rfl ?_
          refine v_callN (As := [.int p1, .int p2]) (n := 2) (q := 62) dX6_set_59 rfl lk_6_80 hd1 rfl rfl (Nat.le_of_ble_eq_true rfl) (CT.imp h (fun r s6 h => ?_))
          obtain ⟨rfl, h⟩ := h
          show VV mX6_set d s00 62 [some (.ref 0), some (.int p1), some (.int p2), some (.int x3)] [] s6 (Qi K)
          refine v_iload_n (q := 63) dX6_set_62 rfl rfl ?_
          exact v_iret dX6_set_63 rfl ⟨_, rfl, h⟩
        · have h := h.2 (c)
          refine v_ldc (v := (-1000002)) (q := 32) dX6_set_30 rfl cn_6_61 ?_
          exact v_iret dX6_set_32 rfl ⟨_, rfl, h⟩
    · have h := h.2 (c)
      refine v_ldc (v := (-1000001)) (q := 11) dX6_set_9 rfl cn_6_60 ?_
      exact v_iret dX6_set_11 rfl ⟨_, rfl, h⟩
theorem eX6_set {d : Nat} {σ : SS} {K : Int32 → SS → Prop} (p1 : Int32) (p2 : Int32)  (hd1 : 1 ≤ d) (h : ((p1 < 0) → (K (-1000001) σ)) ∧ ((¬ p1 < 0) → (((p1 < (nI 5)) → ((vp_in p1 5) ∧ (((p2 < (lst 100 p1.toNatClampNeg)) → (K (-1000002) σ)) ∧ ((¬ p2 < (lst 100 p1.toNatClampNeg)) → ((vp_in p1 5) ∧ (((p2 ≤ (lst 101 p1.toNatClampNeg)) → (CTv mX0_keep (d - 1) [.ref 2, .ref 1] σ (fun s2 => CTi mX2_settingOf (d - 1) [.ref 1, .int p1] s2 (fun x3 s4 => CTv mX2_changeSetting (d - 1) [.ref 1, .int p1, .int p2] s4 (fun s6 => K x3 s6))))) ∧ ((¬ p2 ≤ (lst 101 p1.toNatClampNeg)) → (K (-1000002) σ)))))))) ∧ ((¬ p1 < (nI 5)) → (K (-1000001) σ))))) : CTi mX6_set d [.ref 0, .int p1, .int p2] σ K := CT_of (Q := (Qi K)) (by decide +kernel) rfl (by decide) (Nat.le_of_ble_eq_true rfl) rfl (bX6_set_0 p1 p2 hd1 h)
set_option maxRecDepth 20000 in
theorem bX6_count_0 {d : Nat} {σ : SS} {K : Int32 → SS → Prop} (p1 : Int32)  (hd1 : 1 ≤ d) (h : ((p1 < 0) → (K (-1000002) σ)) ∧ ((¬ p1 < 0) → (((p1 < (nI 14)) → (((¬ p1 = (nI 13)) → (CTi mX2_countOf (d - 1) [.ref 1, .int p1] σ (fun x1 s2 => K x1 s2))) ∧ ((p1 = (nI 13)) → (K (σ.2.1 2) σ)))) ∧ ((¬ p1 < (nI 14)) → (K (-1000002) σ))))) : VV mX6_count d s00 0 [some (.ref 0), some (.int p1)] [] σ (Qi K) := by
  refine v_iload_n (q := 1) dX6_count_0 rfl rfl ?_
  refine v_if_lt (t := 10) (q := 4) dX6_count_1 rfl (by decide) (fun c => ?_) (fun c => ?_)
  · have h := h.1 (c)
    refine v_ldc (v := (-1000002)) (q := 12) dX6_count_10 rfl cn_6_61 ?_
    exact v_iret dX6_count_12 rfl ⟨_, rfl, h⟩
  · have h := h.2 (c)
    refine v_iload_n (q := 5) dX6_count_4 rfl rfl ?_
    refine v_bipush (v := (nI 14)) (q := 7) dX6_count_5 rfl (by decide) ?_
    refine v_icmp_lt (t := 13) (q := 10) dX6_count_7 rfl (by decide) (fun c => ?_) (fun c => ?_)
    · have h := h.1 (c)
      refine v_iload_n (q := 14) dX6_count_13 rfl rfl ?_
      refine v_bipush (v := (nI 13)) (q := 16) dX6_count_14 rfl (by decide) ?_
      refine v_icmp_ne (t := 29) (q := 19) dX6_count_16 rfl (by decide) (fun c => ?_) (fun c => ?_)
      · have h := h.1 (c)
        refine v_aload_n (q := 30) dX6_count_29 rfl rfl ?_
        refine v_get (q := 33) dX6_count_30 rfl fl_6_10 rfl rfl ?_
        refine v_iload_n (q := 34) dX6_count_33 rfl rfl ?_
        refine v_callN (As := [.int p1]) (n := 1) (q := 37) dX6_count_34 rfl lk_6_87 hd1 rfl rfl (Nat.le_of_ble_eq_true rfl) (CT.imp h (fun r s2 h => ?_))
        obtain ⟨x1, rfl, h⟩ := h
        show VV mX6_count d s00 37 [some (.ref 0), some (.int p1)] [.int x1] s2 (Qi K)
        exact v_iret dX6_count_37 rfl ⟨_, rfl, h⟩
      · have h := h.2 (c)
        refine v_aload_n (q := 20) dX6_count_19 rfl rfl ?_
        refine v_get (q := 23) dX6_count_20 rfl fl_6_26 rfl rfl ?_
        refine v_get (q := 26) dX6_count_23 rfl fl_6_83 rfl rfl ?_
        refine v_goto (q := 37) dX6_count_26 (by decide) ?_
        exact v_iret dX6_count_37 rfl ⟨_, rfl, h⟩
    · have h := h.2 (c)
      refine v_ldc (v := (-1000002)) (q := 12) dX6_count_10 rfl cn_6_61 ?_
      exact v_iret dX6_count_12 rfl ⟨_, rfl, h⟩
theorem eX6_count {d : Nat} {σ : SS} {K : Int32 → SS → Prop} (p1 : Int32)  (hd1 : 1 ≤ d) (h : ((p1 < 0) → (K (-1000002) σ)) ∧ ((¬ p1 < 0) → (((p1 < (nI 14)) → (((¬ p1 = (nI 13)) → (CTi mX2_countOf (d - 1) [.ref 1, .int p1] σ (fun x1 s2 => K x1 s2))) ∧ ((p1 = (nI 13)) → (K (σ.2.1 2) σ)))) ∧ ((¬ p1 < (nI 14)) → (K (-1000002) σ))))) : CTi mX6_count d [.ref 0, .int p1] σ K := CT_of (Q := (Qi K)) (by decide +kernel) rfl (by decide) (Nat.le_of_ble_eq_true rfl) rfl (bX6_count_0 p1 hd1 h)
set_option maxRecDepth 20000 in
theorem bX6_member_0 {d : Nat} {σ : SS} {K : Int32 → SS → Prop} (p1 : Int32) (p2 : Int32)  (hd1 : 1 ≤ d) (h : CTi mX2_hasMember (d - 1) [.ref 1, .int p1] σ (fun x1 s2 => ((¬ x1 = 0) → (((p2 < 0) → (K (-1000002) s2)) ∧ ((¬ p2 < 0) → (((p2 < (nI 5)) → (CTi mX2_memberProperty (d - 1) [.ref 1, .int p1, .int p2] s2 (fun x3 s4 => K x3 s4))) ∧ ((¬ p2 < (nI 5)) → (K (-1000002) s2)))))) ∧ ((x1 = 0) → (K (-1000001) s2)))) : VV mX6_member d s00 0 [some (.ref 0), some (.int p1), some (.int p2)] [] σ (Qi K) := by
  refine v_aload_n (q := 1) dX6_member_0 rfl rfl ?_
  refine v_get (q := 4) dX6_member_1 rfl fl_6_10 rfl rfl ?_
  refine v_iload_n (q := 5) dX6_member_4 rfl rfl ?_
  refine v_callN (As := [.int p1]) (n := 1) (q := 8) dX6_member_5 rfl lk_6_56 hd1 rfl rfl (Nat.le_of_ble_eq_true rfl) (CT.imp h (fun r s2 h => ?_))
  obtain ⟨x1, rfl, h⟩ := h
  show VV mX6_member d s00 8 [some (.ref 0), some (.int p1), some (.int p2)] [.int x1] s2 (Qi K)
  refine v_if_ne (t := 14) (q := 11) dX6_member_8 rfl (by decide) (fun c => ?_) (fun c => ?_)
  · have h := h.1 (c)
    refine v_iload_n (q := 15) dX6_member_14 rfl rfl ?_
    refine v_if_lt (t := 23) (q := 18) dX6_member_15 rfl (by decide) (fun c => ?_) (fun c => ?_)
    · have h := h.1 (c)
      refine v_ldc (v := (-1000002)) (q := 25) dX6_member_23 rfl cn_6_61 ?_
      exact v_iret dX6_member_25 rfl ⟨_, rfl, h⟩
    · have h := h.2 (c)
      refine v_iload_n (q := 19) dX6_member_18 rfl rfl ?_
      refine v_iconst (v := (nI 5)) (q := 20) dX6_member_19 rfl (by decide) ?_
      refine v_icmp_lt (t := 26) (q := 23) dX6_member_20 rfl (by decide) (fun c => ?_) (fun c => ?_)
      · have h := h.1 (c)
        refine v_aload_n (q := 27) dX6_member_26 rfl rfl ?_
        refine v_get (q := 30) dX6_member_27 rfl fl_6_10 rfl rfl ?_
        refine v_iload_n (q := 31) dX6_member_30 rfl rfl ?_
        refine v_iload_n (q := 32) dX6_member_31 rfl rfl ?_
        refine v_callN (As := [.int p1, .int p2]) (n := 2) (q := 35) dX6_member_32 rfl lk_6_90 hd1 rfl rfl (Nat.le_of_ble_eq_true rfl) (CT.imp h (fun r s4 h => ?_))
        obtain ⟨x3, rfl, h⟩ := h
        show VV mX6_member d s00 35 [some (.ref 0), some (.int p1), some (.int p2)] [.int x3] s4 (Qi K)
        exact v_iret dX6_member_35 rfl ⟨_, rfl, h⟩
      · have h := h.2 (c)
        refine v_ldc (v := (-1000002)) (q := 25) dX6_member_23 rfl cn_6_61 ?_
        exact v_iret dX6_member_25 rfl ⟨_, rfl, h⟩
  · have h := h.2 (c)
    refine v_ldc (v := (-1000001)) (q := 13) dX6_member_11 rfl cn_6_60 ?_
    exact v_iret dX6_member_13 rfl ⟨_, rfl, h⟩
theorem eX6_member {d : Nat} {σ : SS} {K : Int32 → SS → Prop} (p1 : Int32) (p2 : Int32)  (hd1 : 1 ≤ d) (h : CTi mX2_hasMember (d - 1) [.ref 1, .int p1] σ (fun x1 s2 => ((¬ x1 = 0) → (((p2 < 0) → (K (-1000002) s2)) ∧ ((¬ p2 < 0) → (((p2 < (nI 5)) → (CTi mX2_memberProperty (d - 1) [.ref 1, .int p1, .int p2] s2 (fun x3 s4 => K x3 s4))) ∧ ((¬ p2 < (nI 5)) → (K (-1000002) s2)))))) ∧ ((x1 = 0) → (K (-1000001) s2)))) : CTi mX6_member d [.ref 0, .int p1, .int p2] σ K := CT_of (Q := (Qi K)) (by decide +kernel) rfl (by decide) (Nat.le_of_ble_eq_true rfl) rfl (bX6_member_0 p1 p2 hd1 h)
set_option maxRecDepth 20000 in
theorem bX6_addPhrase_0 {d : Nat} {σ : SS} {K : Int32 → SS → Prop} (p1 : Int32) (p2 : Int32) (p3 : Int32)  (hd1 : 1 ≤ d) (h : CTi mX2_hasMember (d - 1) [.ref 1, .int p1] σ (fun x1 s2 => ((x1 = 0) → (K (-1000001) s2)) ∧ ((¬ x1 = 0) → (((p3 = (-1000000)) → (VV mX6_addPhrase d s00 31 [some (.ref 0), some (.int p1), some (.int p2), some (.int p3)] [] s2 (Qi K))) ∧ ((¬ p3 = (-1000000)) → (CTi mX2_hasPhrase (d - 1) [.ref 1, .int p3] s2 (fun x3 s4 => ((¬ x3 = 0) → (VV mX6_addPhrase d s00 31 [some (.ref 0), some (.int p1), some (.int p2), some (.int p3)] [] s4 (Qi K))) ∧ ((x3 = 0) → (K (-1000001) s4))))))))) : VV mX6_addPhrase d s00 0 [some (.ref 0), some (.int p1), some (.int p2), some (.int p3)] [] σ (Qi K) := by
  refine v_aload_n (q := 1) dX6_addPhrase_0 rfl rfl ?_
  refine v_get (q := 4) dX6_addPhrase_1 rfl fl_6_10 rfl rfl ?_
  refine v_iload_n (q := 5) dX6_addPhrase_4 rfl rfl ?_
  refine v_callN (As := [.int p1]) (n := 1) (q := 8) dX6_addPhrase_5 rfl lk_6_56 hd1 rfl rfl (Nat.le_of_ble_eq_true rfl) (CT.imp h (fun r s2 h => ?_))
  obtain ⟨x1, rfl, h⟩ := h
  show VV mX6_addPhrase d s00 8 [some (.ref 0), some (.int p1), some (.int p2), some (.int p3)] [.int x1] s2 (Qi K)
  refine v_if_eq (t := 28) (q := 11) dX6_addPhrase_8 rfl (by decide) (fun c => ?_) (fun c => ?_)
  · have h := h.1 (c)
    refine v_ldc (v := (-1000001)) (q := 30) dX6_addPhrase_28 rfl cn_6_60 ?_
    exact v_iret dX6_addPhrase_30 rfl ⟨_, rfl, h⟩
  · have h := h.2 (c)
    refine v_iload_n (q := 12) dX6_addPhrase_11 rfl rfl ?_
    refine v_ldc (v := (-1000000)) (q := 14) dX6_addPhrase_12 rfl cn_6_94 ?_
    refine v_icmp_eq (t := 31) (q := 17) dX6_addPhrase_14 rfl (by decide) (fun c => ?_) (fun c => ?_)
    · have h := h.1 (c)
      exact h
    · have h := h.2 (c)
      refine v_aload_n (q := 18) dX6_addPhrase_17 rfl rfl ?_
      refine v_get (q := 21) dX6_addPhrase_18 rfl fl_6_10 rfl rfl ?_
      refine v_iload_n (q := 22) dX6_addPhrase_21 rfl rfl ?_
      refine v_callN (As := [.int p3]) (n := 1) (q := 25) dX6_addPhrase_22 rfl lk_6_95 hd1 rfl rfl (Nat.le_of_ble_eq_true rfl) (CT.imp h (fun r s4 h => ?_))
      obtain ⟨x3, rfl, h⟩ := h
      show VV mX6_addPhrase d s00 25 [some (.ref 0), some (.int p1), some (.int p2), some (.int p3)] [.int x3] s4 (Qi K)
      refine v_if_ne (t := 31) (q := 28) dX6_addPhrase_25 rfl (by decide) (fun c => ?_) (fun c => ?_)
      · have h := h.1 (c)
        exact h
      · have h := h.2 (c)
        refine v_ldc (v := (-1000001)) (q := 30) dX6_addPhrase_28 rfl cn_6_60 ?_
        exact v_iret dX6_addPhrase_30 rfl ⟨_, rfl, h⟩
theorem eX6_addPhrase {d : Nat} {σ : SS} {K : Int32 → SS → Prop} (p1 : Int32) (p2 : Int32) (p3 : Int32)  (hd1 : 1 ≤ d) (h : CTi mX2_hasMember (d - 1) [.ref 1, .int p1] σ (fun x1 s2 => ((x1 = 0) → (K (-1000001) s2)) ∧ ((¬ x1 = 0) → (((p3 = (-1000000)) → (VV mX6_addPhrase d s00 31 [some (.ref 0), some (.int p1), some (.int p2), some (.int p3)] [] s2 (Qi K))) ∧ ((¬ p3 = (-1000000)) → (CTi mX2_hasPhrase (d - 1) [.ref 1, .int p3] s2 (fun x3 s4 => ((¬ x3 = 0) → (VV mX6_addPhrase d s00 31 [some (.ref 0), some (.int p1), some (.int p2), some (.int p3)] [] s4 (Qi K))) ∧ ((x3 = 0) → (K (-1000001) s4))))))))) : CTi mX6_addPhrase d [.ref 0, .int p1, .int p2, .int p3] σ K := CT_of (Q := (Qi K)) (by decide +kernel) rfl (by decide) (Nat.le_of_ble_eq_true rfl) rfl (bX6_addPhrase_0 p1 p2 p3 hd1 h)
set_option maxRecDepth 20000 in
theorem bX6_addPhrase_31 {d : Nat} {σ : SS} {K : Int32 → SS → Prop} (v1 : Int32) (v2 : Int32) (v3 : Int32)   (h : ((v2 < 0) → (K (-1000002) σ)) ∧ ((¬ v2 < 0) → (((v2 ≤ (nI 999)) → (VV mX6_addPhrase d s00 45 [some (.ref 0), some (.int v1), some (.int v2), some (.int v3)] [] σ (Qi K))) ∧ ((¬ v2 ≤ (nI 999)) → (K (-1000002) σ))))) : VV mX6_addPhrase d s00 31 [some (.ref 0), some (.int v1), some (.int v2), some (.int v3)] [] σ (Qi K) := by
  refine v_iload_n (q := 32) dX6_addPhrase_31 rfl rfl ?_
  refine v_if_lt (t := 42) (q := 35) dX6_addPhrase_32 rfl (by decide) (fun c => ?_) (fun c => ?_)
  · have h := h.1 (c)
    refine v_ldc (v := (-1000002)) (q := 44) dX6_addPhrase_42 rfl cn_6_61 ?_
    exact v_iret dX6_addPhrase_44 rfl ⟨_, rfl, h⟩
  · have h := h.2 (c)
    refine v_iload_n (q := 36) dX6_addPhrase_35 rfl rfl ?_
    refine v_sipush (v := (nI 999)) (q := 39) dX6_addPhrase_36 rfl (by decide) ?_
    refine v_icmp_le (t := 45) (q := 42) dX6_addPhrase_39 rfl (by decide) (fun c => ?_) (fun c => ?_)
    · have h := h.1 (c)
      exact h
    · have h := h.2 (c)
      refine v_ldc (v := (-1000002)) (q := 44) dX6_addPhrase_42 rfl cn_6_61 ?_
      exact v_iret dX6_addPhrase_44 rfl ⟨_, rfl, h⟩
set_option maxRecDepth 20000 in
theorem bX6_addPhrase_45 {d : Nat} {σ : SS} {K : Int32 → SS → Prop} (v1 : Int32) (v2 : Int32) (v3 : Int32)  (hd1 : 1 ≤ d) (h : CTi mX3_isFaulty (d - 1) [.ref 3] σ (fun x1 s2 => ((¬ x1 = 0) → (K (-1000003) s2)) ∧ ((x1 = 0) → (((v3 = (-1000000)) → (VV mX6_addPhrase d s00 75 [some (.ref 0), some (.int v1), some (.int v2), some (.int v3)] [] s2 (Qi K))) ∧ ((¬ v3 = (-1000000)) → (CTi mX2_isLive (d - 1) [.ref 1, .int v3] s2 (fun x3 s4 => ((¬ x3 = 0) → (VV mX6_addPhrase d s00 75 [some (.ref 0), some (.int v1), some (.int v2), some (.int v3)] [] s4 (Qi K))) ∧ ((x3 = 0) → (K (-1000003) s4))))))))) : VV mX6_addPhrase d s00 45 [some (.ref 0), some (.int v1), some (.int v2), some (.int v3)] [] σ (Qi K) := by
  refine v_aload_n (q := 46) dX6_addPhrase_45 rfl rfl ?_
  refine v_get (q := 49) dX6_addPhrase_46 rfl fl_6_26 rfl rfl ?_
  refine v_callN (As := []) (n := 0) (q := 52) dX6_addPhrase_49 rfl lk_6_98 hd1 rfl rfl (Nat.le_of_ble_eq_true rfl) (CT.imp h (fun r s2 h => ?_))
  obtain ⟨x1, rfl, h⟩ := h
  show VV mX6_addPhrase d s00 52 [some (.ref 0), some (.int v1), some (.int v2), some (.int v3)] [.int x1] s2 (Qi K)
  refine v_if_ne (t := 72) (q := 55) dX6_addPhrase_52 rfl (by decide) (fun c => ?_) (fun c => ?_)
  · have h := h.1 (c)
    refine v_ldc (v := (-1000003)) (q := 74) dX6_addPhrase_72 rfl cn_6_105 ?_
    exact v_iret dX6_addPhrase_74 rfl ⟨_, rfl, h⟩
  · have h := h.2 (c)
    refine v_iload_n (q := 56) dX6_addPhrase_55 rfl rfl ?_
    refine v_ldc (v := (-1000000)) (q := 58) dX6_addPhrase_56 rfl cn_6_94 ?_
    refine v_icmp_eq (t := 75) (q := 61) dX6_addPhrase_58 rfl (by decide) (fun c => ?_) (fun c => ?_)
    · have h := h.1 (c)
      exact h
    · have h := h.2 (c)
      refine v_aload_n (q := 62) dX6_addPhrase_61 rfl rfl ?_
      refine v_get (q := 65) dX6_addPhrase_62 rfl fl_6_10 rfl rfl ?_
      refine v_iload_n (q := 66) dX6_addPhrase_65 rfl rfl ?_
      refine v_callN (As := [.int v3]) (n := 1) (q := 69) dX6_addPhrase_66 rfl lk_6_102 hd1 rfl rfl (Nat.le_of_ble_eq_true rfl) (CT.imp h (fun r s4 h => ?_))
      obtain ⟨x3, rfl, h⟩ := h
      show VV mX6_addPhrase d s00 69 [some (.ref 0), some (.int v1), some (.int v2), some (.int v3)] [.int x3] s4 (Qi K)
      refine v_if_ne (t := 75) (q := 72) dX6_addPhrase_69 rfl (by decide) (fun c => ?_) (fun c => ?_)
      · have h := h.1 (c)
        exact h
      · have h := h.2 (c)
        refine v_ldc (v := (-1000003)) (q := 74) dX6_addPhrase_72 rfl cn_6_105 ?_
        exact v_iret dX6_addPhrase_74 rfl ⟨_, rfl, h⟩
set_option maxRecDepth 20000 in
theorem bX6_addPhrase_75 {d : Nat} {σ : SS} {K : Int32 → SS → Prop} (v1 : Int32) (v2 : Int32) (v3 : Int32)  (hd1 : 1 ≤ d) (h : CTi mX2_phrases (d - 1) [.ref 1] σ (fun x1 s2 => ((x1 < (nI 20)) → (CTv mX0_keep (d - 1) [.ref 2, .ref 1] s2 (fun s4 => CTv mX3_readInto (d - 1) [.ref 3, .ref 4] s4 (fun s6 => CTi mX2_startPhrase (d - 1) [.ref 1, .int v1, .int v2, .int v3, .ref 4] s6 (fun x7 s8 => K x7 s8))))) ∧ ((¬ x1 < (nI 20)) → (K (-1000004) s2)))) : VV mX6_addPhrase d s00 75 [some (.ref 0), some (.int v1), some (.int v2), some (.int v3)] [] σ (Qi K) := by
  refine v_aload_n (q := 76) dX6_addPhrase_75 rfl rfl ?_
  refine v_get (q := 79) dX6_addPhrase_76 rfl fl_6_10 rfl rfl ?_
  refine v_callN (As := []) (n := 0) (q := 82) dX6_addPhrase_79 rfl lk_6_106 hd1 rfl rfl (Nat.le_of_ble_eq_true rfl) (CT.imp h (fun r s2 h => ?_))
  obtain ⟨x1, rfl, h⟩ := h
  show VV mX6_addPhrase d s00 82 [some (.ref 0), some (.int v1), some (.int v2), some (.int v3)] [.int x1] s2 (Qi K)
  refine v_bipush (v := (nI 20)) (q := 84) dX6_addPhrase_82 rfl (by decide) ?_
  refine v_icmp_lt (t := 90) (q := 87) dX6_addPhrase_84 rfl (by decide) (fun c => ?_) (fun c => ?_)
  · have h := h.1 (c)
    refine v_aload_n (q := 91) dX6_addPhrase_90 rfl rfl ?_
    refine v_get (q := 94) dX6_addPhrase_91 rfl fl_6_19 rfl rfl ?_
    refine v_aload_n (q := 95) dX6_addPhrase_94 rfl rfl ?_
    refine v_get (q := 98) dX6_addPhrase_95 rfl fl_6_10 rfl rfl ?_
    refine v_callN (As := [.ref 1]) (n := 1) (q := 101) dX6_addPhrase_98 rfl lk_6_49 hd1 rfl rfl (Nat.le_of_ble_eq_true rfl) (CT.imp h (fun r s4 h => ?_))
    obtain ⟨rfl, h⟩ := h
    show VV mX6_addPhrase d s00 101 [some (.ref 0), some (.int v1), some (.int v2), some (.int v3)] [] s4 (Qi K)
    refine v_aload_n (q := 102) dX6_addPhrase_101 rfl rfl ?_
    refine v_get (q := 105) dX6_addPhrase_102 rfl fl_6_26 rfl rfl ?_
    refine v_aload_n (q := 106) dX6_addPhrase_105 rfl rfl ?_
    refine v_get (q := 109) dX6_addPhrase_106 rfl fl_6_33 rfl rfl ?_
    refine v_callN (As := [.ref 4]) (n := 1) (q := 112) dX6_addPhrase_109 rfl lk_6_109 hd1 rfl rfl (Nat.le_of_ble_eq_true rfl) (CT.imp h (fun r s6 h => ?_))
    obtain ⟨rfl, h⟩ := h
    show VV mX6_addPhrase d s00 112 [some (.ref 0), some (.int v1), some (.int v2), some (.int v3)] [] s6 (Qi K)
    refine v_aload_n (q := 113) dX6_addPhrase_112 rfl rfl ?_
    refine v_get (q := 116) dX6_addPhrase_113 rfl fl_6_10 rfl rfl ?_
    refine v_iload_n (q := 117) dX6_addPhrase_116 rfl rfl ?_
    refine v_iload_n (q := 118) dX6_addPhrase_117 rfl rfl ?_
    refine v_iload_n (q := 119) dX6_addPhrase_118 rfl rfl ?_
    refine v_aload_n (q := 120) dX6_addPhrase_119 rfl rfl ?_
    refine v_get (q := 123) dX6_addPhrase_120 rfl fl_6_33 rfl rfl ?_
    refine v_callN (As := [.int v1, .int v2, .int v3, .ref 4]) (n := 4) (q := 126) dX6_addPhrase_123 rfl lk_6_113 hd1 rfl rfl (Nat.le_of_ble_eq_true rfl) (CT.imp h (fun r s8 h => ?_))
    obtain ⟨x7, rfl, h⟩ := h
    show VV mX6_addPhrase d s00 126 [some (.ref 0), some (.int v1), some (.int v2), some (.int v3)] [.int x7] s8 (Qi K)
    exact v_iret dX6_addPhrase_126 rfl ⟨_, rfl, h⟩
  · have h := h.2 (c)
    refine v_ldc (v := (-1000004)) (q := 89) dX6_addPhrase_87 rfl cn_6_48 ?_
    exact v_iret dX6_addPhrase_89 rfl ⟨_, rfl, h⟩
set_option maxRecDepth 20000 in
theorem bX6_phrase_0 {d : Nat} {σ : SS} {K : Int32 → SS → Prop} (p1 : Int32) (p2 : Int32)  (hd1 : 1 ≤ d) (h : CTi mX2_hasPhrase (d - 1) [.ref 1, .int p1] σ (fun x1 s2 => ((¬ x1 = 0) → (((p2 < 0) → (K (-1000002) s2)) ∧ ((¬ p2 < 0) → (((p2 < (nI 7)) → (CTi mX2_phraseProperty (d - 1) [.ref 1, .int p1, .int p2] s2 (fun x3 s4 => K x3 s4))) ∧ ((¬ p2 < (nI 7)) → (K (-1000002) s2)))))) ∧ ((x1 = 0) → (K (-1000001) s2)))) : VV mX6_phrase d s00 0 [some (.ref 0), some (.int p1), some (.int p2)] [] σ (Qi K) := by
  refine v_aload_n (q := 1) dX6_phrase_0 rfl rfl ?_
  refine v_get (q := 4) dX6_phrase_1 rfl fl_6_10 rfl rfl ?_
  refine v_iload_n (q := 5) dX6_phrase_4 rfl rfl ?_
  refine v_callN (As := [.int p1]) (n := 1) (q := 8) dX6_phrase_5 rfl lk_6_95 hd1 rfl rfl (Nat.le_of_ble_eq_true rfl) (CT.imp h (fun r s2 h => ?_))
  obtain ⟨x1, rfl, h⟩ := h
  show VV mX6_phrase d s00 8 [some (.ref 0), some (.int p1), some (.int p2)] [.int x1] s2 (Qi K)
  refine v_if_ne (t := 14) (q := 11) dX6_phrase_8 rfl (by decide) (fun c => ?_) (fun c => ?_)
  · have h := h.1 (c)
    refine v_iload_n (q := 15) dX6_phrase_14 rfl rfl ?_
    refine v_if_lt (t := 24) (q := 18) dX6_phrase_15 rfl (by decide) (fun c => ?_) (fun c => ?_)
    · have h := h.1 (c)
      refine v_ldc (v := (-1000002)) (q := 26) dX6_phrase_24 rfl cn_6_61 ?_
      exact v_iret dX6_phrase_26 rfl ⟨_, rfl, h⟩
    · have h := h.2 (c)
      refine v_iload_n (q := 19) dX6_phrase_18 rfl rfl ?_
      refine v_bipush (v := (nI 7)) (q := 21) dX6_phrase_19 rfl (by decide) ?_
      refine v_icmp_lt (t := 27) (q := 24) dX6_phrase_21 rfl (by decide) (fun c => ?_) (fun c => ?_)
      · have h := h.1 (c)
        refine v_aload_n (q := 28) dX6_phrase_27 rfl rfl ?_
        refine v_get (q := 31) dX6_phrase_28 rfl fl_6_10 rfl rfl ?_
        refine v_iload_n (q := 32) dX6_phrase_31 rfl rfl ?_
        refine v_iload_n (q := 33) dX6_phrase_32 rfl rfl ?_
        refine v_callN (As := [.int p1, .int p2]) (n := 2) (q := 36) dX6_phrase_33 rfl lk_6_117 hd1 rfl rfl (Nat.le_of_ble_eq_true rfl) (CT.imp h (fun r s4 h => ?_))
        obtain ⟨x3, rfl, h⟩ := h
        show VV mX6_phrase d s00 36 [some (.ref 0), some (.int p1), some (.int p2)] [.int x3] s4 (Qi K)
        exact v_iret dX6_phrase_36 rfl ⟨_, rfl, h⟩
      · have h := h.2 (c)
        refine v_ldc (v := (-1000002)) (q := 26) dX6_phrase_24 rfl cn_6_61 ?_
        exact v_iret dX6_phrase_26 rfl ⟨_, rfl, h⟩
  · have h := h.2 (c)
    refine v_ldc (v := (-1000001)) (q := 13) dX6_phrase_11 rfl cn_6_60 ?_
    exact v_iret dX6_phrase_13 rfl ⟨_, rfl, h⟩
theorem eX6_phrase {d : Nat} {σ : SS} {K : Int32 → SS → Prop} (p1 : Int32) (p2 : Int32)  (hd1 : 1 ≤ d) (h : CTi mX2_hasPhrase (d - 1) [.ref 1, .int p1] σ (fun x1 s2 => ((¬ x1 = 0) → (((p2 < 0) → (K (-1000002) s2)) ∧ ((¬ p2 < 0) → (((p2 < (nI 7)) → (CTi mX2_phraseProperty (d - 1) [.ref 1, .int p1, .int p2] s2 (fun x3 s4 => K x3 s4))) ∧ ((¬ p2 < (nI 7)) → (K (-1000002) s2)))))) ∧ ((x1 = 0) → (K (-1000001) s2)))) : CTi mX6_phrase d [.ref 0, .int p1, .int p2] σ K := CT_of (Q := (Qi K)) (by decide +kernel) rfl (by decide) (Nat.le_of_ble_eq_true rfl) rfl (bX6_phrase_0 p1 p2 hd1 h)
set_option maxRecDepth 20000 in
theorem bX6_word_0 {d : Nat} {σ : SS} {K : Int32 → SS → Prop} (p1 : Int32) (p2 : Int32)  (hd1 : 1 ≤ d) (h : CTi mX2_hasPhrase (d - 1) [.ref 1, .int p1] σ (fun x1 s2 => ((¬ x1 = 0) → (((0 ≤ p2) → (CTi mX2_lengthOf (d - 1) [.ref 1, .int p1] s2 (fun x3 s4 => ((x3 ≤ p2) → (K (-1000000) s4)) ∧ ((¬ x3 ≤ p2) → (CTi mX2_wordOf (d - 1) [.ref 1, .int p1, .int p2] s4 (fun x5 s6 => K x5 s6)))))) ∧ ((¬ 0 ≤ p2) → (K (-1000002) s2)))) ∧ ((x1 = 0) → (K (-1000001) s2)))) : VV mX6_word d s00 0 [some (.ref 0), some (.int p1), some (.int p2)] [] σ (Qi K) := by
  refine v_aload_n (q := 1) dX6_word_0 rfl rfl ?_
  refine v_get (q := 4) dX6_word_1 rfl fl_6_10 rfl rfl ?_
  refine v_iload_n (q := 5) dX6_word_4 rfl rfl ?_
  refine v_callN (As := [.int p1]) (n := 1) (q := 8) dX6_word_5 rfl lk_6_95 hd1 rfl rfl (Nat.le_of_ble_eq_true rfl) (CT.imp h (fun r s2 h => ?_))
  obtain ⟨x1, rfl, h⟩ := h
  show VV mX6_word d s00 8 [some (.ref 0), some (.int p1), some (.int p2)] [.int x1] s2 (Qi K)
  refine v_if_ne (t := 14) (q := 11) dX6_word_8 rfl (by decide) (fun c => ?_) (fun c => ?_)
  · have h := h.1 (c)
    refine v_iload_n (q := 15) dX6_word_14 rfl rfl ?_
    refine v_if_ge (t := 21) (q := 18) dX6_word_15 rfl (by decide) (fun c => ?_) (fun c => ?_)
    · have h := h.1 (c)
      refine v_iload_n (q := 22) dX6_word_21 rfl rfl ?_
      refine v_aload_n (q := 23) dX6_word_22 rfl rfl ?_
      refine v_get (q := 26) dX6_word_23 rfl fl_6_10 rfl rfl ?_
      refine v_iload_n (q := 27) dX6_word_26 rfl rfl ?_
      refine v_callN (As := [.int p1]) (n := 1) (q := 30) dX6_word_27 rfl lk_6_120 hd1 rfl rfl (Nat.le_of_ble_eq_true rfl) (CT.imp h (fun r s4 h => ?_))
      obtain ⟨x3, rfl, h⟩ := h
      show VV mX6_word d s00 30 [some (.ref 0), some (.int p1), some (.int p2)] [.int x3, .int p2] s4 (Qi K)
      refine v_icmp_ge (t := 45) (q := 33) dX6_word_30 rfl (by decide) (fun c => ?_) (fun c => ?_)
      · have h := h.1 (c)
        refine v_ldc (v := (-1000000)) (q := 47) dX6_word_45 rfl cn_6_94 ?_
        exact v_iret dX6_word_47 rfl ⟨_, rfl, h⟩
      · have h := h.2 (c)
        refine v_aload_n (q := 34) dX6_word_33 rfl rfl ?_
        refine v_get (q := 37) dX6_word_34 rfl fl_6_10 rfl rfl ?_
        refine v_iload_n (q := 38) dX6_word_37 rfl rfl ?_
        refine v_iload_n (q := 39) dX6_word_38 rfl rfl ?_
        refine v_callN (As := [.int p1, .int p2]) (n := 2) (q := 42) dX6_word_39 rfl lk_6_123 hd1 rfl rfl (Nat.le_of_ble_eq_true rfl) (CT.imp h (fun r s6 h => ?_))
        obtain ⟨x5, rfl, h⟩ := h
        show VV mX6_word d s00 42 [some (.ref 0), some (.int p1), some (.int p2)] [.int x5] s6 (Qi K)
        refine v_goto (q := 47) dX6_word_42 (by decide) ?_
        exact v_iret dX6_word_47 rfl ⟨_, rfl, h⟩
    · have h := h.2 (c)
      refine v_ldc (v := (-1000002)) (q := 20) dX6_word_18 rfl cn_6_61 ?_
      exact v_iret dX6_word_20 rfl ⟨_, rfl, h⟩
  · have h := h.2 (c)
    refine v_ldc (v := (-1000001)) (q := 13) dX6_word_11 rfl cn_6_60 ?_
    exact v_iret dX6_word_13 rfl ⟨_, rfl, h⟩
theorem eX6_word {d : Nat} {σ : SS} {K : Int32 → SS → Prop} (p1 : Int32) (p2 : Int32)  (hd1 : 1 ≤ d) (h : CTi mX2_hasPhrase (d - 1) [.ref 1, .int p1] σ (fun x1 s2 => ((¬ x1 = 0) → (((0 ≤ p2) → (CTi mX2_lengthOf (d - 1) [.ref 1, .int p1] s2 (fun x3 s4 => ((x3 ≤ p2) → (K (-1000000) s4)) ∧ ((¬ x3 ≤ p2) → (CTi mX2_wordOf (d - 1) [.ref 1, .int p1, .int p2] s4 (fun x5 s6 => K x5 s6)))))) ∧ ((¬ 0 ≤ p2) → (K (-1000002) s2)))) ∧ ((x1 = 0) → (K (-1000001) s2)))) : CTi mX6_word d [.ref 0, .int p1, .int p2] σ K := CT_of (Q := (Qi K)) (by decide +kernel) rfl (by decide) (Nat.le_of_ble_eq_true rfl) rfl (bX6_word_0 p1 p2 hd1 h)
set_option maxRecDepth 20000 in
theorem bX6_score_0 {d : Nat} {σ : SS} {K : Int32 → SS → Prop} (p1 : Int32) (p2 : Int32)  (hd1 : 1 ≤ d) (h : CTi mX2_hasPhrase (d - 1) [.ref 1, .int p1] σ (fun x1 s2 => ((x1 = 0) → (K (-1000001) s2)) ∧ ((¬ x1 = 0) → (CTi mX2_hasPhrase (d - 1) [.ref 1, .int p2] s2 (fun x3 s4 => ((¬ x3 = 0) → (CTi mX2_likenessOf (d - 1) [.ref 1, .int p1, .int p2] s4 (fun x5 s6 => K x5 s6))) ∧ ((x3 = 0) → (K (-1000001) s4))))))) : VV mX6_score d s00 0 [some (.ref 0), some (.int p1), some (.int p2)] [] σ (Qi K) := by
  refine v_aload_n (q := 1) dX6_score_0 rfl rfl ?_
  refine v_get (q := 4) dX6_score_1 rfl fl_6_10 rfl rfl ?_
  refine v_iload_n (q := 5) dX6_score_4 rfl rfl ?_
  refine v_callN (As := [.int p1]) (n := 1) (q := 8) dX6_score_5 rfl lk_6_95 hd1 rfl rfl (Nat.le_of_ble_eq_true rfl) (CT.imp h (fun r s2 h => ?_))
  obtain ⟨x1, rfl, h⟩ := h
  show VV mX6_score d s00 8 [some (.ref 0), some (.int p1), some (.int p2)] [.int x1] s2 (Qi K)
  refine v_if_eq (t := 22) (q := 11) dX6_score_8 rfl (by decide) (fun c => ?_) (fun c => ?_)
  · have h := h.1 (c)
    refine v_ldc (v := (-1000001)) (q := 24) dX6_score_22 rfl cn_6_60 ?_
    exact v_iret dX6_score_24 rfl ⟨_, rfl, h⟩
  · have h := h.2 (c)
    refine v_aload_n (q := 12) dX6_score_11 rfl rfl ?_
    refine v_get (q := 15) dX6_score_12 rfl fl_6_10 rfl rfl ?_
    refine v_iload_n (q := 16) dX6_score_15 rfl rfl ?_
    refine v_callN (As := [.int p2]) (n := 1) (q := 19) dX6_score_16 rfl lk_6_95 hd1 rfl rfl (Nat.le_of_ble_eq_true rfl) (CT.imp h (fun r s4 h => ?_))
    obtain ⟨x3, rfl, h⟩ := h
    show VV mX6_score d s00 19 [some (.ref 0), some (.int p1), some (.int p2)] [.int x3] s4 (Qi K)
    refine v_if_ne (t := 25) (q := 22) dX6_score_19 rfl (by decide) (fun c => ?_) (fun c => ?_)
    · have h := h.1 (c)
      refine v_aload_n (q := 26) dX6_score_25 rfl rfl ?_
      refine v_get (q := 29) dX6_score_26 rfl fl_6_10 rfl rfl ?_
      refine v_iload_n (q := 30) dX6_score_29 rfl rfl ?_
      refine v_iload_n (q := 31) dX6_score_30 rfl rfl ?_
      refine v_callN (As := [.int p1, .int p2]) (n := 2) (q := 34) dX6_score_31 rfl lk_6_126 hd1 rfl rfl (Nat.le_of_ble_eq_true rfl) (CT.imp h (fun r s6 h => ?_))
      obtain ⟨x5, rfl, h⟩ := h
      show VV mX6_score d s00 34 [some (.ref 0), some (.int p1), some (.int p2)] [.int x5] s6 (Qi K)
      exact v_iret dX6_score_34 rfl ⟨_, rfl, h⟩
    · have h := h.2 (c)
      refine v_ldc (v := (-1000001)) (q := 24) dX6_score_22 rfl cn_6_60 ?_
      exact v_iret dX6_score_24 rfl ⟨_, rfl, h⟩
theorem eX6_score {d : Nat} {σ : SS} {K : Int32 → SS → Prop} (p1 : Int32) (p2 : Int32)  (hd1 : 1 ≤ d) (h : CTi mX2_hasPhrase (d - 1) [.ref 1, .int p1] σ (fun x1 s2 => ((x1 = 0) → (K (-1000001) s2)) ∧ ((¬ x1 = 0) → (CTi mX2_hasPhrase (d - 1) [.ref 1, .int p2] s2 (fun x3 s4 => ((¬ x3 = 0) → (CTi mX2_likenessOf (d - 1) [.ref 1, .int p1, .int p2] s4 (fun x5 s6 => K x5 s6))) ∧ ((x3 = 0) → (K (-1000001) s4))))))) : CTi mX6_score d [.ref 0, .int p1, .int p2] σ K := CT_of (Q := (Qi K)) (by decide +kernel) rfl (by decide) (Nat.le_of_ble_eq_true rfl) rfl (bX6_score_0 p1 p2 hd1 h)
set_option maxRecDepth 20000 in
theorem bX6_match_0 {d : Nat} {σ : SS} {K : Int32 → SS → Prop}   (hd1 : 1 ≤ d) (h : CTi mX3_isFaulty (d - 1) [.ref 3] σ (fun x1 s2 => ((x1 = 0) → (CTi mX6_findMatch (d - 1) [.ref 0] s2 (fun x3 s4 => K x3 s4))) ∧ ((¬ x1 = 0) → (K (-1000003) s2)))) : VV mX6_match d s00 0 [some (.ref 0)] [] σ (Qi K) := by
  refine v_aload_n (q := 1) dX6_match_0 rfl rfl ?_
  refine v_get (q := 4) dX6_match_1 rfl fl_6_26 rfl rfl ?_
  refine v_callN (As := []) (n := 0) (q := 7) dX6_match_4 rfl lk_6_98 hd1 rfl rfl (Nat.le_of_ble_eq_true rfl) (CT.imp h (fun r s2 h => ?_))
  obtain ⟨x1, rfl, h⟩ := h
  show VV mX6_match d s00 7 [some (.ref 0)] [.int x1] s2 (Qi K)
  refine v_if_eq (t := 15) (q := 10) dX6_match_7 rfl (by decide) (fun c => ?_) (fun c => ?_)
  · have h := h.1 (c)
    refine v_aload_n (q := 16) dX6_match_15 rfl rfl ?_
    refine v_callV (As := []) (n := 0) (q := 19) dX6_match_16 rfl lk_6_140 hd1 rfl rfl (Nat.le_of_ble_eq_true rfl) (CT.imp h (fun r s4 h => ?_))
    obtain ⟨x3, rfl, h⟩ := h
    show VV mX6_match d s00 19 [some (.ref 0)] [.int x3] s4 (Qi K)
    exact v_iret dX6_match_19 rfl ⟨_, rfl, h⟩
  · have h := h.2 (c)
    refine v_ldc (v := (-1000003)) (q := 12) dX6_match_10 rfl cn_6_105 ?_
    refine v_goto (q := 19) dX6_match_12 (by decide) ?_
    exact v_iret dX6_match_19 rfl ⟨_, rfl, h⟩
theorem eX6_match {d : Nat} {σ : SS} {K : Int32 → SS → Prop}   (hd1 : 1 ≤ d) (h : CTi mX3_isFaulty (d - 1) [.ref 3] σ (fun x1 s2 => ((x1 = 0) → (CTi mX6_findMatch (d - 1) [.ref 0] s2 (fun x3 s4 => K x3 s4))) ∧ ((¬ x1 = 0) → (K (-1000003) s2)))) : CTi mX6_match d [.ref 0] σ K := CT_of (Q := (Qi K)) (by decide +kernel) rfl (by decide) (Nat.le_of_ble_eq_true rfl) rfl (bX6_match_0  hd1 h)
set_option maxRecDepth 20000 in
theorem bX6_alike_0 {d : Nat} {σ : SS} {K : Int32 → SS → Prop} (p1 : Int32)  (hd1 : 1 ≤ d) (h : CTi mX2_hasPhrase (d - 1) [.ref 1, .int p1] σ (fun x1 s2 => ((¬ x1 = 0) → (CTi mX3_isFaulty (d - 1) [.ref 3] s2 (fun x3 s4 => ((x3 = 0) → (CTv mX3_readInto (d - 1) [.ref 3, .ref 4] s4 (fun s6 => CTi mX2_likenessTo (d - 1) [.ref 1, .ref 4, .int p1] s6 (fun x7 s8 => K x7 s8)))) ∧ ((¬ x3 = 0) → (K (-1000003) s4))))) ∧ ((x1 = 0) → (K (-1000001) s2)))) : VV mX6_alike d s00 0 [some (.ref 0), some (.int p1)] [] σ (Qi K) := by
  refine v_aload_n (q := 1) dX6_alike_0 rfl rfl ?_
  refine v_get (q := 4) dX6_alike_1 rfl fl_6_10 rfl rfl ?_
  refine v_iload_n (q := 5) dX6_alike_4 rfl rfl ?_
  refine v_callN (As := [.int p1]) (n := 1) (q := 8) dX6_alike_5 rfl lk_6_95 hd1 rfl rfl (Nat.le_of_ble_eq_true rfl) (CT.imp h (fun r s2 h => ?_))
  obtain ⟨x1, rfl, h⟩ := h
  show VV mX6_alike d s00 8 [some (.ref 0), some (.int p1)] [.int x1] s2 (Qi K)
  refine v_if_ne (t := 14) (q := 11) dX6_alike_8 rfl (by decide) (fun c => ?_) (fun c => ?_)
  · have h := h.1 (c)
    refine v_aload_n (q := 15) dX6_alike_14 rfl rfl ?_
    refine v_get (q := 18) dX6_alike_15 rfl fl_6_26 rfl rfl ?_
    refine v_callN (As := []) (n := 0) (q := 21) dX6_alike_18 rfl lk_6_98 hd1 rfl rfl (Nat.le_of_ble_eq_true rfl) (CT.imp h (fun r s4 h => ?_))
    obtain ⟨x3, rfl, h⟩ := h
    show VV mX6_alike d s00 21 [some (.ref 0), some (.int p1)] [.int x3] s4 (Qi K)
    refine v_if_eq (t := 27) (q := 24) dX6_alike_21 rfl (by decide) (fun c => ?_) (fun c => ?_)
    · have h := h.1 (c)
      refine v_aload_n (q := 28) dX6_alike_27 rfl rfl ?_
      refine v_get (q := 31) dX6_alike_28 rfl fl_6_26 rfl rfl ?_
      refine v_aload_n (q := 32) dX6_alike_31 rfl rfl ?_
      refine v_get (q := 35) dX6_alike_32 rfl fl_6_33 rfl rfl ?_
      refine v_callN (As := [.ref 4]) (n := 1) (q := 38) dX6_alike_35 rfl lk_6_109 hd1 rfl rfl (Nat.le_of_ble_eq_true rfl) (CT.imp h (fun r s6 h => ?_))
      obtain ⟨rfl, h⟩ := h
      show VV mX6_alike d s00 38 [some (.ref 0), some (.int p1)] [] s6 (Qi K)
      refine v_aload_n (q := 39) dX6_alike_38 rfl rfl ?_
      refine v_get (q := 42) dX6_alike_39 rfl fl_6_10 rfl rfl ?_
      refine v_aload_n (q := 43) dX6_alike_42 rfl rfl ?_
      refine v_get (q := 46) dX6_alike_43 rfl fl_6_33 rfl rfl ?_
      refine v_iload_n (q := 47) dX6_alike_46 rfl rfl ?_
      refine v_callN (As := [.ref 4, .int p1]) (n := 2) (q := 50) dX6_alike_47 rfl lk_6_143 hd1 rfl rfl (Nat.le_of_ble_eq_true rfl) (CT.imp h (fun r s8 h => ?_))
      obtain ⟨x7, rfl, h⟩ := h
      show VV mX6_alike d s00 50 [some (.ref 0), some (.int p1)] [.int x7] s8 (Qi K)
      exact v_iret dX6_alike_50 rfl ⟨_, rfl, h⟩
    · have h := h.2 (c)
      refine v_ldc (v := (-1000003)) (q := 26) dX6_alike_24 rfl cn_6_105 ?_
      exact v_iret dX6_alike_26 rfl ⟨_, rfl, h⟩
  · have h := h.2 (c)
    refine v_ldc (v := (-1000001)) (q := 13) dX6_alike_11 rfl cn_6_60 ?_
    exact v_iret dX6_alike_13 rfl ⟨_, rfl, h⟩
theorem eX6_alike {d : Nat} {σ : SS} {K : Int32 → SS → Prop} (p1 : Int32)  (hd1 : 1 ≤ d) (h : CTi mX2_hasPhrase (d - 1) [.ref 1, .int p1] σ (fun x1 s2 => ((¬ x1 = 0) → (CTi mX3_isFaulty (d - 1) [.ref 3] s2 (fun x3 s4 => ((x3 = 0) → (CTv mX3_readInto (d - 1) [.ref 3, .ref 4] s4 (fun s6 => CTi mX2_likenessTo (d - 1) [.ref 1, .ref 4, .int p1] s6 (fun x7 s8 => K x7 s8)))) ∧ ((¬ x3 = 0) → (K (-1000003) s4))))) ∧ ((x1 = 0) → (K (-1000001) s2)))) : CTi mX6_alike d [.ref 0, .int p1] σ K := CT_of (Q := (Qi K)) (by decide +kernel) rfl (by decide) (Nat.le_of_ble_eq_true rfl) rfl (bX6_alike_0 p1 hd1 h)
set_option maxRecDepth 20000 in
theorem bX6_fee_0 {d : Nat} {σ : SS} {K : Int32 → SS → Prop} (p1 : Int32)  (hd1 : 1 ≤ d) (h : CTi mX2_hasMember (d - 1) [.ref 1, .int p1] σ (fun x1 s2 => ((¬ x1 = 0) → (CTi mX3_isFaulty (d - 1) [.ref 3] s2 (fun x3 s4 => ((x3 = 0) → (CTi mX6_findMatch (d - 1) [.ref 0] s4 (fun x5 s6 => ((¬ x5 = (-1000000)) → (CTi mX2_likenessTo (d - 1) [.ref 1, .ref 4, .int x5] s6 (fun x7 s8 => CTi mX2_feeFor (d - 1) [.ref 1, .int p1, .int x5, .int x7] s8 (fun x9 s10 => K x9 s10)))) ∧ ((x5 = (-1000000)) → (K (-1000000) s6))))) ∧ ((¬ x3 = 0) → (K (-1000003) s4))))) ∧ ((x1 = 0) → (K (-1000001) s2)))) : VV mX6_fee d s00 0 [some (.ref 0), some (.int p1), none] [] σ (Qi K) := by
  refine v_aload_n (q := 1) dX6_fee_0 rfl rfl ?_
  refine v_get (q := 4) dX6_fee_1 rfl fl_6_10 rfl rfl ?_
  refine v_iload_n (q := 5) dX6_fee_4 rfl rfl ?_
  refine v_callN (As := [.int p1]) (n := 1) (q := 8) dX6_fee_5 rfl lk_6_56 hd1 rfl rfl (Nat.le_of_ble_eq_true rfl) (CT.imp h (fun r s2 h => ?_))
  obtain ⟨x1, rfl, h⟩ := h
  show VV mX6_fee d s00 8 [some (.ref 0), some (.int p1), none] [.int x1] s2 (Qi K)
  refine v_if_ne (t := 14) (q := 11) dX6_fee_8 rfl (by decide) (fun c => ?_) (fun c => ?_)
  · have h := h.1 (c)
    refine v_aload_n (q := 15) dX6_fee_14 rfl rfl ?_
    refine v_get (q := 18) dX6_fee_15 rfl fl_6_26 rfl rfl ?_
    refine v_callN (As := []) (n := 0) (q := 21) dX6_fee_18 rfl lk_6_98 hd1 rfl rfl (Nat.le_of_ble_eq_true rfl) (CT.imp h (fun r s4 h => ?_))
    obtain ⟨x3, rfl, h⟩ := h
    show VV mX6_fee d s00 21 [some (.ref 0), some (.int p1), none] [.int x3] s4 (Qi K)
    refine v_if_eq (t := 27) (q := 24) dX6_fee_21 rfl (by decide) (fun c => ?_) (fun c => ?_)
    · have h := h.1 (c)
      refine v_aload_n (q := 28) dX6_fee_27 rfl rfl ?_
      refine v_callV (As := []) (n := 0) (q := 31) dX6_fee_28 rfl lk_6_140 hd1 rfl rfl (Nat.le_of_ble_eq_true rfl) (CT.imp h (fun r s6 h => ?_))
      obtain ⟨x5, rfl, h⟩ := h
      show VV mX6_fee d s00 31 [some (.ref 0), some (.int p1), none] [.int x5] s6 (Qi K)
      refine v_istore_n (q := 32) dX6_fee_31 rfl (by decide) rfl ?_
      refine v_iload_n (q := 33) dX6_fee_32 rfl rfl ?_
      refine v_ldc (v := (-1000000)) (q := 35) dX6_fee_33 rfl cn_6_94 ?_
      refine v_icmp_ne (t := 43) (q := 38) dX6_fee_35 rfl (by decide) (fun c => ?_) (fun c => ?_)
      · have h := h.1 (c)
        refine v_aload_n (q := 44) dX6_fee_43 rfl rfl ?_
        refine v_get (q := 47) dX6_fee_44 rfl fl_6_10 rfl rfl ?_
        refine v_iload_n (q := 48) dX6_fee_47 rfl rfl ?_
        refine v_iload_n (q := 49) dX6_fee_48 rfl rfl ?_
        refine v_aload_n (q := 50) dX6_fee_49 rfl rfl ?_
        refine v_get (q := 53) dX6_fee_50 rfl fl_6_10 rfl rfl ?_
        refine v_aload_n (q := 54) dX6_fee_53 rfl rfl ?_
        refine v_get (q := 57) dX6_fee_54 rfl fl_6_33 rfl rfl ?_
        refine v_iload_n (q := 58) dX6_fee_57 rfl rfl ?_
        refine v_callN (As := [.ref 4, .int x5]) (n := 2) (q := 61) dX6_fee_58 rfl lk_6_143 hd1 rfl rfl (Nat.le_of_ble_eq_true rfl) (CT.imp h (fun r s8 h => ?_))
        obtain ⟨x7, rfl, h⟩ := h
        show VV mX6_fee d s00 61 [some (.ref 0), some (.int p1), some (.int x5)] [.int x7, .int x5, .int p1, .ref 1] s8 (Qi K)
        refine v_callN (As := [.int p1, .int x5, .int x7]) (n := 3) (q := 64) dX6_fee_61 rfl lk_6_147 hd1 rfl rfl (Nat.le_of_ble_eq_true rfl) (CT.imp h (fun r s10 h => ?_))
        obtain ⟨x9, rfl, h⟩ := h
        show VV mX6_fee d s00 64 [some (.ref 0), some (.int p1), some (.int x5)] [.int x9] s10 (Qi K)
        exact v_iret dX6_fee_64 rfl ⟨_, rfl, h⟩
      · have h := h.2 (c)
        refine v_ldc (v := (-1000000)) (q := 40) dX6_fee_38 rfl cn_6_94 ?_
        refine v_goto (q := 64) dX6_fee_40 (by decide) ?_
        exact v_iret dX6_fee_64 rfl ⟨_, rfl, h⟩
    · have h := h.2 (c)
      refine v_ldc (v := (-1000003)) (q := 26) dX6_fee_24 rfl cn_6_105 ?_
      exact v_iret dX6_fee_26 rfl ⟨_, rfl, h⟩
  · have h := h.2 (c)
    refine v_ldc (v := (-1000001)) (q := 13) dX6_fee_11 rfl cn_6_60 ?_
    exact v_iret dX6_fee_13 rfl ⟨_, rfl, h⟩
theorem eX6_fee {d : Nat} {σ : SS} {K : Int32 → SS → Prop} (p1 : Int32)  (hd1 : 1 ≤ d) (h : CTi mX2_hasMember (d - 1) [.ref 1, .int p1] σ (fun x1 s2 => ((¬ x1 = 0) → (CTi mX3_isFaulty (d - 1) [.ref 3] s2 (fun x3 s4 => ((x3 = 0) → (CTi mX6_findMatch (d - 1) [.ref 0] s4 (fun x5 s6 => ((¬ x5 = (-1000000)) → (CTi mX2_likenessTo (d - 1) [.ref 1, .ref 4, .int x5] s6 (fun x7 s8 => CTi mX2_feeFor (d - 1) [.ref 1, .int p1, .int x5, .int x7] s8 (fun x9 s10 => K x9 s10)))) ∧ ((x5 = (-1000000)) → (K (-1000000) s6))))) ∧ ((¬ x3 = 0) → (K (-1000003) s4))))) ∧ ((x1 = 0) → (K (-1000001) s2)))) : CTi mX6_fee d [.ref 0, .int p1] σ K := CT_of (Q := (Qi K)) (by decide +kernel) rfl (by decide) (Nat.le_of_ble_eq_true rfl) rfl (bX6_fee_0 p1 hd1 h)
set_option maxRecDepth 20000 in
theorem bX6_use_0 {d : Nat} {σ : SS} {K : Int32 → SS → Prop} (p1 : Int32)  (hd1 : 1 ≤ d) (h : CTi mX2_hasMember (d - 1) [.ref 1, .int p1] σ (fun x1 s2 => ((¬ x1 = 0) → (CTi mX3_isFaulty (d - 1) [.ref 3] s2 (fun x3 s4 => ((x3 = 0) → (CTi mX2_notes (d - 1) [.ref 1] s4 (fun x5 s6 => ((x5 < (nI 24)) → (CTv mX0_keep (d - 1) [.ref 2, .ref 1] s6 (fun s8 => CTi mX6_findMatch (d - 1) [.ref 0] s8 (fun x9 s10 => ((¬ x9 = (-1000000)) → (CTi mX2_likenessTo (d - 1) [.ref 1, .ref 4, .int x9] s10 (fun x11 s12 => CTi mX2_startNote (d - 1) [.ref 1, .int p1, .int x9, .int x11] s12 (fun x13 s14 => K x13 s14)))) ∧ ((x9 = (-1000000)) → (K (-1000000) s10)))))) ∧ ((¬ x5 < (nI 24)) → (K (-1000004) s6))))) ∧ ((¬ x3 = 0) → (K (-1000003) s4))))) ∧ ((x1 = 0) → (K (-1000001) s2)))) : VV mX6_use d s00 0 [some (.ref 0), some (.int p1), none] [] σ (Qi K) := by
  refine v_aload_n (q := 1) dX6_use_0 rfl rfl ?_
  refine v_get (q := 4) dX6_use_1 rfl fl_6_10 rfl rfl ?_
  refine v_iload_n (q := 5) dX6_use_4 rfl rfl ?_
  refine v_callN (As := [.int p1]) (n := 1) (q := 8) dX6_use_5 rfl lk_6_56 hd1 rfl rfl (Nat.le_of_ble_eq_true rfl) (CT.imp h (fun r s2 h => ?_))
  obtain ⟨x1, rfl, h⟩ := h
  show VV mX6_use d s00 8 [some (.ref 0), some (.int p1), none] [.int x1] s2 (Qi K)
  refine v_if_ne (t := 14) (q := 11) dX6_use_8 rfl (by decide) (fun c => ?_) (fun c => ?_)
  · have h := h.1 (c)
    refine v_aload_n (q := 15) dX6_use_14 rfl rfl ?_
    refine v_get (q := 18) dX6_use_15 rfl fl_6_26 rfl rfl ?_
    refine v_callN (As := []) (n := 0) (q := 21) dX6_use_18 rfl lk_6_98 hd1 rfl rfl (Nat.le_of_ble_eq_true rfl) (CT.imp h (fun r s4 h => ?_))
    obtain ⟨x3, rfl, h⟩ := h
    show VV mX6_use d s00 21 [some (.ref 0), some (.int p1), none] [.int x3] s4 (Qi K)
    refine v_if_eq (t := 27) (q := 24) dX6_use_21 rfl (by decide) (fun c => ?_) (fun c => ?_)
    · have h := h.1 (c)
      refine v_aload_n (q := 28) dX6_use_27 rfl rfl ?_
      refine v_get (q := 31) dX6_use_28 rfl fl_6_10 rfl rfl ?_
      refine v_callN (As := []) (n := 0) (q := 34) dX6_use_31 rfl lk_6_151 hd1 rfl rfl (Nat.le_of_ble_eq_true rfl) (CT.imp h (fun r s6 h => ?_))
      obtain ⟨x5, rfl, h⟩ := h
      show VV mX6_use d s00 34 [some (.ref 0), some (.int p1), none] [.int x5] s6 (Qi K)
      refine v_bipush (v := (nI 24)) (q := 36) dX6_use_34 rfl (by decide) ?_
      refine v_icmp_lt (t := 42) (q := 39) dX6_use_36 rfl (by decide) (fun c => ?_) (fun c => ?_)
      · have h := h.1 (c)
        refine v_aload_n (q := 43) dX6_use_42 rfl rfl ?_
        refine v_get (q := 46) dX6_use_43 rfl fl_6_19 rfl rfl ?_
        refine v_aload_n (q := 47) dX6_use_46 rfl rfl ?_
        refine v_get (q := 50) dX6_use_47 rfl fl_6_10 rfl rfl ?_
        refine v_callN (As := [.ref 1]) (n := 1) (q := 53) dX6_use_50 rfl lk_6_49 hd1 rfl rfl (Nat.le_of_ble_eq_true rfl) (CT.imp h (fun r s8 h => ?_))
        obtain ⟨rfl, h⟩ := h
        show VV mX6_use d s00 53 [some (.ref 0), some (.int p1), none] [] s8 (Qi K)
        refine v_aload_n (q := 54) dX6_use_53 rfl rfl ?_
        refine v_callV (As := []) (n := 0) (q := 57) dX6_use_54 rfl lk_6_140 hd1 rfl rfl (Nat.le_of_ble_eq_true rfl) (CT.imp h (fun r s10 h => ?_))
        obtain ⟨x9, rfl, h⟩ := h
        show VV mX6_use d s00 57 [some (.ref 0), some (.int p1), none] [.int x9] s10 (Qi K)
        refine v_istore_n (q := 58) dX6_use_57 rfl (by decide) rfl ?_
        refine v_iload_n (q := 59) dX6_use_58 rfl rfl ?_
        refine v_ldc (v := (-1000000)) (q := 61) dX6_use_59 rfl cn_6_94 ?_
        refine v_icmp_ne (t := 69) (q := 64) dX6_use_61 rfl (by decide) (fun c => ?_) (fun c => ?_)
        · have h := h.1 (c)
          refine v_aload_n (q := 70) dX6_use_69 rfl rfl ?_
          refine v_get (q := 73) dX6_use_70 rfl fl_6_10 rfl rfl ?_
          refine v_iload_n (q := 74) dX6_use_73 rfl rfl ?_
          refine v_iload_n (q := 75) dX6_use_74 rfl rfl ?_
          refine v_aload_n (q := 76) dX6_use_75 rfl rfl ?_
          refine v_get (q := 79) dX6_use_76 rfl fl_6_10 rfl rfl ?_
          refine v_aload_n (q := 80) dX6_use_79 rfl rfl ?_
          refine v_get (q := 83) dX6_use_80 rfl fl_6_33 rfl rfl ?_
          refine v_iload_n (q := 84) dX6_use_83 rfl rfl ?_
          refine v_callN (As := [.ref 4, .int x9]) (n := 2) (q := 87) dX6_use_84 rfl lk_6_143 hd1 rfl rfl (Nat.le_of_ble_eq_true rfl) (CT.imp h (fun r s12 h => ?_))
          obtain ⟨x11, rfl, h⟩ := h
          show VV mX6_use d s00 87 [some (.ref 0), some (.int p1), some (.int x9)] [.int x11, .int x9, .int p1, .ref 1] s12 (Qi K)
          refine v_callN (As := [.int p1, .int x9, .int x11]) (n := 3) (q := 90) dX6_use_87 rfl lk_6_154 hd1 rfl rfl (Nat.le_of_ble_eq_true rfl) (CT.imp h (fun r s14 h => ?_))
          obtain ⟨x13, rfl, h⟩ := h
          show VV mX6_use d s00 90 [some (.ref 0), some (.int p1), some (.int x9)] [.int x13] s14 (Qi K)
          exact v_iret dX6_use_90 rfl ⟨_, rfl, h⟩
        · have h := h.2 (c)
          refine v_ldc (v := (-1000000)) (q := 66) dX6_use_64 rfl cn_6_94 ?_
          refine v_goto (q := 90) dX6_use_66 (by decide) ?_
          exact v_iret dX6_use_90 rfl ⟨_, rfl, h⟩
      · have h := h.2 (c)
        refine v_ldc (v := (-1000004)) (q := 41) dX6_use_39 rfl cn_6_48 ?_
        exact v_iret dX6_use_41 rfl ⟨_, rfl, h⟩
    · have h := h.2 (c)
      refine v_ldc (v := (-1000003)) (q := 26) dX6_use_24 rfl cn_6_105 ?_
      exact v_iret dX6_use_26 rfl ⟨_, rfl, h⟩
  · have h := h.2 (c)
    refine v_ldc (v := (-1000001)) (q := 13) dX6_use_11 rfl cn_6_60 ?_
    exact v_iret dX6_use_13 rfl ⟨_, rfl, h⟩
theorem eX6_use {d : Nat} {σ : SS} {K : Int32 → SS → Prop} (p1 : Int32)  (hd1 : 1 ≤ d) (h : CTi mX2_hasMember (d - 1) [.ref 1, .int p1] σ (fun x1 s2 => ((¬ x1 = 0) → (CTi mX3_isFaulty (d - 1) [.ref 3] s2 (fun x3 s4 => ((x3 = 0) → (CTi mX2_notes (d - 1) [.ref 1] s4 (fun x5 s6 => ((x5 < (nI 24)) → (CTv mX0_keep (d - 1) [.ref 2, .ref 1] s6 (fun s8 => CTi mX6_findMatch (d - 1) [.ref 0] s8 (fun x9 s10 => ((¬ x9 = (-1000000)) → (CTi mX2_likenessTo (d - 1) [.ref 1, .ref 4, .int x9] s10 (fun x11 s12 => CTi mX2_startNote (d - 1) [.ref 1, .int p1, .int x9, .int x11] s12 (fun x13 s14 => K x13 s14)))) ∧ ((x9 = (-1000000)) → (K (-1000000) s10)))))) ∧ ((¬ x5 < (nI 24)) → (K (-1000004) s6))))) ∧ ((¬ x3 = 0) → (K (-1000003) s4))))) ∧ ((x1 = 0) → (K (-1000001) s2)))) : CTi mX6_use d [.ref 0, .int p1] σ K := CT_of (Q := (Qi K)) (by decide +kernel) rfl (by decide) (Nat.le_of_ble_eq_true rfl) rfl (bX6_use_0 p1 hd1 h)
set_option maxRecDepth 20000 in
theorem bX6_note_0 {d : Nat} {σ : SS} {K : Int32 → SS → Prop} (p1 : Int32) (p2 : Int32)  (hd1 : 1 ≤ d) (h : CTi mX2_hasNote (d - 1) [.ref 1, .int p1] σ (fun x1 s2 => ((¬ x1 = 0) → (((p2 < 0) → (K (-1000002) s2)) ∧ ((¬ p2 < 0) → (((p2 < (nI 13)) → (CTi mX2_noteProperty (d - 1) [.ref 1, .int p1, .int p2] s2 (fun x3 s4 => K x3 s4))) ∧ ((¬ p2 < (nI 13)) → (K (-1000002) s2)))))) ∧ ((x1 = 0) → (K (-1000001) s2)))) : VV mX6_note d s00 0 [some (.ref 0), some (.int p1), some (.int p2)] [] σ (Qi K) := by
  refine v_aload_n (q := 1) dX6_note_0 rfl rfl ?_
  refine v_get (q := 4) dX6_note_1 rfl fl_6_10 rfl rfl ?_
  refine v_iload_n (q := 5) dX6_note_4 rfl rfl ?_
  refine v_callN (As := [.int p1]) (n := 1) (q := 8) dX6_note_5 rfl lk_6_157 hd1 rfl rfl (Nat.le_of_ble_eq_true rfl) (CT.imp h (fun r s2 h => ?_))
  obtain ⟨x1, rfl, h⟩ := h
  show VV mX6_note d s00 8 [some (.ref 0), some (.int p1), some (.int p2)] [.int x1] s2 (Qi K)
  refine v_if_ne (t := 14) (q := 11) dX6_note_8 rfl (by decide) (fun c => ?_) (fun c => ?_)
  · have h := h.1 (c)
    refine v_iload_n (q := 15) dX6_note_14 rfl rfl ?_
    refine v_if_lt (t := 24) (q := 18) dX6_note_15 rfl (by decide) (fun c => ?_) (fun c => ?_)
    · have h := h.1 (c)
      refine v_ldc (v := (-1000002)) (q := 26) dX6_note_24 rfl cn_6_61 ?_
      exact v_iret dX6_note_26 rfl ⟨_, rfl, h⟩
    · have h := h.2 (c)
      refine v_iload_n (q := 19) dX6_note_18 rfl rfl ?_
      refine v_bipush (v := (nI 13)) (q := 21) dX6_note_19 rfl (by decide) ?_
      refine v_icmp_lt (t := 27) (q := 24) dX6_note_21 rfl (by decide) (fun c => ?_) (fun c => ?_)
      · have h := h.1 (c)
        refine v_aload_n (q := 28) dX6_note_27 rfl rfl ?_
        refine v_get (q := 31) dX6_note_28 rfl fl_6_10 rfl rfl ?_
        refine v_iload_n (q := 32) dX6_note_31 rfl rfl ?_
        refine v_iload_n (q := 33) dX6_note_32 rfl rfl ?_
        refine v_callN (As := [.int p1, .int p2]) (n := 2) (q := 36) dX6_note_33 rfl lk_6_160 hd1 rfl rfl (Nat.le_of_ble_eq_true rfl) (CT.imp h (fun r s4 h => ?_))
        obtain ⟨x3, rfl, h⟩ := h
        show VV mX6_note d s00 36 [some (.ref 0), some (.int p1), some (.int p2)] [.int x3] s4 (Qi K)
        exact v_iret dX6_note_36 rfl ⟨_, rfl, h⟩
      · have h := h.2 (c)
        refine v_ldc (v := (-1000002)) (q := 26) dX6_note_24 rfl cn_6_61 ?_
        exact v_iret dX6_note_26 rfl ⟨_, rfl, h⟩
  · have h := h.2 (c)
    refine v_ldc (v := (-1000001)) (q := 13) dX6_note_11 rfl cn_6_60 ?_
    exact v_iret dX6_note_13 rfl ⟨_, rfl, h⟩
theorem eX6_note {d : Nat} {σ : SS} {K : Int32 → SS → Prop} (p1 : Int32) (p2 : Int32)  (hd1 : 1 ≤ d) (h : CTi mX2_hasNote (d - 1) [.ref 1, .int p1] σ (fun x1 s2 => ((¬ x1 = 0) → (((p2 < 0) → (K (-1000002) s2)) ∧ ((¬ p2 < 0) → (((p2 < (nI 13)) → (CTi mX2_noteProperty (d - 1) [.ref 1, .int p1, .int p2] s2 (fun x3 s4 => K x3 s4))) ∧ ((¬ p2 < (nI 13)) → (K (-1000002) s2)))))) ∧ ((x1 = 0) → (K (-1000001) s2)))) : CTi mX6_note d [.ref 0, .int p1, .int p2] σ K := CT_of (Q := (Qi K)) (by decide +kernel) rfl (by decide) (Nat.le_of_ble_eq_true rfl) rfl (bX6_note_0 p1 p2 hd1 h)
set_option maxRecDepth 20000 in
theorem bX6_retract_0 {d : Nat} {σ : SS} {K : Int32 → SS → Prop} (p1 : Int32)  (hd1 : 1 ≤ d) (h : CTi mX2_hasPhrase (d - 1) [.ref 1, .int p1] σ (fun x1 s2 => ((¬ x1 = 0) → (CTi mX2_isLive (d - 1) [.ref 1, .int p1] s2 (fun x3 s4 => ((¬ x3 = 0) → (CTv mX0_keep (d - 1) [.ref 2, .ref 1] s4 (fun s6 => CTv mX2_markEndings (d - 1) [.ref 1, .int p1] s6 (fun s8 => CTv mX2_payBackMarked (d - 1) [.ref 1] s8 (fun s10 => CTi mX2_endMarked (d - 1) [.ref 1] s10 (fun x11 s12 => K x11 s12)))))) ∧ ((x3 = 0) → (K (-1000003) s4))))) ∧ ((x1 = 0) → (K (-1000001) s2)))) : VV mX6_retract d s00 0 [some (.ref 0), some (.int p1)] [] σ (Qi K) := by
  refine v_aload_n (q := 1) dX6_retract_0 rfl rfl ?_
  refine v_get (q := 4) dX6_retract_1 rfl fl_6_10 rfl rfl ?_
  refine v_iload_n (q := 5) dX6_retract_4 rfl rfl ?_
  refine v_callN (As := [.int p1]) (n := 1) (q := 8) dX6_retract_5 rfl lk_6_95 hd1 rfl rfl (Nat.le_of_ble_eq_true rfl) (CT.imp h (fun r s2 h => ?_))
  obtain ⟨x1, rfl, h⟩ := h
  show VV mX6_retract d s00 8 [some (.ref 0), some (.int p1)] [.int x1] s2 (Qi K)
  refine v_if_ne (t := 14) (q := 11) dX6_retract_8 rfl (by decide) (fun c => ?_) (fun c => ?_)
  · have h := h.1 (c)
    refine v_aload_n (q := 15) dX6_retract_14 rfl rfl ?_
    refine v_get (q := 18) dX6_retract_15 rfl fl_6_10 rfl rfl ?_
    refine v_iload_n (q := 19) dX6_retract_18 rfl rfl ?_
    refine v_callN (As := [.int p1]) (n := 1) (q := 22) dX6_retract_19 rfl lk_6_102 hd1 rfl rfl (Nat.le_of_ble_eq_true rfl) (CT.imp h (fun r s4 h => ?_))
    obtain ⟨x3, rfl, h⟩ := h
    show VV mX6_retract d s00 22 [some (.ref 0), some (.int p1)] [.int x3] s4 (Qi K)
    refine v_if_ne (t := 28) (q := 25) dX6_retract_22 rfl (by decide) (fun c => ?_) (fun c => ?_)
    · have h := h.1 (c)
      refine v_aload_n (q := 29) dX6_retract_28 rfl rfl ?_
      refine v_get (q := 32) dX6_retract_29 rfl fl_6_19 rfl rfl ?_
      refine v_aload_n (q := 33) dX6_retract_32 rfl rfl ?_
      refine v_get (q := 36) dX6_retract_33 rfl fl_6_10 rfl rfl ?_
      refine v_callN (As := [.ref 1]) (n := 1) (q := 39) dX6_retract_36 rfl lk_6_49 hd1 rfl rfl (Nat.le_of_ble_eq_true rfl) (CT.imp h (fun r s6 h => ?_))
      obtain ⟨rfl, h⟩ := h
      show VV mX6_retract d s00 39 [some (.ref 0), some (.int p1)] [] s6 (Qi K)
      refine v_aload_n (q := 40) dX6_retract_39 rfl rfl ?_
      refine v_get (q := 43) dX6_retract_40 rfl fl_6_10 rfl rfl ?_
      refine v_iload_n (q := 44) dX6_retract_43 rfl rfl ?_
      refine v_callN (As := [.int p1]) (n := 1) (q := 47) dX6_retract_44 rfl lk_6_163 hd1 rfl rfl (Nat.le_of_ble_eq_true rfl) (CT.imp h (fun r s8 h => ?_))
      obtain ⟨rfl, h⟩ := h
      show VV mX6_retract d s00 47 [some (.ref 0), some (.int p1)] [] s8 (Qi K)
      refine v_aload_n (q := 48) dX6_retract_47 rfl rfl ?_
      refine v_get (q := 51) dX6_retract_48 rfl fl_6_10 rfl rfl ?_
      refine v_callN (As := []) (n := 0) (q := 54) dX6_retract_51 rfl lk_6_167 hd1 rfl rfl (Nat.le_of_ble_eq_true rfl) (CT.imp h (fun r s10 h => ?_))
      obtain ⟨rfl, h⟩ := h
      show VV mX6_retract d s00 54 [some (.ref 0), some (.int p1)] [] s10 (Qi K)
      refine v_aload_n (q := 55) dX6_retract_54 rfl rfl ?_
      refine v_get (q := 58) dX6_retract_55 rfl fl_6_10 rfl rfl ?_
      refine v_callN (As := []) (n := 0) (q := 61) dX6_retract_58 rfl lk_6_170 hd1 rfl rfl (Nat.le_of_ble_eq_true rfl) (CT.imp h (fun r s12 h => ?_))
      obtain ⟨x11, rfl, h⟩ := h
      show VV mX6_retract d s00 61 [some (.ref 0), some (.int p1)] [.int x11] s12 (Qi K)
      exact v_iret dX6_retract_61 rfl ⟨_, rfl, h⟩
    · have h := h.2 (c)
      refine v_ldc (v := (-1000003)) (q := 27) dX6_retract_25 rfl cn_6_105 ?_
      exact v_iret dX6_retract_27 rfl ⟨_, rfl, h⟩
  · have h := h.2 (c)
    refine v_ldc (v := (-1000001)) (q := 13) dX6_retract_11 rfl cn_6_60 ?_
    exact v_iret dX6_retract_13 rfl ⟨_, rfl, h⟩
theorem eX6_retract {d : Nat} {σ : SS} {K : Int32 → SS → Prop} (p1 : Int32)  (hd1 : 1 ≤ d) (h : CTi mX2_hasPhrase (d - 1) [.ref 1, .int p1] σ (fun x1 s2 => ((¬ x1 = 0) → (CTi mX2_isLive (d - 1) [.ref 1, .int p1] s2 (fun x3 s4 => ((¬ x3 = 0) → (CTv mX0_keep (d - 1) [.ref 2, .ref 1] s4 (fun s6 => CTv mX2_markEndings (d - 1) [.ref 1, .int p1] s6 (fun s8 => CTv mX2_payBackMarked (d - 1) [.ref 1] s8 (fun s10 => CTi mX2_endMarked (d - 1) [.ref 1] s10 (fun x11 s12 => K x11 s12)))))) ∧ ((x3 = 0) → (K (-1000003) s4))))) ∧ ((x1 = 0) → (K (-1000001) s2)))) : CTi mX6_retract d [.ref 0, .int p1] σ K := CT_of (Q := (Qi K)) (by decide +kernel) rfl (by decide) (Nat.le_of_ble_eq_true rfl) rfl (bX6_retract_0 p1 hd1 h)
set_option maxRecDepth 20000 in
theorem bX6_wouldPayBack_0 {d : Nat} {σ : SS} {K : Int32 → SS → Prop} (p1 : Int32)  (hd1 : 1 ≤ d) (h : CTi mX2_hasPhrase (d - 1) [.ref 1, .int p1] σ (fun x1 s2 => ((¬ x1 = 0) → (CTi mX2_isLive (d - 1) [.ref 1, .int p1] s2 (fun x3 s4 => ((¬ x3 = 0) → (CTv mX2_markEndings (d - 1) [.ref 1, .int p1] s4 (fun s6 => CTi mX2_owedForMarked (d - 1) [.ref 1] s6 (fun x7 s8 => K x7 s8)))) ∧ ((x3 = 0) → (K (-1000003) s4))))) ∧ ((x1 = 0) → (K (-1000001) s2)))) : VV mX6_wouldPayBack d s00 0 [some (.ref 0), some (.int p1)] [] σ (Qi K) := by
  refine v_aload_n (q := 1) dX6_wouldPayBack_0 rfl rfl ?_
  refine v_get (q := 4) dX6_wouldPayBack_1 rfl fl_6_10 rfl rfl ?_
  refine v_iload_n (q := 5) dX6_wouldPayBack_4 rfl rfl ?_
  refine v_callN (As := [.int p1]) (n := 1) (q := 8) dX6_wouldPayBack_5 rfl lk_6_95 hd1 rfl rfl (Nat.le_of_ble_eq_true rfl) (CT.imp h (fun r s2 h => ?_))
  obtain ⟨x1, rfl, h⟩ := h
  show VV mX6_wouldPayBack d s00 8 [some (.ref 0), some (.int p1)] [.int x1] s2 (Qi K)
  refine v_if_ne (t := 14) (q := 11) dX6_wouldPayBack_8 rfl (by decide) (fun c => ?_) (fun c => ?_)
  · have h := h.1 (c)
    refine v_aload_n (q := 15) dX6_wouldPayBack_14 rfl rfl ?_
    refine v_get (q := 18) dX6_wouldPayBack_15 rfl fl_6_10 rfl rfl ?_
    refine v_iload_n (q := 19) dX6_wouldPayBack_18 rfl rfl ?_
    refine v_callN (As := [.int p1]) (n := 1) (q := 22) dX6_wouldPayBack_19 rfl lk_6_102 hd1 rfl rfl (Nat.le_of_ble_eq_true rfl) (CT.imp h (fun r s4 h => ?_))
    obtain ⟨x3, rfl, h⟩ := h
    show VV mX6_wouldPayBack d s00 22 [some (.ref 0), some (.int p1)] [.int x3] s4 (Qi K)
    refine v_if_ne (t := 28) (q := 25) dX6_wouldPayBack_22 rfl (by decide) (fun c => ?_) (fun c => ?_)
    · have h := h.1 (c)
      refine v_aload_n (q := 29) dX6_wouldPayBack_28 rfl rfl ?_
      refine v_get (q := 32) dX6_wouldPayBack_29 rfl fl_6_10 rfl rfl ?_
      refine v_iload_n (q := 33) dX6_wouldPayBack_32 rfl rfl ?_
      refine v_callN (As := [.int p1]) (n := 1) (q := 36) dX6_wouldPayBack_33 rfl lk_6_163 hd1 rfl rfl (Nat.le_of_ble_eq_true rfl) (CT.imp h (fun r s6 h => ?_))
      obtain ⟨rfl, h⟩ := h
      show VV mX6_wouldPayBack d s00 36 [some (.ref 0), some (.int p1)] [] s6 (Qi K)
      refine v_aload_n (q := 37) dX6_wouldPayBack_36 rfl rfl ?_
      refine v_get (q := 40) dX6_wouldPayBack_37 rfl fl_6_10 rfl rfl ?_
      refine v_callN (As := []) (n := 0) (q := 43) dX6_wouldPayBack_40 rfl lk_6_173 hd1 rfl rfl (Nat.le_of_ble_eq_true rfl) (CT.imp h (fun r s8 h => ?_))
      obtain ⟨x7, rfl, h⟩ := h
      show VV mX6_wouldPayBack d s00 43 [some (.ref 0), some (.int p1)] [.int x7] s8 (Qi K)
      exact v_iret dX6_wouldPayBack_43 rfl ⟨_, rfl, h⟩
    · have h := h.2 (c)
      refine v_ldc (v := (-1000003)) (q := 27) dX6_wouldPayBack_25 rfl cn_6_105 ?_
      exact v_iret dX6_wouldPayBack_27 rfl ⟨_, rfl, h⟩
  · have h := h.2 (c)
    refine v_ldc (v := (-1000001)) (q := 13) dX6_wouldPayBack_11 rfl cn_6_60 ?_
    exact v_iret dX6_wouldPayBack_13 rfl ⟨_, rfl, h⟩
theorem eX6_wouldPayBack {d : Nat} {σ : SS} {K : Int32 → SS → Prop} (p1 : Int32)  (hd1 : 1 ≤ d) (h : CTi mX2_hasPhrase (d - 1) [.ref 1, .int p1] σ (fun x1 s2 => ((¬ x1 = 0) → (CTi mX2_isLive (d - 1) [.ref 1, .int p1] s2 (fun x3 s4 => ((¬ x3 = 0) → (CTv mX2_markEndings (d - 1) [.ref 1, .int p1] s4 (fun s6 => CTi mX2_owedForMarked (d - 1) [.ref 1] s6 (fun x7 s8 => K x7 s8)))) ∧ ((x3 = 0) → (K (-1000003) s4))))) ∧ ((x1 = 0) → (K (-1000001) s2)))) : CTi mX6_wouldPayBack d [.ref 0, .int p1] σ K := CT_of (Q := (Qi K)) (by decide +kernel) rfl (by decide) (Nat.le_of_ble_eq_true rfl) rfl (bX6_wouldPayBack_0 p1 hd1 h)
set_option maxRecDepth 20000 in
theorem bX6_pass_0 {d : Nat} {σ : SS} {K : Int32 → SS → Prop} (p1 : Int32)  (hd1 : 1 ≤ d) (h : ((p1 < (nI 1)) → (K (-1000002) σ)) ∧ ((¬ p1 < (nI 1)) → (((p1 ≤ (nI 100)) → (CTi mX2_tick (d - 1) [.ref 1] σ (fun x1 s2 => (((x1 + p1) ≤ (nI 10000)) → (CTv mX0_keep (d - 1) [.ref 2, .ref 1] s2 (fun s4 => CTi mX2_moveTick (d - 1) [.ref 1, .int p1] s4 (fun x5 s6 => K x5 s6)))) ∧ ((¬ (x1 + p1) ≤ (nI 10000)) → (K (-1000004) s2))))) ∧ ((¬ p1 ≤ (nI 100)) → (K (-1000002) σ))))) : VV mX6_pass d s00 0 [some (.ref 0), some (.int p1)] [] σ (Qi K) := by
  refine v_iload_n (q := 1) dX6_pass_0 rfl rfl ?_
  refine v_iconst (v := (nI 1)) (q := 2) dX6_pass_1 rfl (by decide) ?_
  refine v_icmp_lt (t := 11) (q := 5) dX6_pass_2 rfl (by decide) (fun c => ?_) (fun c => ?_)
  · have h := h.1 (c)
    refine v_ldc (v := (-1000002)) (q := 13) dX6_pass_11 rfl cn_6_61 ?_
    exact v_iret dX6_pass_13 rfl ⟨_, rfl, h⟩
  · have h := h.2 (c)
    refine v_iload_n (q := 6) dX6_pass_5 rfl rfl ?_
    refine v_bipush (v := (nI 100)) (q := 8) dX6_pass_6 rfl (by decide) ?_
    refine v_icmp_le (t := 14) (q := 11) dX6_pass_8 rfl (by decide) (fun c => ?_) (fun c => ?_)
    · have h := h.1 (c)
      refine v_aload_n (q := 15) dX6_pass_14 rfl rfl ?_
      refine v_get (q := 18) dX6_pass_15 rfl fl_6_10 rfl rfl ?_
      refine v_callN (As := []) (n := 0) (q := 21) dX6_pass_18 rfl lk_6_176 hd1 rfl rfl (Nat.le_of_ble_eq_true rfl) (CT.imp h (fun r s2 h => ?_))
      obtain ⟨x1, rfl, h⟩ := h
      show VV mX6_pass d s00 21 [some (.ref 0), some (.int p1)] [.int x1] s2 (Qi K)
      refine v_iload_n (q := 22) dX6_pass_21 rfl rfl ?_
      refine v_iadd (q := 23) dX6_pass_22 rfl ?_
      refine v_sipush (v := (nI 10000)) (q := 26) dX6_pass_23 rfl (by decide) ?_
      refine v_icmp_le (t := 32) (q := 29) dX6_pass_26 rfl (by decide) (fun c => ?_) (fun c => ?_)
      · have h := h.1 (c)
        refine v_aload_n (q := 33) dX6_pass_32 rfl rfl ?_
        refine v_get (q := 36) dX6_pass_33 rfl fl_6_19 rfl rfl ?_
        refine v_aload_n (q := 37) dX6_pass_36 rfl rfl ?_
        refine v_get (q := 40) dX6_pass_37 rfl fl_6_10 rfl rfl ?_
        refine v_callN (As := [.ref 1]) (n := 1) (q := 43) dX6_pass_40 rfl lk_6_49 hd1 rfl rfl (Nat.le_of_ble_eq_true rfl) (CT.imp h (fun r s4 h => ?_))
        obtain ⟨rfl, h⟩ := h
        show VV mX6_pass d s00 43 [some (.ref 0), some (.int p1)] [] s4 (Qi K)
        refine v_aload_n (q := 44) dX6_pass_43 rfl rfl ?_
        refine v_get (q := 47) dX6_pass_44 rfl fl_6_10 rfl rfl ?_
        refine v_iload_n (q := 48) dX6_pass_47 rfl rfl ?_
        refine v_callN (As := [.int p1]) (n := 1) (q := 51) dX6_pass_48 rfl lk_6_179 hd1 rfl rfl (Nat.le_of_ble_eq_true rfl) (CT.imp h (fun r s6 h => ?_))
        obtain ⟨x5, rfl, h⟩ := h
        show VV mX6_pass d s00 51 [some (.ref 0), some (.int p1)] [.int x5] s6 (Qi K)
        exact v_iret dX6_pass_51 rfl ⟨_, rfl, h⟩
      · have h := h.2 (c)
        refine v_ldc (v := (-1000004)) (q := 31) dX6_pass_29 rfl cn_6_48 ?_
        exact v_iret dX6_pass_31 rfl ⟨_, rfl, h⟩
    · have h := h.2 (c)
      refine v_ldc (v := (-1000002)) (q := 13) dX6_pass_11 rfl cn_6_61 ?_
      exact v_iret dX6_pass_13 rfl ⟨_, rfl, h⟩
theorem eX6_pass {d : Nat} {σ : SS} {K : Int32 → SS → Prop} (p1 : Int32)  (hd1 : 1 ≤ d) (h : ((p1 < (nI 1)) → (K (-1000002) σ)) ∧ ((¬ p1 < (nI 1)) → (((p1 ≤ (nI 100)) → (CTi mX2_tick (d - 1) [.ref 1] σ (fun x1 s2 => (((x1 + p1) ≤ (nI 10000)) → (CTv mX0_keep (d - 1) [.ref 2, .ref 1] s2 (fun s4 => CTi mX2_moveTick (d - 1) [.ref 1, .int p1] s4 (fun x5 s6 => K x5 s6)))) ∧ ((¬ (x1 + p1) ≤ (nI 10000)) → (K (-1000004) s2))))) ∧ ((¬ p1 ≤ (nI 100)) → (K (-1000002) σ))))) : CTi mX6_pass d [.ref 0, .int p1] σ K := CT_of (Q := (Qi K)) (by decide +kernel) rfl (by decide) (Nat.le_of_ble_eq_true rfl) rfl (bX6_pass_0 p1 hd1 h)
set_option maxRecDepth 20000 in
theorem bX6_cheapest_0 {d : Nat} {σ : SS} {K : Int32 → SS → Prop} (p1 : Int32)  (hd1 : 1 ≤ d) (h : CTi mX2_hasMember (d - 1) [.ref 1, .int p1] σ (fun x1 s2 => ((¬ x1 = 0) → (CTi mX3_isFaulty (d - 1) [.ref 3] s2 (fun x3 s4 => ((x3 = 0) → (CTv mX6_findWays (d - 1) [.ref 0, .int p1] s4 (fun s6 => CTi mX4_bestCost (d - 1) [.ref 5] s6 (fun x7 s8 => K x7 s8)))) ∧ ((¬ x3 = 0) → (K (-1000003) s4))))) ∧ ((x1 = 0) → (K (-1000001) s2)))) : VV mX6_cheapest d s00 0 [some (.ref 0), some (.int p1)] [] σ (Qi K) := by
  refine v_aload_n (q := 1) dX6_cheapest_0 rfl rfl ?_
  refine v_get (q := 4) dX6_cheapest_1 rfl fl_6_10 rfl rfl ?_
  refine v_iload_n (q := 5) dX6_cheapest_4 rfl rfl ?_
  refine v_callN (As := [.int p1]) (n := 1) (q := 8) dX6_cheapest_5 rfl lk_6_56 hd1 rfl rfl (Nat.le_of_ble_eq_true rfl) (CT.imp h (fun r s2 h => ?_))
  obtain ⟨x1, rfl, h⟩ := h
  show VV mX6_cheapest d s00 8 [some (.ref 0), some (.int p1)] [.int x1] s2 (Qi K)
  refine v_if_ne (t := 14) (q := 11) dX6_cheapest_8 rfl (by decide) (fun c => ?_) (fun c => ?_)
  · have h := h.1 (c)
    refine v_aload_n (q := 15) dX6_cheapest_14 rfl rfl ?_
    refine v_get (q := 18) dX6_cheapest_15 rfl fl_6_26 rfl rfl ?_
    refine v_callN (As := []) (n := 0) (q := 21) dX6_cheapest_18 rfl lk_6_98 hd1 rfl rfl (Nat.le_of_ble_eq_true rfl) (CT.imp h (fun r s4 h => ?_))
    obtain ⟨x3, rfl, h⟩ := h
    show VV mX6_cheapest d s00 21 [some (.ref 0), some (.int p1)] [.int x3] s4 (Qi K)
    refine v_if_eq (t := 27) (q := 24) dX6_cheapest_21 rfl (by decide) (fun c => ?_) (fun c => ?_)
    · have h := h.1 (c)
      refine v_aload_n (q := 28) dX6_cheapest_27 rfl rfl ?_
      refine v_iload_n (q := 29) dX6_cheapest_28 rfl rfl ?_
      refine v_callV (As := [.int p1]) (n := 1) (q := 32) dX6_cheapest_29 rfl lk_6_182 hd1 rfl rfl (Nat.le_of_ble_eq_true rfl) (CT.imp h (fun r s6 h => ?_))
      obtain ⟨rfl, h⟩ := h
      show VV mX6_cheapest d s00 32 [some (.ref 0), some (.int p1)] [] s6 (Qi K)
      refine v_aload_n (q := 33) dX6_cheapest_32 rfl rfl ?_
      refine v_get (q := 36) dX6_cheapest_33 rfl fl_6_40 rfl rfl ?_
      refine v_callN (As := []) (n := 0) (q := 39) dX6_cheapest_36 rfl lk_6_185 hd1 rfl rfl (Nat.le_of_ble_eq_true rfl) (CT.imp h (fun r s8 h => ?_))
      obtain ⟨x7, rfl, h⟩ := h
      show VV mX6_cheapest d s00 39 [some (.ref 0), some (.int p1)] [.int x7] s8 (Qi K)
      exact v_iret dX6_cheapest_39 rfl ⟨_, rfl, h⟩
    · have h := h.2 (c)
      refine v_ldc (v := (-1000003)) (q := 26) dX6_cheapest_24 rfl cn_6_105 ?_
      exact v_iret dX6_cheapest_26 rfl ⟨_, rfl, h⟩
  · have h := h.2 (c)
    refine v_ldc (v := (-1000001)) (q := 13) dX6_cheapest_11 rfl cn_6_60 ?_
    exact v_iret dX6_cheapest_13 rfl ⟨_, rfl, h⟩
theorem eX6_cheapest {d : Nat} {σ : SS} {K : Int32 → SS → Prop} (p1 : Int32)  (hd1 : 1 ≤ d) (h : CTi mX2_hasMember (d - 1) [.ref 1, .int p1] σ (fun x1 s2 => ((¬ x1 = 0) → (CTi mX3_isFaulty (d - 1) [.ref 3] s2 (fun x3 s4 => ((x3 = 0) → (CTv mX6_findWays (d - 1) [.ref 0, .int p1] s4 (fun s6 => CTi mX4_bestCost (d - 1) [.ref 5] s6 (fun x7 s8 => K x7 s8)))) ∧ ((¬ x3 = 0) → (K (-1000003) s4))))) ∧ ((x1 = 0) → (K (-1000001) s2)))) : CTi mX6_cheapest d [.ref 0, .int p1] σ K := CT_of (Q := (Qi K)) (by decide +kernel) rfl (by decide) (Nat.le_of_ble_eq_true rfl) rfl (bX6_cheapest_0 p1 hd1 h)
set_option maxRecDepth 20000 in
theorem bX6_piece_0 {d : Nat} {σ : SS} {K : Int32 → SS → Prop} (p1 : Int32) (p2 : Int32)  (hd1 : 1 ≤ d) (h : CTi mX2_hasMember (d - 1) [.ref 1, .int p1] σ (fun x1 s2 => ((¬ x1 = 0) → (((0 ≤ p2) → (CTi mX3_isFaulty (d - 1) [.ref 3] s2 (fun x3 s4 => ((x3 = 0) → (CTv mX6_findWays (d - 1) [.ref 0, .int p1] s4 (fun s6 => CTi mX4_pieceAt (d - 1) [.ref 5, .int p2] s6 (fun x7 s8 => K x7 s8)))) ∧ ((¬ x3 = 0) → (K (-1000003) s4))))) ∧ ((¬ 0 ≤ p2) → (K (-1000002) s2)))) ∧ ((x1 = 0) → (K (-1000001) s2)))) : VV mX6_piece d s00 0 [some (.ref 0), some (.int p1), some (.int p2)] [] σ (Qi K) := by
  refine v_aload_n (q := 1) dX6_piece_0 rfl rfl ?_
  refine v_get (q := 4) dX6_piece_1 rfl fl_6_10 rfl rfl ?_
  refine v_iload_n (q := 5) dX6_piece_4 rfl rfl ?_
  refine v_callN (As := [.int p1]) (n := 1) (q := 8) dX6_piece_5 rfl lk_6_56 hd1 rfl rfl (Nat.le_of_ble_eq_true rfl) (CT.imp h (fun r s2 h => ?_))
  obtain ⟨x1, rfl, h⟩ := h
  show VV mX6_piece d s00 8 [some (.ref 0), some (.int p1), some (.int p2)] [.int x1] s2 (Qi K)
  refine v_if_ne (t := 14) (q := 11) dX6_piece_8 rfl (by decide) (fun c => ?_) (fun c => ?_)
  · have h := h.1 (c)
    refine v_iload_n (q := 15) dX6_piece_14 rfl rfl ?_
    refine v_if_ge (t := 21) (q := 18) dX6_piece_15 rfl (by decide) (fun c => ?_) (fun c => ?_)
    · have h := h.1 (c)
      refine v_aload_n (q := 22) dX6_piece_21 rfl rfl ?_
      refine v_get (q := 25) dX6_piece_22 rfl fl_6_26 rfl rfl ?_
      refine v_callN (As := []) (n := 0) (q := 28) dX6_piece_25 rfl lk_6_98 hd1 rfl rfl (Nat.le_of_ble_eq_true rfl) (CT.imp h (fun r s4 h => ?_))
      obtain ⟨x3, rfl, h⟩ := h
      show VV mX6_piece d s00 28 [some (.ref 0), some (.int p1), some (.int p2)] [.int x3] s4 (Qi K)
      refine v_if_eq (t := 34) (q := 31) dX6_piece_28 rfl (by decide) (fun c => ?_) (fun c => ?_)
      · have h := h.1 (c)
        refine v_aload_n (q := 35) dX6_piece_34 rfl rfl ?_
        refine v_iload_n (q := 36) dX6_piece_35 rfl rfl ?_
        refine v_callV (As := [.int p1]) (n := 1) (q := 39) dX6_piece_36 rfl lk_6_182 hd1 rfl rfl (Nat.le_of_ble_eq_true rfl) (CT.imp h (fun r s6 h => ?_))
        obtain ⟨rfl, h⟩ := h
        show VV mX6_piece d s00 39 [some (.ref 0), some (.int p1), some (.int p2)] [] s6 (Qi K)
        refine v_aload_n (q := 40) dX6_piece_39 rfl rfl ?_
        refine v_get (q := 43) dX6_piece_40 rfl fl_6_40 rfl rfl ?_
        refine v_iload_n (q := 44) dX6_piece_43 rfl rfl ?_
        refine v_callN (As := [.int p2]) (n := 1) (q := 47) dX6_piece_44 rfl lk_6_188 hd1 rfl rfl (Nat.le_of_ble_eq_true rfl) (CT.imp h (fun r s8 h => ?_))
        obtain ⟨x7, rfl, h⟩ := h
        show VV mX6_piece d s00 47 [some (.ref 0), some (.int p1), some (.int p2)] [.int x7] s8 (Qi K)
        exact v_iret dX6_piece_47 rfl ⟨_, rfl, h⟩
      · have h := h.2 (c)
        refine v_ldc (v := (-1000003)) (q := 33) dX6_piece_31 rfl cn_6_105 ?_
        exact v_iret dX6_piece_33 rfl ⟨_, rfl, h⟩
    · have h := h.2 (c)
      refine v_ldc (v := (-1000002)) (q := 20) dX6_piece_18 rfl cn_6_61 ?_
      exact v_iret dX6_piece_20 rfl ⟨_, rfl, h⟩
  · have h := h.2 (c)
    refine v_ldc (v := (-1000001)) (q := 13) dX6_piece_11 rfl cn_6_60 ?_
    exact v_iret dX6_piece_13 rfl ⟨_, rfl, h⟩
theorem eX6_piece {d : Nat} {σ : SS} {K : Int32 → SS → Prop} (p1 : Int32) (p2 : Int32)  (hd1 : 1 ≤ d) (h : CTi mX2_hasMember (d - 1) [.ref 1, .int p1] σ (fun x1 s2 => ((¬ x1 = 0) → (((0 ≤ p2) → (CTi mX3_isFaulty (d - 1) [.ref 3] s2 (fun x3 s4 => ((x3 = 0) → (CTv mX6_findWays (d - 1) [.ref 0, .int p1] s4 (fun s6 => CTi mX4_pieceAt (d - 1) [.ref 5, .int p2] s6 (fun x7 s8 => K x7 s8)))) ∧ ((¬ x3 = 0) → (K (-1000003) s4))))) ∧ ((¬ 0 ≤ p2) → (K (-1000002) s2)))) ∧ ((x1 = 0) → (K (-1000001) s2)))) : CTi mX6_piece d [.ref 0, .int p1, .int p2] σ K := CT_of (Q := (Qi K)) (by decide +kernel) rfl (by decide) (Nat.le_of_ble_eq_true rfl) rfl (bX6_piece_0 p1 p2 hd1 h)
set_option maxRecDepth 20000 in
theorem bX6_type_0 {d : Nat} {σ : SS} {K : Int32 → SS → Prop} (p1 : Int32)  (hd1 : 1 ≤ d) (h : ((p1 < 0) → (K (-1000002) σ)) ∧ ((¬ p1 < 0) → (((p1 ≤ (nI 255)) → ((((σ.2.1 2) < (nI 40)) → (CTi mX3_append (d - 1) [.ref 3, .int p1] σ (fun x1 s2 => K x1 s2))) ∧ ((¬ (σ.2.1 2) < (nI 40)) → (K (-1000004) σ)))) ∧ ((¬ p1 ≤ (nI 255)) → (K (-1000002) σ))))) : VV mX6_type d s00 0 [some (.ref 0), some (.int p1)] [] σ (Qi K) := by
  refine v_iload_n (q := 1) dX6_type_0 rfl rfl ?_
  refine v_if_lt (t := 11) (q := 4) dX6_type_1 rfl (by decide) (fun c => ?_) (fun c => ?_)
  · have h := h.1 (c)
    refine v_ldc (v := (-1000002)) (q := 13) dX6_type_11 rfl cn_6_61 ?_
    exact v_iret dX6_type_13 rfl ⟨_, rfl, h⟩
  · have h := h.2 (c)
    refine v_iload_n (q := 5) dX6_type_4 rfl rfl ?_
    refine v_sipush (v := (nI 255)) (q := 8) dX6_type_5 rfl (by decide) ?_
    refine v_icmp_le (t := 14) (q := 11) dX6_type_8 rfl (by decide) (fun c => ?_) (fun c => ?_)
    · have h := h.1 (c)
      refine v_aload_n (q := 15) dX6_type_14 rfl rfl ?_
      refine v_get (q := 18) dX6_type_15 rfl fl_6_26 rfl rfl ?_
      refine v_get (q := 21) dX6_type_18 rfl fl_6_83 rfl rfl ?_
      refine v_bipush (v := (nI 40)) (q := 23) dX6_type_21 rfl (by decide) ?_
      refine v_icmp_lt (t := 29) (q := 26) dX6_type_23 rfl (by decide) (fun c => ?_) (fun c => ?_)
      · have h := h.1 (c)
        refine v_aload_n (q := 30) dX6_type_29 rfl rfl ?_
        refine v_get (q := 33) dX6_type_30 rfl fl_6_26 rfl rfl ?_
        refine v_iload_n (q := 34) dX6_type_33 rfl rfl ?_
        refine v_callN (As := [.int p1]) (n := 1) (q := 37) dX6_type_34 rfl lk_6_191 hd1 rfl rfl (Nat.le_of_ble_eq_true rfl) (CT.imp h (fun r s2 h => ?_))
        obtain ⟨x1, rfl, h⟩ := h
        show VV mX6_type d s00 37 [some (.ref 0), some (.int p1)] [.int x1] s2 (Qi K)
        exact v_iret dX6_type_37 rfl ⟨_, rfl, h⟩
      · have h := h.2 (c)
        refine v_ldc (v := (-1000004)) (q := 28) dX6_type_26 rfl cn_6_48 ?_
        exact v_iret dX6_type_28 rfl ⟨_, rfl, h⟩
    · have h := h.2 (c)
      refine v_ldc (v := (-1000002)) (q := 13) dX6_type_11 rfl cn_6_61 ?_
      exact v_iret dX6_type_13 rfl ⟨_, rfl, h⟩
theorem eX6_type {d : Nat} {σ : SS} {K : Int32 → SS → Prop} (p1 : Int32)  (hd1 : 1 ≤ d) (h : ((p1 < 0) → (K (-1000002) σ)) ∧ ((¬ p1 < 0) → (((p1 ≤ (nI 255)) → ((((σ.2.1 2) < (nI 40)) → (CTi mX3_append (d - 1) [.ref 3, .int p1] σ (fun x1 s2 => K x1 s2))) ∧ ((¬ (σ.2.1 2) < (nI 40)) → (K (-1000004) σ)))) ∧ ((¬ p1 ≤ (nI 255)) → (K (-1000002) σ))))) : CTi mX6_type d [.ref 0, .int p1] σ K := CT_of (Q := (Qi K)) (by decide +kernel) rfl (by decide) (Nat.le_of_ble_eq_true rfl) rfl (bX6_type_0 p1 hd1 h)
set_option maxRecDepth 20000 in
theorem bX6_clearText_0 {d : Nat} {σ : SS} {K : Int32 → SS → Prop}   (hd1 : 1 ≤ d) (h : CTi mX3_empty (d - 1) [.ref 3] σ (fun x1 s2 => K x1 s2)) : VV mX6_clearText d s00 0 [some (.ref 0)] [] σ (Qi K) := by
  refine v_aload_n (q := 1) dX6_clearText_0 rfl rfl ?_
  refine v_get (q := 4) dX6_clearText_1 rfl fl_6_26 rfl rfl ?_
  refine v_callN (As := []) (n := 0) (q := 7) dX6_clearText_4 rfl lk_6_194 hd1 rfl rfl (Nat.le_of_ble_eq_true rfl) (CT.imp h (fun r s2 h => ?_))
  obtain ⟨x1, rfl, h⟩ := h
  show VV mX6_clearText d s00 7 [some (.ref 0)] [.int x1] s2 (Qi K)
  exact v_iret dX6_clearText_7 rfl ⟨_, rfl, h⟩
theorem eX6_clearText {d : Nat} {σ : SS} {K : Int32 → SS → Prop}   (hd1 : 1 ≤ d) (h : CTi mX3_empty (d - 1) [.ref 3] σ (fun x1 s2 => K x1 s2)) : CTi mX6_clearText d [.ref 0] σ K := CT_of (Q := (Qi K)) (by decide +kernel) rfl (by decide) (Nat.le_of_ble_eq_true rfl) rfl (bX6_clearText_0  hd1 h)
set_option maxRecDepth 20000 in
theorem bX6_textFault_0 {d : Nat} {σ : SS} {K : Int32 → SS → Prop}   (hd1 : 1 ≤ d) (h : CTi mX3_fault (d - 1) [.ref 3] σ (fun x1 s2 => K x1 s2)) : VV mX6_textFault d s00 0 [some (.ref 0)] [] σ (Qi K) := by
  refine v_aload_n (q := 1) dX6_textFault_0 rfl rfl ?_
  refine v_get (q := 4) dX6_textFault_1 rfl fl_6_26 rfl rfl ?_
  refine v_callN (As := []) (n := 0) (q := 7) dX6_textFault_4 rfl lk_6_197 hd1 rfl rfl (Nat.le_of_ble_eq_true rfl) (CT.imp h (fun r s2 h => ?_))
  obtain ⟨x1, rfl, h⟩ := h
  show VV mX6_textFault d s00 7 [some (.ref 0)] [.int x1] s2 (Qi K)
  exact v_iret dX6_textFault_7 rfl ⟨_, rfl, h⟩
theorem eX6_textFault {d : Nat} {σ : SS} {K : Int32 → SS → Prop}   (hd1 : 1 ≤ d) (h : CTi mX3_fault (d - 1) [.ref 3] σ (fun x1 s2 => K x1 s2)) : CTi mX6_textFault d [.ref 0] σ K := CT_of (Q := (Qi K)) (by decide +kernel) rfl (by decide) (Nat.le_of_ble_eq_true rfl) rfl (bX6_textFault_0  hd1 h)
set_option maxRecDepth 20000 in
theorem bX6_undo_0 {d : Nat} {σ : SS} {K : Int32 → SS → Prop}   (hd1 : 1 ≤ d) (h : ((¬ (σ.2.1 1) = 0) → (CTi mX0_restoreInto (d - 1) [.ref 2, .ref 1] σ (fun x1 s2 => K x1 s2))) ∧ (((σ.2.1 1) = 0) → (K (-1000003) σ))) : VV mX6_undo d s00 0 [some (.ref 0)] [] σ (Qi K) := by
  refine v_aload_n (q := 1) dX6_undo_0 rfl rfl ?_
  refine v_get (q := 4) dX6_undo_1 rfl fl_6_19 rfl rfl ?_
  refine v_get (q := 7) dX6_undo_4 rfl fl_6_200 rfl rfl ?_
  refine v_if_ne (t := 13) (q := 10) dX6_undo_7 rfl (by decide) (fun c => ?_) (fun c => ?_)
  · have h := h.1 (c)
    refine v_aload_n (q := 14) dX6_undo_13 rfl rfl ?_
    refine v_get (q := 17) dX6_undo_14 rfl fl_6_19 rfl rfl ?_
    refine v_aload_n (q := 18) dX6_undo_17 rfl rfl ?_
    refine v_get (q := 21) dX6_undo_18 rfl fl_6_10 rfl rfl ?_
    refine v_callN (As := [.ref 1]) (n := 1) (q := 24) dX6_undo_21 rfl lk_6_203 hd1 rfl rfl (Nat.le_of_ble_eq_true rfl) (CT.imp h (fun r s2 h => ?_))
    obtain ⟨x1, rfl, h⟩ := h
    show VV mX6_undo d s00 24 [some (.ref 0)] [.int x1] s2 (Qi K)
    exact v_iret dX6_undo_24 rfl ⟨_, rfl, h⟩
  · have h := h.2 (c)
    refine v_ldc (v := (-1000003)) (q := 12) dX6_undo_10 rfl cn_6_105 ?_
    exact v_iret dX6_undo_12 rfl ⟨_, rfl, h⟩
theorem eX6_undo {d : Nat} {σ : SS} {K : Int32 → SS → Prop}   (hd1 : 1 ≤ d) (h : ((¬ (σ.2.1 1) = 0) → (CTi mX0_restoreInto (d - 1) [.ref 2, .ref 1] σ (fun x1 s2 => K x1 s2))) ∧ (((σ.2.1 1) = 0) → (K (-1000003) σ))) : CTi mX6_undo d [.ref 0] σ K := CT_of (Q := (Qi K)) (by decide +kernel) rfl (by decide) (Nat.le_of_ble_eq_true rfl) rfl (bX6_undo_0  hd1 h)
set_option maxRecDepth 20000 in
theorem bX6_digest_0 {d : Nat} {σ : SS} {K : Int64 → SS → Prop}    (h : VV mX6_digest d s00 6 [some (.ref 0), some (.long (61)), none, some (.int (nI 0)), none] [] σ (Ql K)) : VV mX6_digest d s00 0 [some (.ref 0), none, none, none, none] [] σ (Ql K) := by
  refine v_ldc2 (v := (61)) (q := 3) dX6_digest_0 rfl cn_6_207 ?_
  refine v_lstore_n (q := 4) dX6_digest_3 rfl (by decide) rfl ?_
  refine v_iconst (v := (nI 0)) (q := 5) dX6_digest_4 rfl (by decide) ?_
  refine v_istore_n (q := 6) dX6_digest_5 rfl (by decide) rfl ?_
  exact h
theorem eX6_digest {d : Nat} {σ : SS} {K : Int64 → SS → Prop}    (h : VV mX6_digest d s00 6 [some (.ref 0), some (.long (61)), none, some (.int (nI 0)), none] [] σ (Ql K)) : CTl mX6_digest d [.ref 0] σ K := CT_of (Q := (Ql K)) (by decide +kernel) rfl (by decide) (Nat.le_of_ble_eq_true rfl) rfl (bX6_digest_0   h)
set_option maxRecDepth 20000 in
theorem bX6_digest_6 {d : Nat} {σ : SS} {K : Int64 → SS → Prop} (v1 : Int64) (v3 : Int32)  (hd1 : 1 ≤ d) (h : (((nI 13) ≤ v3) → (VV mX6_digest d s00 36 [some (.ref 0), some (.long v1), none, some (.int (nI 0)), none] [] σ (Ql K))) ∧ ((¬ (nI 13) ≤ v3) → (CTi mX2_countOf (d - 1) [.ref 1, .int v3] σ (fun x1 s2 => VV mX6_digest d s00 6 [some (.ref 0), some (.long (((31) * v1) + (x1).toInt64)), none, some (.int (v3 + nI 1)), none] [] s2 (Ql K))))) : VV mX6_digest d s00 6 [some (.ref 0), some (.long v1), none, some (.int v3), none] [] σ (Ql K) := by
  refine v_iload_n (q := 7) dX6_digest_6 rfl rfl ?_
  refine v_bipush (v := (nI 13)) (q := 9) dX6_digest_7 rfl (by decide) ?_
  refine v_icmp_ge (t := 34) (q := 12) dX6_digest_9 rfl (by decide) (fun c => ?_) (fun c => ?_)
  · have h := h.1 (c)
    refine v_iconst (v := (nI 0)) (q := 35) dX6_digest_34 rfl (by decide) ?_
    refine v_istore_n (q := 36) dX6_digest_35 rfl (by decide) rfl ?_
    exact h
  · have h := h.2 (c)
    refine v_ldc2 (v := (31)) (q := 15) dX6_digest_12 rfl cn_6_209 ?_
    refine v_lload_n (q := 16) dX6_digest_15 rfl rfl ?_
    refine v_lmul (q := 17) dX6_digest_16 rfl ?_
    refine v_aload_n (q := 18) dX6_digest_17 rfl rfl ?_
    refine v_get (q := 21) dX6_digest_18 rfl fl_6_10 rfl rfl ?_
    refine v_iload_n (q := 22) dX6_digest_21 rfl rfl ?_
    refine v_callN (As := [.int v3]) (n := 1) (q := 25) dX6_digest_22 rfl lk_6_87 hd1 rfl rfl (Nat.le_of_ble_eq_true rfl) (CT.imp h (fun r s2 h => ?_))
    obtain ⟨x1, rfl, h⟩ := h
    show VV mX6_digest d s00 25 [some (.ref 0), some (.long v1), none, some (.int v3), none] [.int x1, .long ((31) * v1)] s2 (Ql K)
    refine v_i2l (q := 26) dX6_digest_25 rfl ?_
    refine v_ladd (q := 27) dX6_digest_26 rfl ?_
    refine v_lstore_n (q := 28) dX6_digest_27 rfl (by decide) rfl ?_
    refine v_iinc (y := (v3 + nI 1)) (q := 31) dX6_digest_28 rfl rfl (congrArg (fun z => v3 + z) (by decide)) (by decide) rfl ?_
    refine v_goto (q := 6) dX6_digest_31 (by decide) ?_
    exact h
set_option maxRecDepth 20000 in
theorem bX6_digest_36 {d : Nat} {σ : SS} {K : Int64 → SS → Prop} (v1 : Int64) (v3 : Int32)  (hd1 : 1 ≤ d) (h : CTi mX2_members (d - 1) [.ref 1] σ (fun x1 s2 => ((x1 ≤ v3) → (VV mX6_digest d s00 88 [some (.ref 0), some (.long v1), none, some (.int (nI 0)), none] [] s2 (Ql K))) ∧ ((¬ x1 ≤ v3) → (VV mX6_digest d s00 50 [some (.ref 0), some (.long v1), none, some (.int v3), some (.int (nI 0))] [] s2 (Ql K))))) : VV mX6_digest d s00 36 [some (.ref 0), some (.long v1), none, some (.int v3), none] [] σ (Ql K) := by
  refine v_iload_n (q := 37) dX6_digest_36 rfl rfl ?_
  refine v_aload_n (q := 38) dX6_digest_37 rfl rfl ?_
  refine v_get (q := 41) dX6_digest_38 rfl fl_6_10 rfl rfl ?_
  refine v_callN (As := []) (n := 0) (q := 44) dX6_digest_41 rfl lk_6_44 hd1 rfl rfl (Nat.le_of_ble_eq_true rfl) (CT.imp h (fun r s2 h => ?_))
  obtain ⟨x1, rfl, h⟩ := h
  show VV mX6_digest d s00 44 [some (.ref 0), some (.long v1), none, some (.int v3), none] [.int x1, .int v3] s2 (Ql K)
  refine v_icmp_ge (t := 86) (q := 47) dX6_digest_44 rfl (by decide) (fun c => ?_) (fun c => ?_)
  · have h := h.1 (c)
    refine v_iconst (v := (nI 0)) (q := 87) dX6_digest_86 rfl (by decide) ?_
    refine v_istore_n (q := 88) dX6_digest_87 rfl (by decide) rfl ?_
    exact h
  · have h := h.2 (c)
    refine v_iconst (v := (nI 0)) (q := 48) dX6_digest_47 rfl (by decide) ?_
    refine v_istore (q := 50) dX6_digest_48 rfl (by decide) rfl ?_
    exact h
set_option maxRecDepth 20000 in
theorem bX6_digest_50 {d : Nat} {σ : SS} {K : Int64 → SS → Prop} (v1 : Int64) (v3 : Int32) (v4 : Int32)  (hd1 : 1 ≤ d) (h : (((nI 5) ≤ v4) → (VV mX6_digest d s00 36 [some (.ref 0), some (.long v1), none, some (.int (v3 + nI 1)), none] [] σ (Ql K))) ∧ ((¬ (nI 5) ≤ v4) → (CTi mX2_memberProperty (d - 1) [.ref 1, .int v3, .int v4] σ (fun x1 s2 => VV mX6_digest d s00 50 [some (.ref 0), some (.long (((31) * v1) + (x1).toInt64)), none, some (.int v3), some (.int (v4 + nI 1))] [] s2 (Ql K))))) : VV mX6_digest d s00 50 [some (.ref 0), some (.long v1), none, some (.int v3), some (.int v4)] [] σ (Ql K) := by
  refine v_iload (q := 52) dX6_digest_50 rfl rfl ?_
  refine v_iconst (v := (nI 5)) (q := 53) dX6_digest_52 rfl (by decide) ?_
  refine v_icmp_ge (t := 80) (q := 56) dX6_digest_53 rfl (by decide) (fun c => ?_) (fun c => ?_)
  · have h := h.1 (c)
    refine v_iinc (y := (v3 + nI 1)) (q := 83) dX6_digest_80 rfl rfl (congrArg (fun z => v3 + z) (by decide)) (by decide) rfl ?_
    refine v_goto (q := 36) dX6_digest_83 (by decide) ?_
    exact v_msk [true, true, false, true, false] h
  · have h := h.2 (c)
    refine v_ldc2 (v := (31)) (q := 59) dX6_digest_56 rfl cn_6_209 ?_
    refine v_lload_n (q := 60) dX6_digest_59 rfl rfl ?_
    refine v_lmul (q := 61) dX6_digest_60 rfl ?_
    refine v_aload_n (q := 62) dX6_digest_61 rfl rfl ?_
    refine v_get (q := 65) dX6_digest_62 rfl fl_6_10 rfl rfl ?_
    refine v_iload_n (q := 66) dX6_digest_65 rfl rfl ?_
    refine v_iload (q := 68) dX6_digest_66 rfl rfl ?_
    refine v_callN (As := [.int v3, .int v4]) (n := 2) (q := 71) dX6_digest_68 rfl lk_6_90 hd1 rfl rfl (Nat.le_of_ble_eq_true rfl) (CT.imp h (fun r s2 h => ?_))
    obtain ⟨x1, rfl, h⟩ := h
    show VV mX6_digest d s00 71 [some (.ref 0), some (.long v1), none, some (.int v3), some (.int v4)] [.int x1, .long ((31) * v1)] s2 (Ql K)
    refine v_i2l (q := 72) dX6_digest_71 rfl ?_
    refine v_ladd (q := 73) dX6_digest_72 rfl ?_
    refine v_lstore_n (q := 74) dX6_digest_73 rfl (by decide) rfl ?_
    refine v_iinc (y := (v4 + nI 1)) (q := 77) dX6_digest_74 rfl rfl (congrArg (fun z => v4 + z) (by decide)) (by decide) rfl ?_
    refine v_goto (q := 50) dX6_digest_77 (by decide) ?_
    exact h
set_option maxRecDepth 20000 in
theorem bX6_digest_88 {d : Nat} {σ : SS} {K : Int64 → SS → Prop} (v1 : Int64) (v3 : Int32)  (hd1 : 1 ≤ d) (h : CTi mX2_phrases (d - 1) [.ref 1] σ (fun x1 s2 => ((x1 ≤ v3) → (VV mX6_digest d s00 114 [some (.ref 0), some (.long v1), none, some (.int (nI 0)), none] [] s2 (Ql K))) ∧ ((¬ x1 ≤ v3) → (CTl mX6_hashPhrase (d - 1) [.ref 0, .long v1, .int v3] s2 (fun x3 s4 => VV mX6_digest d s00 88 [some (.ref 0), some (.long x3), none, some (.int (v3 + nI 1)), none] [] s4 (Ql K)))))) : VV mX6_digest d s00 88 [some (.ref 0), some (.long v1), none, some (.int v3), none] [] σ (Ql K) := by
  refine v_iload_n (q := 89) dX6_digest_88 rfl rfl ?_
  refine v_aload_n (q := 90) dX6_digest_89 rfl rfl ?_
  refine v_get (q := 93) dX6_digest_90 rfl fl_6_10 rfl rfl ?_
  refine v_callN (As := []) (n := 0) (q := 96) dX6_digest_93 rfl lk_6_106 hd1 rfl rfl (Nat.le_of_ble_eq_true rfl) (CT.imp h (fun r s2 h => ?_))
  obtain ⟨x1, rfl, h⟩ := h
  show VV mX6_digest d s00 96 [some (.ref 0), some (.long v1), none, some (.int v3), none] [.int x1, .int v3] s2 (Ql K)
  refine v_icmp_ge (t := 112) (q := 99) dX6_digest_96 rfl (by decide) (fun c => ?_) (fun c => ?_)
  · have h := h.1 (c)
    refine v_iconst (v := (nI 0)) (q := 113) dX6_digest_112 rfl (by decide) ?_
    refine v_istore_n (q := 114) dX6_digest_113 rfl (by decide) rfl ?_
    exact h
  · have h := h.2 (c)
    refine v_aload_n (q := 100) dX6_digest_99 rfl rfl ?_
    refine v_lload_n (q := 101) dX6_digest_100 rfl rfl ?_
    refine v_iload_n (q := 102) dX6_digest_101 rfl rfl ?_
    refine v_callV (As := [.long v1, .int v3]) (n := 2) (q := 105) dX6_digest_102 rfl lk_6_211 hd1 rfl rfl (Nat.le_of_ble_eq_true rfl) (CT.imp h (fun r s4 h => ?_))
    obtain ⟨x3, rfl, h⟩ := h
    show VV mX6_digest d s00 105 [some (.ref 0), some (.long v1), none, some (.int v3), none] [.long x3] s4 (Ql K)
    refine v_lstore_n (q := 106) dX6_digest_105 rfl (by decide) rfl ?_
    refine v_iinc (y := (v3 + nI 1)) (q := 109) dX6_digest_106 rfl rfl (congrArg (fun z => v3 + z) (by decide)) (by decide) rfl ?_
    refine v_goto (q := 88) dX6_digest_109 (by decide) ?_
    exact h
set_option maxRecDepth 20000 in
theorem bX6_digest_114 {d : Nat} {σ : SS} {K : Int64 → SS → Prop} (v1 : Int64) (v3 : Int32)  (hd1 : 1 ≤ d) (h : CTi mX2_notes (d - 1) [.ref 1] σ (fun x1 s2 => ((x1 ≤ v3) → (K v1 s2)) ∧ ((¬ x1 ≤ v3) → (VV mX6_digest d s00 128 [some (.ref 0), some (.long v1), none, some (.int v3), some (.int (nI 0))] [] s2 (Ql K))))) : VV mX6_digest d s00 114 [some (.ref 0), some (.long v1), none, some (.int v3), none] [] σ (Ql K) := by
  refine v_iload_n (q := 115) dX6_digest_114 rfl rfl ?_
  refine v_aload_n (q := 116) dX6_digest_115 rfl rfl ?_
  refine v_get (q := 119) dX6_digest_116 rfl fl_6_10 rfl rfl ?_
  refine v_callN (As := []) (n := 0) (q := 122) dX6_digest_119 rfl lk_6_151 hd1 rfl rfl (Nat.le_of_ble_eq_true rfl) (CT.imp h (fun r s2 h => ?_))
  obtain ⟨x1, rfl, h⟩ := h
  show VV mX6_digest d s00 122 [some (.ref 0), some (.long v1), none, some (.int v3), none] [.int x1, .int v3] s2 (Ql K)
  refine v_icmp_ge (t := 165) (q := 125) dX6_digest_122 rfl (by decide) (fun c => ?_) (fun c => ?_)
  · have h := h.1 (c)
    refine v_lload_n (q := 166) dX6_digest_165 rfl rfl ?_
    exact v_lret dX6_digest_166 rfl ⟨_, rfl, h⟩
  · have h := h.2 (c)
    refine v_iconst (v := (nI 0)) (q := 126) dX6_digest_125 rfl (by decide) ?_
    refine v_istore (q := 128) dX6_digest_126 rfl (by decide) rfl ?_
    exact h
set_option maxRecDepth 20000 in
theorem bX6_digest_128 {d : Nat} {σ : SS} {K : Int64 → SS → Prop} (v1 : Int64) (v3 : Int32) (v4 : Int32)  (hd1 : 1 ≤ d) (h : (((nI 13) ≤ v4) → (VV mX6_digest d s00 114 [some (.ref 0), some (.long v1), none, some (.int (v3 + nI 1)), none] [] σ (Ql K))) ∧ ((¬ (nI 13) ≤ v4) → (CTi mX2_noteProperty (d - 1) [.ref 1, .int v3, .int v4] σ (fun x1 s2 => VV mX6_digest d s00 128 [some (.ref 0), some (.long (((31) * v1) + (x1).toInt64)), none, some (.int v3), some (.int (v4 + nI 1))] [] s2 (Ql K))))) : VV mX6_digest d s00 128 [some (.ref 0), some (.long v1), none, some (.int v3), some (.int v4)] [] σ (Ql K) := by
  refine v_iload (q := 130) dX6_digest_128 rfl rfl ?_
  refine v_bipush (v := (nI 13)) (q := 132) dX6_digest_130 rfl (by decide) ?_
  refine v_icmp_ge (t := 159) (q := 135) dX6_digest_132 rfl (by decide) (fun c => ?_) (fun c => ?_)
  · have h := h.1 (c)
    refine v_iinc (y := (v3 + nI 1)) (q := 162) dX6_digest_159 rfl rfl (congrArg (fun z => v3 + z) (by decide)) (by decide) rfl ?_
    refine v_goto (q := 114) dX6_digest_162 (by decide) ?_
    exact v_msk [true, true, false, true, false] h
  · have h := h.2 (c)
    refine v_ldc2 (v := (31)) (q := 138) dX6_digest_135 rfl cn_6_209 ?_
    refine v_lload_n (q := 139) dX6_digest_138 rfl rfl ?_
    refine v_lmul (q := 140) dX6_digest_139 rfl ?_
    refine v_aload_n (q := 141) dX6_digest_140 rfl rfl ?_
    refine v_get (q := 144) dX6_digest_141 rfl fl_6_10 rfl rfl ?_
    refine v_iload_n (q := 145) dX6_digest_144 rfl rfl ?_
    refine v_iload (q := 147) dX6_digest_145 rfl rfl ?_
    refine v_callN (As := [.int v3, .int v4]) (n := 2) (q := 150) dX6_digest_147 rfl lk_6_160 hd1 rfl rfl (Nat.le_of_ble_eq_true rfl) (CT.imp h (fun r s2 h => ?_))
    obtain ⟨x1, rfl, h⟩ := h
    show VV mX6_digest d s00 150 [some (.ref 0), some (.long v1), none, some (.int v3), some (.int v4)] [.int x1, .long ((31) * v1)] s2 (Ql K)
    refine v_i2l (q := 151) dX6_digest_150 rfl ?_
    refine v_ladd (q := 152) dX6_digest_151 rfl ?_
    refine v_lstore_n (q := 153) dX6_digest_152 rfl (by decide) rfl ?_
    refine v_iinc (y := (v4 + nI 1)) (q := 156) dX6_digest_153 rfl rfl (congrArg (fun z => v4 + z) (by decide)) (by decide) rfl ?_
    refine v_goto (q := 128) dX6_digest_156 (by decide) ?_
    exact h
set_option maxRecDepth 20000 in
theorem bX6_hashPhrase_0 {d : Nat} {σ : SS} {K : Int64 → SS → Prop} (p1 : Int64) (p2 : Int32)   (h : VV mX6_hashPhrase d s00 6 [some (.ref 0), some (.long p1), none, some (.int p2), some (.long p1), none, some (.int (nI 0))] [] σ (Ql K)) : VV mX6_hashPhrase d s00 0 [some (.ref 0), some (.long p1), none, some (.int p2), none, none, none] [] σ (Ql K) := by
  refine v_lload_n (q := 1) dX6_hashPhrase_0 rfl rfl ?_
  refine v_lstore (q := 3) dX6_hashPhrase_1 rfl (by decide) rfl ?_
  refine v_iconst (v := (nI 0)) (q := 4) dX6_hashPhrase_3 rfl (by decide) ?_
  refine v_istore (q := 6) dX6_hashPhrase_4 rfl (by decide) rfl ?_
  exact h
theorem eX6_hashPhrase {d : Nat} {σ : SS} {K : Int64 → SS → Prop} (p1 : Int64) (p2 : Int32)   (h : VV mX6_hashPhrase d s00 6 [some (.ref 0), some (.long p1), none, some (.int p2), some (.long p1), none, some (.int (nI 0))] [] σ (Ql K)) : CTl mX6_hashPhrase d [.ref 0, .long p1, .int p2] σ K := CT_of (Q := (Ql K)) (by decide +kernel) rfl (by decide) (Nat.le_of_ble_eq_true rfl) rfl (bX6_hashPhrase_0 p1 p2  h)
set_option maxRecDepth 20000 in
theorem bX6_hashPhrase_6 {d : Nat} {σ : SS} {K : Int64 → SS → Prop} (v1 : Int64) (v3 : Int32) (v4 : Int64) (v6 : Int32)  (hd1 : 1 ≤ d) (h : (((nI 7) ≤ v6) → (VV mX6_hashPhrase d s00 42 [some (.ref 0), some (.long v1), none, some (.int v3), some (.long v4), none, some (.int (nI 0))] [] σ (Ql K))) ∧ ((¬ (nI 7) ≤ v6) → (CTi mX2_phraseProperty (d - 1) [.ref 1, .int v3, .int v6] σ (fun x1 s2 => VV mX6_hashPhrase d s00 6 [some (.ref 0), some (.long v1), none, some (.int v3), some (.long (((31) * v4) + (x1).toInt64)), none, some (.int (v6 + nI 1))] [] s2 (Ql K))))) : VV mX6_hashPhrase d s00 6 [some (.ref 0), some (.long v1), none, some (.int v3), some (.long v4), none, some (.int v6)] [] σ (Ql K) := by
  refine v_iload (q := 8) dX6_hashPhrase_6 rfl rfl ?_
  refine v_bipush (v := (nI 7)) (q := 10) dX6_hashPhrase_8 rfl (by decide) ?_
  refine v_icmp_ge (t := 39) (q := 13) dX6_hashPhrase_10 rfl (by decide) (fun c => ?_) (fun c => ?_)
  · have h := h.1 (c)
    refine v_iconst (v := (nI 0)) (q := 40) dX6_hashPhrase_39 rfl (by decide) ?_
    refine v_istore (q := 42) dX6_hashPhrase_40 rfl (by decide) rfl ?_
    exact h
  · have h := h.2 (c)
    refine v_ldc2 (v := (31)) (q := 16) dX6_hashPhrase_13 rfl cn_6_209 ?_
    refine v_lload (q := 18) dX6_hashPhrase_16 rfl rfl ?_
    refine v_lmul (q := 19) dX6_hashPhrase_18 rfl ?_
    refine v_aload_n (q := 20) dX6_hashPhrase_19 rfl rfl ?_
    refine v_get (q := 23) dX6_hashPhrase_20 rfl fl_6_10 rfl rfl ?_
    refine v_iload_n (q := 24) dX6_hashPhrase_23 rfl rfl ?_
    refine v_iload (q := 26) dX6_hashPhrase_24 rfl rfl ?_
    refine v_callN (As := [.int v3, .int v6]) (n := 2) (q := 29) dX6_hashPhrase_26 rfl lk_6_117 hd1 rfl rfl (Nat.le_of_ble_eq_true rfl) (CT.imp h (fun r s2 h => ?_))
    obtain ⟨x1, rfl, h⟩ := h
    show VV mX6_hashPhrase d s00 29 [some (.ref 0), some (.long v1), none, some (.int v3), some (.long v4), none, some (.int v6)] [.int x1, .long ((31) * v4)] s2 (Ql K)
    refine v_i2l (q := 30) dX6_hashPhrase_29 rfl ?_
    refine v_ladd (q := 31) dX6_hashPhrase_30 rfl ?_
    refine v_lstore (q := 33) dX6_hashPhrase_31 rfl (by decide) rfl ?_
    refine v_iinc (y := (v6 + nI 1)) (q := 36) dX6_hashPhrase_33 rfl rfl (congrArg (fun z => v6 + z) (by decide)) (by decide) rfl ?_
    refine v_goto (q := 6) dX6_hashPhrase_36 (by decide) ?_
    exact h
set_option maxRecDepth 20000 in
theorem bX6_hashPhrase_42 {d : Nat} {σ : SS} {K : Int64 → SS → Prop} (v1 : Int64) (v3 : Int32) (v4 : Int64) (v6 : Int32)  (hd1 : 1 ≤ d) (h : CTi mX2_lengthOf (d - 1) [.ref 1, .int v3] σ (fun x1 s2 => ((x1 ≤ v6) → (K v4 s2)) ∧ ((¬ x1 ≤ v6) → (CTi mX2_wordOf (d - 1) [.ref 1, .int v3, .int v6] s2 (fun x3 s4 => VV mX6_hashPhrase d s00 42 [some (.ref 0), some (.long v1), none, some (.int v3), some (.long (((31) * v4) + (x3).toInt64)), none, some (.int (v6 + nI 1))] [] s4 (Ql K)))))) : VV mX6_hashPhrase d s00 42 [some (.ref 0), some (.long v1), none, some (.int v3), some (.long v4), none, some (.int v6)] [] σ (Ql K) := by
  refine v_iload (q := 44) dX6_hashPhrase_42 rfl rfl ?_
  refine v_aload_n (q := 45) dX6_hashPhrase_44 rfl rfl ?_
  refine v_get (q := 48) dX6_hashPhrase_45 rfl fl_6_10 rfl rfl ?_
  refine v_iload_n (q := 49) dX6_hashPhrase_48 rfl rfl ?_
  refine v_callN (As := [.int v3]) (n := 1) (q := 52) dX6_hashPhrase_49 rfl lk_6_120 hd1 rfl rfl (Nat.le_of_ble_eq_true rfl) (CT.imp h (fun r s2 h => ?_))
  obtain ⟨x1, rfl, h⟩ := h
  show VV mX6_hashPhrase d s00 52 [some (.ref 0), some (.long v1), none, some (.int v3), some (.long v4), none, some (.int v6)] [.int x1, .int v6] s2 (Ql K)
  refine v_icmp_ge (t := 81) (q := 55) dX6_hashPhrase_52 rfl (by decide) (fun c => ?_) (fun c => ?_)
  · have h := h.1 (c)
    refine v_lload (q := 83) dX6_hashPhrase_81 rfl rfl ?_
    exact v_lret dX6_hashPhrase_83 rfl ⟨_, rfl, h⟩
  · have h := h.2 (c)
    refine v_ldc2 (v := (31)) (q := 58) dX6_hashPhrase_55 rfl cn_6_209 ?_
    refine v_lload (q := 60) dX6_hashPhrase_58 rfl rfl ?_
    refine v_lmul (q := 61) dX6_hashPhrase_60 rfl ?_
    refine v_aload_n (q := 62) dX6_hashPhrase_61 rfl rfl ?_
    refine v_get (q := 65) dX6_hashPhrase_62 rfl fl_6_10 rfl rfl ?_
    refine v_iload_n (q := 66) dX6_hashPhrase_65 rfl rfl ?_
    refine v_iload (q := 68) dX6_hashPhrase_66 rfl rfl ?_
    refine v_callN (As := [.int v3, .int v6]) (n := 2) (q := 71) dX6_hashPhrase_68 rfl lk_6_123 hd1 rfl rfl (Nat.le_of_ble_eq_true rfl) (CT.imp h (fun r s4 h => ?_))
    obtain ⟨x3, rfl, h⟩ := h
    show VV mX6_hashPhrase d s00 71 [some (.ref 0), some (.long v1), none, some (.int v3), some (.long v4), none, some (.int v6)] [.int x3, .long ((31) * v4)] s4 (Ql K)
    refine v_i2l (q := 72) dX6_hashPhrase_71 rfl ?_
    refine v_ladd (q := 73) dX6_hashPhrase_72 rfl ?_
    refine v_lstore (q := 75) dX6_hashPhrase_73 rfl (by decide) rfl ?_
    refine v_iinc (y := (v6 + nI 1)) (q := 78) dX6_hashPhrase_75 rfl rfl (congrArg (fun z => v6 + z) (by decide)) (by decide) rfl ?_
    refine v_goto (q := 42) dX6_hashPhrase_78 (by decide) ?_
    exact h
set_option maxRecDepth 20000 in
theorem bX6_findMatch_0 {d : Nat} {σ : SS} {K : Int32 → SS → Prop}   (hd1 : 1 ≤ d) (h : CTv mX3_readInto (d - 1) [.ref 3, .ref 4] σ (fun s2 => CTi mX2_settingOf (d - 1) [.ref 1, .int (nI 0)] s2 (fun x3 s4 => VV mX6_findMatch d s00 25 [some (.ref 0), some (.int (-1000000)), some (.int x3), some (.int (nI 0)), none] [] s4 (Qi K)))) : VV mX6_findMatch d s00 0 [some (.ref 0), none, none, none, none] [] σ (Qi K) := by
  refine v_aload_n (q := 1) dX6_findMatch_0 rfl rfl ?_
  refine v_get (q := 4) dX6_findMatch_1 rfl fl_6_26 rfl rfl ?_
  refine v_aload_n (q := 5) dX6_findMatch_4 rfl rfl ?_
  refine v_get (q := 8) dX6_findMatch_5 rfl fl_6_33 rfl rfl ?_
  refine v_callN (As := [.ref 4]) (n := 1) (q := 11) dX6_findMatch_8 rfl lk_6_109 hd1 rfl rfl (Nat.le_of_ble_eq_true rfl) (CT.imp h (fun r s2 h => ?_))
  obtain ⟨rfl, h⟩ := h
  show VV mX6_findMatch d s00 11 [some (.ref 0), none, none, none, none] [] s2 (Qi K)
  refine v_ldc (v := (-1000000)) (q := 13) dX6_findMatch_11 rfl cn_6_94 ?_
  refine v_istore_n (q := 14) dX6_findMatch_13 rfl (by decide) rfl ?_
  refine v_aload_n (q := 15) dX6_findMatch_14 rfl rfl ?_
  refine v_get (q := 18) dX6_findMatch_15 rfl fl_6_10 rfl rfl ?_
  refine v_iconst (v := (nI 0)) (q := 19) dX6_findMatch_18 rfl (by decide) ?_
  refine v_callN (As := [.int (nI 0)]) (n := 1) (q := 22) dX6_findMatch_19 rfl lk_6_77 hd1 rfl rfl (Nat.le_of_ble_eq_true rfl) (CT.imp h (fun r s4 h => ?_))
  obtain ⟨x3, rfl, h⟩ := h
  show VV mX6_findMatch d s00 22 [some (.ref 0), some (.int (-1000000)), none, none, none] [.int x3] s4 (Qi K)
  refine v_istore_n (q := 23) dX6_findMatch_22 rfl (by decide) rfl ?_
  refine v_iconst (v := (nI 0)) (q := 24) dX6_findMatch_23 rfl (by decide) ?_
  refine v_istore_n (q := 25) dX6_findMatch_24 rfl (by decide) rfl ?_
  exact h
theorem eX6_findMatch {d : Nat} {σ : SS} {K : Int32 → SS → Prop}   (hd1 : 1 ≤ d) (h : CTv mX3_readInto (d - 1) [.ref 3, .ref 4] σ (fun s2 => CTi mX2_settingOf (d - 1) [.ref 1, .int (nI 0)] s2 (fun x3 s4 => VV mX6_findMatch d s00 25 [some (.ref 0), some (.int (-1000000)), some (.int x3), some (.int (nI 0)), none] [] s4 (Qi K)))) : CTi mX6_findMatch d [.ref 0] σ K := CT_of (Q := (Qi K)) (by decide +kernel) rfl (by decide) (Nat.le_of_ble_eq_true rfl) rfl (bX6_findMatch_0  hd1 h)
set_option maxRecDepth 20000 in
theorem bX6_findMatch_25 {d : Nat} {σ : SS} {K : Int32 → SS → Prop} (v1 : Int32) (v2 : Int32) (v3 : Int32)  (hd1 : 1 ≤ d) (h : CTi mX2_phrases (d - 1) [.ref 1] σ (fun x1 s2 => ((x1 ≤ v3) → (K v1 s2)) ∧ ((¬ x1 ≤ v3) → (CTi mX2_isLive (d - 1) [.ref 1, .int v3] s2 (fun x3 s4 => ((x3 = 0) → (VV mX6_findMatch d s00 103 [some (.ref 0), some (.int v1), some (.int v2), some (.int v3), none] [] s4 (Qi K))) ∧ ((¬ x3 = 0) → (CTi mX2_likenessTo (d - 1) [.ref 1, .ref 4, .int v3] s4 (fun x5 s6 => ((v2 < x5) → (VV mX6_findMatch d s00 98 [some (.ref 0), some (.int v1), some (.int v2), some (.int v3), some (.int x5)] [] s6 (Qi K))) ∧ ((¬ v2 < x5) → (((¬ x5 = v2) → (VV mX6_findMatch d s00 103 [some (.ref 0), some (.int v1), some (.int v2), some (.int v3), none] [] s6 (Qi K))) ∧ ((x5 = v2) → (((v1 = (-1000000)) → (VV mX6_findMatch d s00 98 [some (.ref 0), some (.int v1), some (.int v2), some (.int v3), some (.int x5)] [] s6 (Qi K))) ∧ ((¬ v1 = (-1000000)) → (CTi mX2_usesOf (d - 1) [.ref 1, .int v3] s6 (fun x7 s8 => CTi mX2_usesOf (d - 1) [.ref 1, .int v1] s8 (fun x9 s10 => ((x7 ≤ x9) → (VV mX6_findMatch d s00 103 [some (.ref 0), some (.int v1), some (.int v2), some (.int v3), none] [] s10 (Qi K))) ∧ ((¬ x7 ≤ x9) → (VV mX6_findMatch d s00 98 [some (.ref 0), some (.int v1), some (.int v2), some (.int v3), some (.int x5)] [] s10 (Qi K))))))))))))))))))) : VV mX6_findMatch d s00 25 [some (.ref 0), some (.int v1), some (.int v2), some (.int v3), none] [] σ (Qi K) := by
  refine v_iload_n (q := 26) dX6_findMatch_25 rfl rfl ?_
  refine v_aload_n (q := 27) dX6_findMatch_26 rfl rfl ?_
  refine v_get (q := 30) dX6_findMatch_27 rfl fl_6_10 rfl rfl ?_
  refine v_callN (As := []) (n := 0) (q := 33) dX6_findMatch_30 rfl lk_6_106 hd1 rfl rfl (Nat.le_of_ble_eq_true rfl) (CT.imp h (fun r s2 h => ?_))
  obtain ⟨x1, rfl, h⟩ := h
  show VV mX6_findMatch d s00 33 [some (.ref 0), some (.int v1), some (.int v2), some (.int v3), none] [.int x1, .int v3] s2 (Qi K)
  refine v_icmp_ge (t := 109) (q := 36) dX6_findMatch_33 rfl (by decide) (fun c => ?_) (fun c => ?_)
  · have h := h.1 (c)
    refine v_iload_n (q := 110) dX6_findMatch_109 rfl rfl ?_
    exact v_iret dX6_findMatch_110 rfl ⟨_, rfl, h⟩
  · have h := h.2 (c)
    refine v_aload_n (q := 37) dX6_findMatch_36 rfl rfl ?_
    refine v_get (q := 40) dX6_findMatch_37 rfl fl_6_10 rfl rfl ?_
    refine v_iload_n (q := 41) dX6_findMatch_40 rfl rfl ?_
    refine v_callN (As := [.int v3]) (n := 1) (q := 44) dX6_findMatch_41 rfl lk_6_102 hd1 rfl rfl (Nat.le_of_ble_eq_true rfl) (CT.imp h (fun r s4 h => ?_))
    obtain ⟨x3, rfl, h⟩ := h
    show VV mX6_findMatch d s00 44 [some (.ref 0), some (.int v1), some (.int v2), some (.int v3), none] [.int x3] s4 (Qi K)
    refine v_if_eq (t := 103) (q := 47) dX6_findMatch_44 rfl (by decide) (fun c => ?_) (fun c => ?_)
    · have h := h.1 (c)
      exact h
    · have h := h.2 (c)
      refine v_aload_n (q := 48) dX6_findMatch_47 rfl rfl ?_
      refine v_get (q := 51) dX6_findMatch_48 rfl fl_6_10 rfl rfl ?_
      refine v_aload_n (q := 52) dX6_findMatch_51 rfl rfl ?_
      refine v_get (q := 55) dX6_findMatch_52 rfl fl_6_33 rfl rfl ?_
      refine v_iload_n (q := 56) dX6_findMatch_55 rfl rfl ?_
      refine v_callN (As := [.ref 4, .int v3]) (n := 2) (q := 59) dX6_findMatch_56 rfl lk_6_143 hd1 rfl rfl (Nat.le_of_ble_eq_true rfl) (CT.imp h (fun r s6 h => ?_))
      obtain ⟨x5, rfl, h⟩ := h
      show VV mX6_findMatch d s00 59 [some (.ref 0), some (.int v1), some (.int v2), some (.int v3), none] [.int x5] s6 (Qi K)
      refine v_istore (q := 61) dX6_findMatch_59 rfl (by decide) rfl ?_
      refine v_iload (q := 63) dX6_findMatch_61 rfl rfl ?_
      refine v_iload_n (q := 64) dX6_findMatch_63 rfl rfl ?_
      refine v_icmp_gt (t := 98) (q := 67) dX6_findMatch_64 rfl (by decide) (fun c => ?_) (fun c => ?_)
      · have h := h.1 (c)
        exact h
      · have h := h.2 (c)
        refine v_iload (q := 69) dX6_findMatch_67 rfl rfl ?_
        refine v_iload_n (q := 70) dX6_findMatch_69 rfl rfl ?_
        refine v_icmp_ne (t := 103) (q := 73) dX6_findMatch_70 rfl (by decide) (fun c => ?_) (fun c => ?_)
        · have h := h.1 (c)
          exact v_msk [true, true, true, true, false] h
        · have h := h.2 (c)
          refine v_iload_n (q := 74) dX6_findMatch_73 rfl rfl ?_
          refine v_ldc (v := (-1000000)) (q := 76) dX6_findMatch_74 rfl cn_6_94 ?_
          refine v_icmp_eq (t := 98) (q := 79) dX6_findMatch_76 rfl (by decide) (fun c => ?_) (fun c => ?_)
          · have h := h.1 (c)
            exact h
          · have h := h.2 (c)
            refine v_aload_n (q := 80) dX6_findMatch_79 rfl rfl ?_
            refine v_get (q := 83) dX6_findMatch_80 rfl fl_6_10 rfl rfl ?_
            refine v_iload_n (q := 84) dX6_findMatch_83 rfl rfl ?_
            refine v_callN (As := [.int v3]) (n := 1) (q := 87) dX6_findMatch_84 rfl lk_6_215 hd1 rfl rfl (Nat.le_of_ble_eq_true rfl) (CT.imp h (fun r s8 h => ?_))
            obtain ⟨x7, rfl, h⟩ := h
            show VV mX6_findMatch d s00 87 [some (.ref 0), some (.int v1), some (.int v2), some (.int v3), some (.int x5)] [.int x7] s8 (Qi K)
            refine v_aload_n (q := 88) dX6_findMatch_87 rfl rfl ?_
            refine v_get (q := 91) dX6_findMatch_88 rfl fl_6_10 rfl rfl ?_
            refine v_iload_n (q := 92) dX6_findMatch_91 rfl rfl ?_
            refine v_callN (As := [.int v1]) (n := 1) (q := 95) dX6_findMatch_92 rfl lk_6_215 hd1 rfl rfl (Nat.le_of_ble_eq_true rfl) (CT.imp h (fun r s10 h => ?_))
            obtain ⟨x9, rfl, h⟩ := h
            show VV mX6_findMatch d s00 95 [some (.ref 0), some (.int v1), some (.int v2), some (.int v3), some (.int x5)] [.int x9, .int x7] s10 (Qi K)
            refine v_icmp_le (t := 103) (q := 98) dX6_findMatch_95 rfl (by decide) (fun c => ?_) (fun c => ?_)
            · have h := h.1 (c)
              exact v_msk [true, true, true, true, false] h
            · have h := h.2 (c)
              exact h
set_option maxRecDepth 20000 in
theorem bX6_findMatch_98 {d : Nat} {σ : SS} {K : Int32 → SS → Prop} (v1 : Int32) (v2 : Int32) (v3 : Int32) (v4 : Int32)   (h : VV mX6_findMatch d s00 103 [some (.ref 0), some (.int v3), some (.int v4), some (.int v3), none] [] σ (Qi K)) : VV mX6_findMatch d s00 98 [some (.ref 0), some (.int v1), some (.int v2), some (.int v3), some (.int v4)] [] σ (Qi K) := by
  refine v_iload_n (q := 99) dX6_findMatch_98 rfl rfl ?_
  refine v_istore_n (q := 100) dX6_findMatch_99 rfl (by decide) rfl ?_
  refine v_iload (q := 102) dX6_findMatch_100 rfl rfl ?_
  refine v_istore_n (q := 103) dX6_findMatch_102 rfl (by decide) rfl ?_
  exact v_msk [true, true, true, true, false] h
set_option maxRecDepth 20000 in
theorem bX6_findMatch_103 {d : Nat} {σ : SS} {K : Int32 → SS → Prop} (v1 : Int32) (v2 : Int32) (v3 : Int32)   (h : VV mX6_findMatch d s00 25 [some (.ref 0), some (.int v1), some (.int v2), some (.int (v3 + nI 1)), none] [] σ (Qi K)) : VV mX6_findMatch d s00 103 [some (.ref 0), some (.int v1), some (.int v2), some (.int v3), none] [] σ (Qi K) := by
  refine v_iinc (y := (v3 + nI 1)) (q := 106) dX6_findMatch_103 rfl rfl (congrArg (fun z => v3 + z) (by decide)) (by decide) rfl ?_
  refine v_goto (q := 25) dX6_findMatch_106 (by decide) ?_
  exact h
set_option maxRecDepth 20000 in
theorem bX6_findWays_0 {d : Nat} {σ : SS} {K : SS → Prop} (p1 : Int32)  (hd1 : 1 ≤ d) (h : CTv mX3_readInto (d - 1) [.ref 3, .ref 4] σ (fun s2 => CTv mX4_start (d - 1) [.ref 5, .int (s2.2.1 3)] s2 (fun s4 => VV mX6_findWays d s00 35 [some (.ref 0), some (.int p1), some (.int ((s4.2.1 3) - (nI 1))), none] [] s4 (Qv K)))) : VV mX6_findWays d s00 0 [some (.ref 0), some (.int p1), none, none] [] σ (Qv K) := by
  refine v_aload_n (q := 1) dX6_findWays_0 rfl rfl ?_
  refine v_get (q := 4) dX6_findWays_1 rfl fl_6_26 rfl rfl ?_
  refine v_aload_n (q := 5) dX6_findWays_4 rfl rfl ?_
  refine v_get (q := 8) dX6_findWays_5 rfl fl_6_33 rfl rfl ?_
  refine v_callN (As := [.ref 4]) (n := 1) (q := 11) dX6_findWays_8 rfl lk_6_109 hd1 rfl rfl (Nat.le_of_ble_eq_true rfl) (CT.imp h (fun r s2 h => ?_))
  obtain ⟨rfl, h⟩ := h
  show VV mX6_findWays d s00 11 [some (.ref 0), some (.int p1), none, none] [] s2 (Qv K)
  refine v_aload_n (q := 12) dX6_findWays_11 rfl rfl ?_
  refine v_get (q := 15) dX6_findWays_12 rfl fl_6_40 rfl rfl ?_
  refine v_aload_n (q := 16) dX6_findWays_15 rfl rfl ?_
  refine v_get (q := 19) dX6_findWays_16 rfl fl_6_33 rfl rfl ?_
  refine v_get (q := 22) dX6_findWays_19 rfl fl_6_218 rfl rfl ?_
  refine v_callN (As := [.int (s2.2.1 3)]) (n := 1) (q := 25) dX6_findWays_22 rfl lk_6_219 hd1 rfl rfl (Nat.le_of_ble_eq_true rfl) (CT.imp h (fun r s4 h => ?_))
  obtain ⟨rfl, h⟩ := h
  show VV mX6_findWays d s00 25 [some (.ref 0), some (.int p1), none, none] [] s4 (Qv K)
  refine v_aload_n (q := 26) dX6_findWays_25 rfl rfl ?_
  refine v_get (q := 29) dX6_findWays_26 rfl fl_6_33 rfl rfl ?_
  refine v_get (q := 32) dX6_findWays_29 rfl fl_6_218 rfl rfl ?_
  refine v_iconst (v := (nI 1)) (q := 33) dX6_findWays_32 rfl (by decide) ?_
  refine v_isub (q := 34) dX6_findWays_33 rfl ?_
  refine v_istore_n (q := 35) dX6_findWays_34 rfl (by decide) rfl ?_
  exact h
theorem eX6_findWays {d : Nat} {σ : SS} {K : SS → Prop} (p1 : Int32)  (hd1 : 1 ≤ d) (h : CTv mX3_readInto (d - 1) [.ref 3, .ref 4] σ (fun s2 => CTv mX4_start (d - 1) [.ref 5, .int (s2.2.1 3)] s2 (fun s4 => VV mX6_findWays d s00 35 [some (.ref 0), some (.int p1), some (.int ((s4.2.1 3) - (nI 1))), none] [] s4 (Qv K)))) : CTv mX6_findWays d [.ref 0, .int p1] σ K := CT_of (Q := (Qv K)) (by decide +kernel) rfl (by decide) (Nat.le_of_ble_eq_true rfl) rfl (bX6_findWays_0 p1 hd1 h)
set_option maxRecDepth 20000 in
theorem bX6_findWays_35 {d : Nat} {σ : SS} {K : SS → Prop} (v1 : Int32) (v2 : Int32)  (hd1 : 1 ≤ d) (h : ((v2 < 0) → (K σ)) ∧ ((¬ v2 < 0) → (CTv mX4_open (d - 1) [.ref 5, .int v2] σ (fun s2 => VV mX6_findWays d s00 49 [some (.ref 0), some (.int v1), some (.int v2), some (.int (nI 0))] [] s2 (Qv K))))) : VV mX6_findWays d s00 35 [some (.ref 0), some (.int v1), some (.int v2), none] [] σ (Qv K) := by
  refine v_iload_n (q := 36) dX6_findWays_35 rfl rfl ?_
  refine v_if_lt (t := 127) (q := 39) dX6_findWays_36 rfl (by decide) (fun c => ?_) (fun c => ?_)
  · have h := h.1 (c)
    exact v_ret0 dX6_findWays_127 rfl ⟨rfl, h⟩
  · have h := h.2 (c)
    refine v_aload_n (q := 40) dX6_findWays_39 rfl rfl ?_
    refine v_get (q := 43) dX6_findWays_40 rfl fl_6_40 rfl rfl ?_
    refine v_iload_n (q := 44) dX6_findWays_43 rfl rfl ?_
    refine v_callN (As := [.int v2]) (n := 1) (q := 47) dX6_findWays_44 rfl lk_6_222 hd1 rfl rfl (Nat.le_of_ble_eq_true rfl) (CT.imp h (fun r s2 h => ?_))
    obtain ⟨rfl, h⟩ := h
    show VV mX6_findWays d s00 47 [some (.ref 0), some (.int v1), some (.int v2), none] [] s2 (Qv K)
    refine v_iconst (v := (nI 0)) (q := 48) dX6_findWays_47 rfl (by decide) ?_
    refine v_istore_n (q := 49) dX6_findWays_48 rfl (by decide) rfl ?_
    exact h
set_option maxRecDepth 20000 in
theorem bX6_findWays_49 {d : Nat} {σ : SS} {K : SS → Prop} (v1 : Int32) (v2 : Int32) (v3 : Int32)  (hd1 : 1 ≤ d) (h : CTi mX2_phrases (d - 1) [.ref 1] σ (fun x1 s2 => ((x1 ≤ v3) → (VV mX6_findWays d s00 35 [some (.ref 0), some (.int v1), some (.int (v2 + (-1))), none] [] s2 (Qv K))) ∧ ((¬ x1 ≤ v3) → (CTi mX2_isLive (d - 1) [.ref 1, .int v3] s2 (fun x3 s4 => ((x3 = 0) → (VV mX6_findWays d s00 49 [some (.ref 0), some (.int v1), some (.int v2), some (.int (v3 + nI 1))] [] s4 (Qv K))) ∧ ((¬ x3 = 0) → (CTi mX2_standsAt (d - 1) [.ref 1, .int v3, .ref 4, .int v2] s4 (fun x5 s6 => ((x5 = 0) → (VV mX6_findWays d s00 49 [some (.ref 0), some (.int v1), some (.int v2), some (.int (v3 + nI 1))] [] s6 (Qv K))) ∧ ((¬ x5 = 0) → (CTi mX2_lengthOf (d - 1) [.ref 1, .int v3] s6 (fun x7 s8 => CTi mX2_feeFor (d - 1) [.ref 1, .int v1, .int v3, .int (nI 100)] s8 (fun x9 s10 => CTv mX4_offer (d - 1) [.ref 5, .int v2, .int v3, .int x7, .int x9] s10 (fun s12 => VV mX6_findWays d s00 49 [some (.ref 0), some (.int v1), some (.int v2), some (.int (v3 + nI 1))] [] s12 (Qv K)))))))))))))) : VV mX6_findWays d s00 49 [some (.ref 0), some (.int v1), some (.int v2), some (.int v3)] [] σ (Qv K) := by
  refine v_iload_n (q := 50) dX6_findWays_49 rfl rfl ?_
  refine v_aload_n (q := 51) dX6_findWays_50 rfl rfl ?_
  refine v_get (q := 54) dX6_findWays_51 rfl fl_6_10 rfl rfl ?_
  refine v_callN (As := []) (n := 0) (q := 57) dX6_findWays_54 rfl lk_6_106 hd1 rfl rfl (Nat.le_of_ble_eq_true rfl) (CT.imp h (fun r s2 h => ?_))
  obtain ⟨x1, rfl, h⟩ := h
  show VV mX6_findWays d s00 57 [some (.ref 0), some (.int v1), some (.int v2), some (.int v3)] [.int x1, .int v3] s2 (Qv K)
  refine v_icmp_ge (t := 121) (q := 60) dX6_findWays_57 rfl (by decide) (fun c => ?_) (fun c => ?_)
  · have h := h.1 (c)
    refine v_iinc (y := (v2 + (-1))) (q := 124) dX6_findWays_121 rfl rfl (congrArg (fun z => v2 + z) (by decide)) (by decide) rfl ?_
    refine v_goto (q := 35) dX6_findWays_124 (by decide) ?_
    exact v_msk [true, true, true, false] h
  · have h := h.2 (c)
    refine v_aload_n (q := 61) dX6_findWays_60 rfl rfl ?_
    refine v_get (q := 64) dX6_findWays_61 rfl fl_6_10 rfl rfl ?_
    refine v_iload_n (q := 65) dX6_findWays_64 rfl rfl ?_
    refine v_callN (As := [.int v3]) (n := 1) (q := 68) dX6_findWays_65 rfl lk_6_102 hd1 rfl rfl (Nat.le_of_ble_eq_true rfl) (CT.imp h (fun r s4 h => ?_))
    obtain ⟨x3, rfl, h⟩ := h
    show VV mX6_findWays d s00 68 [some (.ref 0), some (.int v1), some (.int v2), some (.int v3)] [.int x3] s4 (Qv K)
    refine v_if_eq (t := 115) (q := 71) dX6_findWays_68 rfl (by decide) (fun c => ?_) (fun c => ?_)
    · have h := h.1 (c)
      refine v_iinc (y := (v3 + nI 1)) (q := 118) dX6_findWays_115 rfl rfl (congrArg (fun z => v3 + z) (by decide)) (by decide) rfl ?_
      refine v_goto (q := 49) dX6_findWays_118 (by decide) ?_
      exact h
    · have h := h.2 (c)
      refine v_aload_n (q := 72) dX6_findWays_71 rfl rfl ?_
      refine v_get (q := 75) dX6_findWays_72 rfl fl_6_10 rfl rfl ?_
      refine v_iload_n (q := 76) dX6_findWays_75 rfl rfl ?_
      refine v_aload_n (q := 77) dX6_findWays_76 rfl rfl ?_
      refine v_get (q := 80) dX6_findWays_77 rfl fl_6_33 rfl rfl ?_
      refine v_iload_n (q := 81) dX6_findWays_80 rfl rfl ?_
      refine v_callN (As := [.int v3, .ref 4, .int v2]) (n := 3) (q := 84) dX6_findWays_81 rfl lk_6_225 hd1 rfl rfl (Nat.le_of_ble_eq_true rfl) (CT.imp h (fun r s6 h => ?_))
      obtain ⟨x5, rfl, h⟩ := h
      show VV mX6_findWays d s00 84 [some (.ref 0), some (.int v1), some (.int v2), some (.int v3)] [.int x5] s6 (Qv K)
      refine v_if_eq (t := 115) (q := 87) dX6_findWays_84 rfl (by decide) (fun c => ?_) (fun c => ?_)
      · have h := h.1 (c)
        refine v_iinc (y := (v3 + nI 1)) (q := 118) dX6_findWays_115 rfl rfl (congrArg (fun z => v3 + z) (by decide)) (by decide) rfl ?_
        refine v_goto (q := 49) dX6_findWays_118 (by decide) ?_
        exact h
      · have h := h.2 (c)
        refine v_aload_n (q := 88) dX6_findWays_87 rfl rfl ?_
        refine v_get (q := 91) dX6_findWays_88 rfl fl_6_40 rfl rfl ?_
        refine v_iload_n (q := 92) dX6_findWays_91 rfl rfl ?_
        refine v_iload_n (q := 93) dX6_findWays_92 rfl rfl ?_
        refine v_aload_n (q := 94) dX6_findWays_93 rfl rfl ?_
        refine v_get (q := 97) dX6_findWays_94 rfl fl_6_10 rfl rfl ?_
        refine v_iload_n (q := 98) dX6_findWays_97 rfl rfl ?_
        refine v_callN (As := [.int v3]) (n := 1) (q := 101) dX6_findWays_98 rfl lk_6_120 hd1 rfl rfl (Nat.le_of_ble_eq_true rfl) (CT.imp h (fun r s8 h => ?_))
        obtain ⟨x7, rfl, h⟩ := h
        show VV mX6_findWays d s00 101 [some (.ref 0), some (.int v1), some (.int v2), some (.int v3)] [.int x7, .int v3, .int v2, .ref 5] s8 (Qv K)
        refine v_aload_n (q := 102) dX6_findWays_101 rfl rfl ?_
        refine v_get (q := 105) dX6_findWays_102 rfl fl_6_10 rfl rfl ?_
        refine v_iload_n (q := 106) dX6_findWays_105 rfl rfl ?_
        refine v_iload_n (q := 107) dX6_findWays_106 rfl rfl ?_
        refine v_bipush (v := (nI 100)) (q := 109) dX6_findWays_107 rfl (by decide) ?_
        refine v_callN (As := [.int v1, .int v3, .int (nI 100)]) (n := 3) (q := 112) dX6_findWays_109 rfl lk_6_147 hd1 rfl rfl (Nat.le_of_ble_eq_true rfl) (CT.imp h (fun r s10 h => ?_))
        obtain ⟨x9, rfl, h⟩ := h
        show VV mX6_findWays d s00 112 [some (.ref 0), some (.int v1), some (.int v2), some (.int v3)] [.int x9, .int x7, .int v3, .int v2, .ref 5] s10 (Qv K)
        refine v_callN (As := [.int v2, .int v3, .int x7, .int x9]) (n := 4) (q := 115) dX6_findWays_112 rfl lk_6_229 hd1 rfl rfl (Nat.le_of_ble_eq_true rfl) (CT.imp h (fun r s12 h => ?_))
        obtain ⟨rfl, h⟩ := h
        show VV mX6_findWays d s00 115 [some (.ref 0), some (.int v1), some (.int v2), some (.int v3)] [] s12 (Qv K)
        refine v_iinc (y := (v3 + nI 1)) (q := 118) dX6_findWays_115 rfl rfl (congrArg (fun z => v3 + z) (by decide)) (by decide) rfl ?_
        refine v_goto (q := 49) dX6_findWays_118 (by decide) ?_
        exact h
