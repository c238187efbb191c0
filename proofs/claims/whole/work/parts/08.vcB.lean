/-! VC by program: the reference  -/
set_option maxRecDepth 20000 in
theorem bX7_in_0 {d : Nat} {σ : SS} {K : Int32 → SS → Prop} (p1 : Int32) (p2 : Int32) (p3 : Int32)   (h : ((p1 < p2) → (K (nI 0) σ)) ∧ ((¬ p1 < p2) → (((p3 < p1) → (K (nI 0) σ)) ∧ ((¬ p3 < p1) → (K (nI 1) σ))))) : VV mX7_in d s00 0 [some (.int p1), some (.int p2), some (.int p3)] [] σ (Qi K) := by
  refine v_iload_n (q := 1) dX7_in_0 rfl rfl ?_
  refine v_iload_n (q := 2) dX7_in_1 rfl rfl ?_
  refine v_icmp_lt (t := 14) (q := 5) dX7_in_2 rfl (by decide) (fun c => ?_) (fun c => ?_)
  · have h := h.1 (c)
    refine v_iconst (v := (nI 0)) (q := 15) dX7_in_14 rfl (by decide) ?_
    exact v_zret dX7_in_15 rfl (by decide) ⟨_, rfl, h⟩
  · have h := h.2 (c)
    refine v_iload_n (q := 6) dX7_in_5 rfl rfl ?_
    refine v_iload_n (q := 7) dX7_in_6 rfl rfl ?_
    refine v_icmp_gt (t := 14) (q := 10) dX7_in_7 rfl (by decide) (fun c => ?_) (fun c => ?_)
    · have h := h.1 (c)
      refine v_iconst (v := (nI 0)) (q := 15) dX7_in_14 rfl (by decide) ?_
      exact v_zret dX7_in_15 rfl (by decide) ⟨_, rfl, h⟩
    · have h := h.2 (c)
      refine v_iconst (v := (nI 1)) (q := 11) dX7_in_10 rfl (by decide) ?_
      refine v_goto (q := 15) dX7_in_11 (by decide) ?_
      exact v_zret dX7_in_15 rfl (by decide) ⟨_, rfl, h⟩
theorem eX7_in {d : Nat} {σ : SS} {K : Int32 → SS → Prop} (p1 : Int32) (p2 : Int32) (p3 : Int32)   (h : ((p1 < p2) → (K (nI 0) σ)) ∧ ((¬ p1 < p2) → (((p3 < p1) → (K (nI 0) σ)) ∧ ((¬ p3 < p1) → (K (nI 1) σ))))) : CTi mX7_in d [.int p1, .int p2, .int p3] σ K := CT_of (Q := (Qi K)) (by decide +kernel) rfl (by decide) (Nat.le_of_ble_eq_true rfl) rfl (bX7_in_0 p1 p2 p3  h)
set_option maxRecDepth 20000 in
theorem bX7_copies_0 {d : Nat} {σ : SS} {K : SS → Prop} (p1 : Int32) (p2 : Int32)   (h : VV mX7_copies d s00 2 [some (.ref 11), some (.int p1), some (.int p2), some (.int (nI 0))] [] σ (Qv K)) : VV mX7_copies d s00 0 [some (.ref 11), some (.int p1), some (.int p2), none] [] σ (Qv K) := by
  refine v_iconst (v := (nI 0)) (q := 1) dX7_copies_0 rfl (by decide) ?_
  refine v_istore_n (q := 2) dX7_copies_1 rfl (by decide) rfl ?_
  exact h
theorem eX7_copies {d : Nat} {σ : SS} {K : SS → Prop} (p1 : Int32) (p2 : Int32)   (h : VV mX7_copies d s00 2 [some (.ref 11), some (.int p1), some (.int p2), some (.int (nI 0))] [] σ (Qv K)) : CTv mX7_copies d [.ref 11, .int p1, .int p2] σ K := CT_of (Q := (Qv K)) (by decide +kernel) rfl (by decide) (Nat.le_of_ble_eq_true rfl) rfl (bX7_copies_0 p1 p2  h)
set_option maxRecDepth 20000 in
theorem bX7_copies_2 {d : Nat} {σ : SS} {K : SS → Prop} (v1 : Int32) (v2 : Int32) (v3 : Int32)   (h : (((nI 654) ≤ v3) → (K σ)) ∧ ((¬ (nI 654) ≤ v3) → ((vp_in (v1 + v3) 3270) ∧ ((vp_in (v2 + v3) 3270) ∧ (VV mX7_copies d s00 2 [some (.ref 11), some (.int v1), some (.int v2), some (.int (v3 + nI 1))] [] (sA σ 37 (v2 + v3).toNatClampNeg (σ.1 37 (v1 + v3).toNatClampNeg)) (Qv K)))))) : VV mX7_copies d s00 2 [some (.ref 11), some (.int v1), some (.int v2), some (.int v3)] [] σ (Qv K) := by
  refine v_iload_n (q := 3) dX7_copies_2 rfl rfl ?_
  refine v_sipush (v := (nI 654)) (q := 6) dX7_copies_3 rfl (by decide) ?_
  refine v_icmp_ge (t := 31) (q := 9) dX7_copies_6 rfl (by decide) (fun c => ?_) (fun c => ?_)
  · have h := h.1 (c)
    exact v_ret0 dX7_copies_31 rfl ⟨rfl, h⟩
  · have h := h.2 (c)
    refine v_aload_n (q := 10) dX7_copies_9 rfl rfl ?_
    refine v_get (q := 13) dX7_copies_10 rfl fl_7_7 rfl rfl ?_
    refine v_iload_n (q := 14) dX7_copies_13 rfl rfl ?_
    refine v_iload_n (q := 15) dX7_copies_14 rfl rfl ?_
    refine v_iadd (q := 16) dX7_copies_15 rfl ?_
    refine v_aload_n (q := 17) dX7_copies_16 rfl rfl ?_
    refine v_get (q := 20) dX7_copies_17 rfl fl_7_7 rfl rfl ?_
    refine v_iload_n (q := 21) dX7_copies_20 rfl rfl ?_
    refine v_iload_n (q := 22) dX7_copies_21 rfl rfl ?_
    refine v_iadd (q := 23) dX7_copies_22 rfl ?_
    refine v_iald (q := 24) dX7_copies_23 rfl (isI_d rfl) h.1 ?_
    have h := h.2
    refine v_iast (q := 25) dX7_copies_24 rfl (isI_d rfl) h.1 ?_
    have h := h.2
    refine v_iinc (y := (v3 + nI 1)) (q := 28) dX7_copies_25 rfl rfl (congrArg (fun z => v3 + z) (by decide)) (by decide) rfl ?_
    refine v_goto (q := 2) dX7_copies_28 (by decide) ?_
    exact h
set_option maxRecDepth 20000 in
theorem bX7_records_0 {d : Nat} {σ : SS} {K : SS → Prop}    (h : VV mX7_records d s00 2 [some (.ref 11), some (.int (nI 1))] [] σ (Qv K)) : VV mX7_records d s00 0 [some (.ref 11), none] [] σ (Qv K) := by
  refine v_iconst (v := (nI 1)) (q := 1) dX7_records_0 rfl (by decide) ?_
  refine v_istore_n (q := 2) dX7_records_1 rfl (by decide) rfl ?_
  exact h
theorem eX7_records {d : Nat} {σ : SS} {K : SS → Prop}    (h : VV mX7_records d s00 2 [some (.ref 11), some (.int (nI 1))] [] σ (Qv K)) : CTv mX7_records d [.ref 11] σ K := CT_of (Q := (Qv K)) (by decide +kernel) rfl (by decide) (Nat.le_of_ble_eq_true rfl) rfl (bX7_records_0   h)
set_option maxRecDepth 20000 in
theorem bX7_records_2 {d : Nat} {σ : SS} {K : SS → Prop} (v1 : Int32)  (hd1 : 1 ≤ d) (h : (((nI 4) ≤ v1) → (((¬ (σ.2.1 7) = (nI 4)) → (CTv mX7_copies (d - 1) [.ref 11, .int (nI 0), .int ((nI 654) * ((sF (sF σ 7 ((σ.2.1 7) - (nI 0))) 7 (((sF σ 7 ((σ.2.1 7) - (nI 0))).2.1 7) + (nI 1))).2.1 7))] (sF (sF σ 7 ((σ.2.1 7) - (nI 0))) 7 (((sF σ 7 ((σ.2.1 7) - (nI 0))).2.1 7) + (nI 1))) (fun s2 => K s2))) ∧ (((σ.2.1 7) = (nI 4)) → (CTv mX7_copies (d - 1) [.ref 11, .int (nI 0), .int ((nI 654) * ((sF (sF σ 7 ((σ.2.1 7) - (nI 1))) 7 (((sF σ 7 ((σ.2.1 7) - (nI 1))).2.1 7) + (nI 1))).2.1 7))] (sF (sF σ 7 ((σ.2.1 7) - (nI 1))) 7 (((sF σ 7 ((σ.2.1 7) - (nI 1))).2.1 7) + (nI 1))) (fun s4 => K s4))))) ∧ ((¬ (nI 4) ≤ v1) → (((¬ (σ.2.1 7) = (nI 4)) → (((¬ (σ.2.1 7) = (nI 4)) → (CTv mX7_copies (d - 1) [.ref 11, .int (nI 0), .int ((nI 654) * ((sF (sF σ 7 ((σ.2.1 7) - (nI 0))) 7 (((sF σ 7 ((σ.2.1 7) - (nI 0))).2.1 7) + (nI 1))).2.1 7))] (sF (sF σ 7 ((σ.2.1 7) - (nI 0))) 7 (((sF σ 7 ((σ.2.1 7) - (nI 0))).2.1 7) + (nI 1))) (fun s6 => K s6))) ∧ (((σ.2.1 7) = (nI 4)) → (CTv mX7_copies (d - 1) [.ref 11, .int (nI 0), .int ((nI 654) * ((sF (sF σ 7 ((σ.2.1 7) - (nI 1))) 7 (((sF σ 7 ((σ.2.1 7) - (nI 1))).2.1 7) + (nI 1))).2.1 7))] (sF (sF σ 7 ((σ.2.1 7) - (nI 1))) 7 (((sF σ 7 ((σ.2.1 7) - (nI 1))).2.1 7) + (nI 1))) (fun s8 => K s8))))) ∧ (((σ.2.1 7) = (nI 4)) → (CTv mX7_copies (d - 1) [.ref 11, .int ((nI 654) * (v1 + (nI 1))), .int ((nI 654) * v1)] σ (fun s10 => VV mX7_records d s00 2 [some (.ref 11), some (.int (v1 + nI 1))] [] s10 (Qv K))))))) : VV mX7_records d s00 2 [some (.ref 11), some (.int v1)] [] σ (Qv K) := by
  refine v_iload_n (q := 3) dX7_records_2 rfl rfl ?_
  refine v_iconst (v := (nI 4)) (q := 4) dX7_records_3 rfl (by decide) ?_
  refine v_icmp_ge (t := 37) (q := 7) dX7_records_4 rfl (by decide) (fun c => ?_) (fun c => ?_)
  · have h := h.1 (c)
    refine v_aload_n (q := 38) dX7_records_37 rfl rfl ?_
    refine v_dup (q := 39) dX7_records_38 rfl rfl ?_
    refine v_get (q := 42) dX7_records_39 rfl fl_7_37 rfl rfl ?_
    refine v_aload_n (q := 43) dX7_records_42 rfl rfl ?_
    refine v_get (q := 46) dX7_records_43 rfl fl_7_37 rfl rfl ?_
    refine v_iconst (v := (nI 4)) (q := 47) dX7_records_46 rfl (by decide) ?_
    refine v_icmp_ne (t := 54) (q := 50) dX7_records_47 rfl (by decide) (fun c => ?_) (fun c => ?_)
    · have h := h.1 (c)
      refine v_iconst (v := (nI 0)) (q := 55) dX7_records_54 rfl (by decide) ?_
      refine v_isub (q := 56) dX7_records_55 rfl ?_
      refine v_put (q := 59) dX7_records_56 rfl fp_7_37 rfl rfl ?_
      refine v_aload_n (q := 60) dX7_records_59 rfl rfl ?_
      refine v_dup (q := 61) dX7_records_60 rfl rfl ?_
      refine v_get (q := 64) dX7_records_61 rfl fl_7_37 rfl rfl ?_
      refine v_iconst (v := (nI 1)) (q := 65) dX7_records_64 rfl (by decide) ?_
      refine v_iadd (q := 66) dX7_records_65 rfl ?_
      refine v_put (q := 69) dX7_records_66 rfl fp_7_37 rfl rfl ?_
      refine v_aload_n (q := 70) dX7_records_69 rfl rfl ?_
      refine v_iconst (v := (nI 0)) (q := 71) dX7_records_70 rfl (by decide) ?_
      refine v_sipush (v := (nI 654)) (q := 74) dX7_records_71 rfl (by decide) ?_
      refine v_aload_n (q := 75) dX7_records_74 rfl rfl ?_
      refine v_get (q := 78) dX7_records_75 rfl fl_7_37 rfl rfl ?_
      refine v_imul (q := 79) dX7_records_78 rfl ?_
      refine v_callV (As := [.int (nI 0), .int ((nI 654) * ((sF (sF σ 7 ((σ.2.1 7) - (nI 0))) 7 (((sF σ 7 ((σ.2.1 7) - (nI 0))).2.1 7) + (nI 1))).2.1 7))]) (n := 2) (q := 82) dX7_records_79 rfl lk_7_41 hd1 rfl rfl (Nat.le_of_ble_eq_true rfl) (CT.imp h (fun r s2 h => ?_))
      obtain ⟨rfl, h⟩ := h
      show VV mX7_records d s00 82 [some (.ref 11), some (.int v1)] [] s2 (Qv K)
      exact v_ret0 dX7_records_82 rfl ⟨rfl, h⟩
    · have h := h.2 (c)
      refine v_iconst (v := (nI 1)) (q := 51) dX7_records_50 rfl (by decide) ?_
      refine v_goto (q := 55) dX7_records_51 (by decide) ?_
      refine v_isub (q := 56) dX7_records_55 rfl ?_
      refine v_put (q := 59) dX7_records_56 rfl fp_7_37 rfl rfl ?_
      refine v_aload_n (q := 60) dX7_records_59 rfl rfl ?_
      refine v_dup (q := 61) dX7_records_60 rfl rfl ?_
      refine v_get (q := 64) dX7_records_61 rfl fl_7_37 rfl rfl ?_
      refine v_iconst (v := (nI 1)) (q := 65) dX7_records_64 rfl (by decide) ?_
      refine v_iadd (q := 66) dX7_records_65 rfl ?_
      refine v_put (q := 69) dX7_records_66 rfl fp_7_37 rfl rfl ?_
      refine v_aload_n (q := 70) dX7_records_69 rfl rfl ?_
      refine v_iconst (v := (nI 0)) (q := 71) dX7_records_70 rfl (by decide) ?_
      refine v_sipush (v := (nI 654)) (q := 74) dX7_records_71 rfl (by decide) ?_
      refine v_aload_n (q := 75) dX7_records_74 rfl rfl ?_
      refine v_get (q := 78) dX7_records_75 rfl fl_7_37 rfl rfl ?_
      refine v_imul (q := 79) dX7_records_78 rfl ?_
      refine v_callV (As := [.int (nI 0), .int ((nI 654) * ((sF (sF σ 7 ((σ.2.1 7) - (nI 1))) 7 (((sF σ 7 ((σ.2.1 7) - (nI 1))).2.1 7) + (nI 1))).2.1 7))]) (n := 2) (q := 82) dX7_records_79 rfl lk_7_41 hd1 rfl rfl (Nat.le_of_ble_eq_true rfl) (CT.imp h (fun r s4 h => ?_))
      obtain ⟨rfl, h⟩ := h
      show VV mX7_records d s00 82 [some (.ref 11), some (.int v1)] [] s4 (Qv K)
      exact v_ret0 dX7_records_82 rfl ⟨rfl, h⟩
  · have h := h.2 (c)
    refine v_aload_n (q := 8) dX7_records_7 rfl rfl ?_
    refine v_get (q := 11) dX7_records_8 rfl fl_7_37 rfl rfl ?_
    refine v_iconst (v := (nI 4)) (q := 12) dX7_records_11 rfl (by decide) ?_
    refine v_icmp_ne (t := 37) (q := 15) dX7_records_12 rfl (by decide) (fun c => ?_) (fun c => ?_)
    · have h := h.1 (c)
      refine v_aload_n (q := 38) dX7_records_37 rfl rfl ?_
      refine v_dup (q := 39) dX7_records_38 rfl rfl ?_
      refine v_get (q := 42) dX7_records_39 rfl fl_7_37 rfl rfl ?_
      refine v_aload_n (q := 43) dX7_records_42 rfl rfl ?_
      refine v_get (q := 46) dX7_records_43 rfl fl_7_37 rfl rfl ?_
      refine v_iconst (v := (nI 4)) (q := 47) dX7_records_46 rfl (by decide) ?_
      refine v_icmp_ne (t := 54) (q := 50) dX7_records_47 rfl (by decide) (fun c => ?_) (fun c => ?_)
      · have h := h.1 (c)
        refine v_iconst (v := (nI 0)) (q := 55) dX7_records_54 rfl (by decide) ?_
        refine v_isub (q := 56) dX7_records_55 rfl ?_
        refine v_put (q := 59) dX7_records_56 rfl fp_7_37 rfl rfl ?_
        refine v_aload_n (q := 60) dX7_records_59 rfl rfl ?_
        refine v_dup (q := 61) dX7_records_60 rfl rfl ?_
        refine v_get (q := 64) dX7_records_61 rfl fl_7_37 rfl rfl ?_
        refine v_iconst (v := (nI 1)) (q := 65) dX7_records_64 rfl (by decide) ?_
        refine v_iadd (q := 66) dX7_records_65 rfl ?_
        refine v_put (q := 69) dX7_records_66 rfl fp_7_37 rfl rfl ?_
        refine v_aload_n (q := 70) dX7_records_69 rfl rfl ?_
        refine v_iconst (v := (nI 0)) (q := 71) dX7_records_70 rfl (by decide) ?_
        refine v_sipush (v := (nI 654)) (q := 74) dX7_records_71 rfl (by decide) ?_
        refine v_aload_n (q := 75) dX7_records_74 rfl rfl ?_
        refine v_get (q := 78) dX7_records_75 rfl fl_7_37 rfl rfl ?_
        refine v_imul (q := 79) dX7_records_78 rfl ?_
        refine v_callV (As := [.int (nI 0), .int ((nI 654) * ((sF (sF σ 7 ((σ.2.1 7) - (nI 0))) 7 (((sF σ 7 ((σ.2.1 7) - (nI 0))).2.1 7) + (nI 1))).2.1 7))]) (n := 2) (q := 82) dX7_records_79 rfl lk_7_41 hd1 rfl rfl (Nat.le_of_ble_eq_true rfl) (CT.imp h (fun r s6 h => ?_))
        obtain ⟨rfl, h⟩ := h
        show VV mX7_records d s00 82 [some (.ref 11), some (.int v1)] [] s6 (Qv K)
        exact v_ret0 dX7_records_82 rfl ⟨rfl, h⟩
      · have h := h.2 (c)
        refine v_iconst (v := (nI 1)) (q := 51) dX7_records_50 rfl (by decide) ?_
        refine v_goto (q := 55) dX7_records_51 (by decide) ?_
        refine v_isub (q := 56) dX7_records_55 rfl ?_
        refine v_put (q := 59) dX7_records_56 rfl fp_7_37 rfl rfl ?_
        refine v_aload_n (q := 60) dX7_records_59 rfl rfl ?_
        refine v_dup (q := 61) dX7_records_60 rfl rfl ?_
        refine v_get (q := 64) dX7_records_61 rfl fl_7_37 rfl rfl ?_
        refine v_iconst (v := (nI 1)) (q := 65) dX7_records_64 rfl (by decide) ?_
        refine v_iadd (q := 66) dX7_records_65 rfl ?_
        refine v_put (q := 69) dX7_records_66 rfl fp_7_37 rfl rfl ?_
        refine v_aload_n (q := 70) dX7_records_69 rfl rfl ?_
        refine v_iconst (v := (nI 0)) (q := 71) dX7_records_70 rfl (by decide) ?_
        refine v_sipush (v := (nI 654)) (q := 74) dX7_records_71 rfl (by decide) ?_
        refine v_aload_n (q := 75) dX7_records_74 rfl rfl ?_
        refine v_get (q := 78) dX7_records_75 rfl fl_7_37 rfl rfl ?_
        refine v_imul (q := 79) dX7_records_78 rfl ?_
        refine v_callV (As := [.int (nI 0), .int ((nI 654) * ((sF (sF σ 7 ((σ.2.1 7) - (nI 1))) 7 (((sF σ 7 ((σ.2.1 7) - (nI 1))).2.1 7) + (nI 1))).2.1 7))]) (n := 2) (q := 82) dX7_records_79 rfl lk_7_41 hd1 rfl rfl (Nat.le_of_ble_eq_true rfl) (CT.imp h (fun r s8 h => ?_))
        obtain ⟨rfl, h⟩ := h
        show VV mX7_records d s00 82 [some (.ref 11), some (.int v1)] [] s8 (Qv K)
        exact v_ret0 dX7_records_82 rfl ⟨rfl, h⟩
    · have h := h.2 (c)
      refine v_aload_n (q := 16) dX7_records_15 rfl rfl ?_
      refine v_sipush (v := (nI 654)) (q := 19) dX7_records_16 rfl (by decide) ?_
      refine v_iload_n (q := 20) dX7_records_19 rfl rfl ?_
      refine v_iconst (v := (nI 1)) (q := 21) dX7_records_20 rfl (by decide) ?_
      refine v_iadd (q := 22) dX7_records_21 rfl ?_
      refine v_imul (q := 23) dX7_records_22 rfl ?_
      refine v_sipush (v := (nI 654)) (q := 26) dX7_records_23 rfl (by decide) ?_
      refine v_iload_n (q := 27) dX7_records_26 rfl rfl ?_
      refine v_imul (q := 28) dX7_records_27 rfl ?_
      refine v_callV (As := [.int ((nI 654) * (v1 + (nI 1))), .int ((nI 654) * v1)]) (n := 2) (q := 31) dX7_records_28 rfl lk_7_41 hd1 rfl rfl (Nat.le_of_ble_eq_true rfl) (CT.imp h (fun r s10 h => ?_))
      obtain ⟨rfl, h⟩ := h
      show VV mX7_records d s00 31 [some (.ref 11), some (.int v1)] [] s10 (Qv K)
      refine v_iinc (y := (v1 + nI 1)) (q := 34) dX7_records_31 rfl rfl (congrArg (fun z => v1 + z) (by decide)) (by decide) rfl ?_
      refine v_goto (q := 2) dX7_records_34 (by decide) ?_
      exact h
set_option maxRecDepth 20000 in
theorem bX7_isMember_0 {d : Nat} {σ : SS} {K : Int32 → SS → Prop} (p1 : Int32)  (hd1 : 1 ≤ d) (h : (vp_in (nI 0) 3270) ∧ (CTi mX7_in (d - 1) [.int p1, .int (nI 0), .int ((σ.1 37 (nI 0).toNatClampNeg) - (nI 1))] σ (fun x1 s2 => (x1 = 0 ∨ x1 = 1) ∧ K x1 s2))) : VV mX7_isMember d s00 0 [some (.ref 11), some (.int p1)] [] σ (Qi K) := by
  refine v_iload_n (q := 1) dX7_isMember_0 rfl rfl ?_
  refine v_iconst (v := (nI 0)) (q := 2) dX7_isMember_1 rfl (by decide) ?_
  refine v_aload_n (q := 3) dX7_isMember_2 rfl rfl ?_
  refine v_get (q := 6) dX7_isMember_3 rfl fl_7_7 rfl rfl ?_
  refine v_iconst (v := (nI 0)) (q := 7) dX7_isMember_6 rfl (by decide) ?_
  refine v_iald (q := 8) dX7_isMember_7 rfl (isI_d rfl) h.1 ?_
  have h := h.2
  refine v_iconst (v := (nI 1)) (q := 9) dX7_isMember_8 rfl (by decide) ?_
  refine v_isub (q := 10) dX7_isMember_9 rfl ?_
  refine v_callS (As := [.int p1, .int (nI 0), .int ((σ.1 37 (nI 0).toNatClampNeg) - (nI 1))]) (n := 3) (q := 13) dX7_isMember_10 rfl lk_7_45 hd1 rfl (Nat.le_of_ble_eq_true rfl) (CT.imp h (fun r s2 h => ?_))
  obtain ⟨x1, rfl, h⟩ := h
  show VV mX7_isMember d s00 13 [some (.ref 11), some (.int p1)] [.int x1] s2 (Qi K)
  exact v_zret dX7_isMember_13 rfl h.1 ⟨_, rfl, h.2⟩
theorem eX7_isMember {d : Nat} {σ : SS} {K : Int32 → SS → Prop} (p1 : Int32)  (hd1 : 1 ≤ d) (h : (vp_in (nI 0) 3270) ∧ (CTi mX7_in (d - 1) [.int p1, .int (nI 0), .int ((σ.1 37 (nI 0).toNatClampNeg) - (nI 1))] σ (fun x1 s2 => (x1 = 0 ∨ x1 = 1) ∧ K x1 s2))) : CTi mX7_isMember d [.ref 11, .int p1] σ K := CT_of (Q := (Qi K)) (by decide +kernel) rfl (by decide) (Nat.le_of_ble_eq_true rfl) rfl (bX7_isMember_0 p1 hd1 h)
set_option maxRecDepth 20000 in
theorem bX7_isPhrase_0 {d : Nat} {σ : SS} {K : Int32 → SS → Prop} (p1 : Int32)  (hd1 : 1 ≤ d) (h : (vp_in (nI 1) 3270) ∧ (CTi mX7_in (d - 1) [.int p1, .int (nI 0), .int ((σ.1 37 (nI 1).toNatClampNeg) - (nI 1))] σ (fun x1 s2 => (x1 = 0 ∨ x1 = 1) ∧ K x1 s2))) : VV mX7_isPhrase d s00 0 [some (.ref 11), some (.int p1)] [] σ (Qi K) := by
  refine v_iload_n (q := 1) dX7_isPhrase_0 rfl rfl ?_
  refine v_iconst (v := (nI 0)) (q := 2) dX7_isPhrase_1 rfl (by decide) ?_
  refine v_aload_n (q := 3) dX7_isPhrase_2 rfl rfl ?_
  refine v_get (q := 6) dX7_isPhrase_3 rfl fl_7_7 rfl rfl ?_
  refine v_iconst (v := (nI 1)) (q := 7) dX7_isPhrase_6 rfl (by decide) ?_
  refine v_iald (q := 8) dX7_isPhrase_7 rfl (isI_d rfl) h.1 ?_
  have h := h.2
  refine v_iconst (v := (nI 1)) (q := 9) dX7_isPhrase_8 rfl (by decide) ?_
  refine v_isub (q := 10) dX7_isPhrase_9 rfl ?_
  refine v_callS (As := [.int p1, .int (nI 0), .int ((σ.1 37 (nI 1).toNatClampNeg) - (nI 1))]) (n := 3) (q := 13) dX7_isPhrase_10 rfl lk_7_45 hd1 rfl (Nat.le_of_ble_eq_true rfl) (CT.imp h (fun r s2 h => ?_))
  obtain ⟨x1, rfl, h⟩ := h
  show VV mX7_isPhrase d s00 13 [some (.ref 11), some (.int p1)] [.int x1] s2 (Qi K)
  exact v_zret dX7_isPhrase_13 rfl h.1 ⟨_, rfl, h.2⟩
theorem eX7_isPhrase {d : Nat} {σ : SS} {K : Int32 → SS → Prop} (p1 : Int32)  (hd1 : 1 ≤ d) (h : (vp_in (nI 1) 3270) ∧ (CTi mX7_in (d - 1) [.int p1, .int (nI 0), .int ((σ.1 37 (nI 1).toNatClampNeg) - (nI 1))] σ (fun x1 s2 => (x1 = 0 ∨ x1 = 1) ∧ K x1 s2))) : CTi mX7_isPhrase d [.ref 11, .int p1] σ K := CT_of (Q := (Qi K)) (by decide +kernel) rfl (by decide) (Nat.le_of_ble_eq_true rfl) rfl (bX7_isPhrase_0 p1 hd1 h)
set_option maxRecDepth 20000 in
theorem bX7_of_0 {d : Nat} {σ : SS} {K : Int32 → SS → Prop} (p1 : Int32) (p2 : Int32)   (h : (vp_in (((nI 22) + ((nI 16) * p1)) + p2) 3270) ∧ (K (σ.1 37 (((nI 22) + ((nI 16) * p1)) + p2).toNatClampNeg) σ)) : VV mX7_of d s00 0 [some (.ref 11), some (.int p1), some (.int p2)] [] σ (Qi K) := by
  refine v_aload_n (q := 1) dX7_of_0 rfl rfl ?_
  refine v_get (q := 4) dX7_of_1 rfl fl_7_7 rfl rfl ?_
  refine v_bipush (v := (nI 22)) (q := 6) dX7_of_4 rfl (by decide) ?_
  refine v_bipush (v := (nI 16)) (q := 8) dX7_of_6 rfl (by decide) ?_
  refine v_iload_n (q := 9) dX7_of_8 rfl rfl ?_
  refine v_imul (q := 10) dX7_of_9 rfl ?_
  refine v_iadd (q := 11) dX7_of_10 rfl ?_
  refine v_iload_n (q := 12) dX7_of_11 rfl rfl ?_
  refine v_iadd (q := 13) dX7_of_12 rfl ?_
  refine v_iald (q := 14) dX7_of_13 rfl (isI_d rfl) h.1 ?_
  have h := h.2
  exact v_iret dX7_of_14 rfl ⟨_, rfl, h⟩
theorem eX7_of {d : Nat} {σ : SS} {K : Int32 → SS → Prop} (p1 : Int32) (p2 : Int32)   (h : (vp_in (((nI 22) + ((nI 16) * p1)) + p2) 3270) ∧ (K (σ.1 37 (((nI 22) + ((nI 16) * p1)) + p2).toNatClampNeg) σ)) : CTi mX7_of d [.ref 11, .int p1, .int p2] σ K := CT_of (Q := (Qi K)) (by decide +kernel) rfl (by decide) (Nat.le_of_ble_eq_true rfl) rfl (bX7_of_0 p1 p2  h)
set_option maxRecDepth 20000 in
theorem bX7_ofNote_0 {d : Nat} {σ : SS} {K : Int32 → SS → Prop} (p1 : Int32) (p2 : Int32)   (h : (vp_in (((nI 342) + ((nI 13) * p1)) + p2) 3270) ∧ (K (σ.1 37 (((nI 342) + ((nI 13) * p1)) + p2).toNatClampNeg) σ)) : VV mX7_ofNote d s00 0 [some (.ref 11), some (.int p1), some (.int p2)] [] σ (Qi K) := by
  refine v_aload_n (q := 1) dX7_ofNote_0 rfl rfl ?_
  refine v_get (q := 4) dX7_ofNote_1 rfl fl_7_7 rfl rfl ?_
  refine v_sipush (v := (nI 342)) (q := 7) dX7_ofNote_4 rfl (by decide) ?_
  refine v_bipush (v := (nI 13)) (q := 9) dX7_ofNote_7 rfl (by decide) ?_
  refine v_iload_n (q := 10) dX7_ofNote_9 rfl rfl ?_
  refine v_imul (q := 11) dX7_ofNote_10 rfl ?_
  refine v_iadd (q := 12) dX7_ofNote_11 rfl ?_
  refine v_iload_n (q := 13) dX7_ofNote_12 rfl rfl ?_
  refine v_iadd (q := 14) dX7_ofNote_13 rfl ?_
  refine v_iald (q := 15) dX7_ofNote_14 rfl (isI_d rfl) h.1 ?_
  have h := h.2
  exact v_iret dX7_ofNote_15 rfl ⟨_, rfl, h⟩
theorem eX7_ofNote {d : Nat} {σ : SS} {K : Int32 → SS → Prop} (p1 : Int32) (p2 : Int32)   (h : (vp_in (((nI 342) + ((nI 13) * p1)) + p2) 3270) ∧ (K (σ.1 37 (((nI 342) + ((nI 13) * p1)) + p2).toNatClampNeg) σ)) : CTi mX7_ofNote d [.ref 11, .int p1, .int p2] σ K := CT_of (Q := (Qi K)) (by decide +kernel) rfl (by decide) (Nat.le_of_ble_eq_true rfl) rfl (bX7_ofNote_0 p1 p2  h)
set_option maxRecDepth 20000 in
theorem bX7_price_0 {d : Nat} {σ : SS} {K : Int32 → SS → Prop} (p1 : Int32)   (h : (vp_in ((nI 10) + ((nI 2) * p1)) 3270) ∧ (K (σ.1 37 ((nI 10) + ((nI 2) * p1)).toNatClampNeg) σ)) : VV mX7_price d s00 0 [some (.ref 11), some (.int p1)] [] σ (Qi K) := by
  refine v_aload_n (q := 1) dX7_price_0 rfl rfl ?_
  refine v_get (q := 4) dX7_price_1 rfl fl_7_7 rfl rfl ?_
  refine v_bipush (v := (nI 10)) (q := 6) dX7_price_4 rfl (by decide) ?_
  refine v_iconst (v := (nI 2)) (q := 7) dX7_price_6 rfl (by decide) ?_
  refine v_iload_n (q := 8) dX7_price_7 rfl rfl ?_
  refine v_imul (q := 9) dX7_price_8 rfl ?_
  refine v_iadd (q := 10) dX7_price_9 rfl ?_
  refine v_iald (q := 11) dX7_price_10 rfl (isI_d rfl) h.1 ?_
  have h := h.2
  exact v_iret dX7_price_11 rfl ⟨_, rfl, h⟩
theorem eX7_price {d : Nat} {σ : SS} {K : Int32 → SS → Prop} (p1 : Int32)   (h : (vp_in ((nI 10) + ((nI 2) * p1)) 3270) ∧ (K (σ.1 37 ((nI 10) + ((nI 2) * p1)).toNatClampNeg) σ)) : CTi mX7_price d [.ref 11, .int p1] σ K := CT_of (Q := (Qi K)) (by decide +kernel) rfl (by decide) (Nat.le_of_ble_eq_true rfl) rfl (bX7_price_0 p1  h)
set_option maxRecDepth 20000 in
theorem bX7_pays_0 {d : Nat} {σ : SS} {K : SS → Prop} (p1 : Int32) (p2 : Int32)   (h : (vp_in (((nI 10) + ((nI 2) * p1)) + (nI 1)) 3270) ∧ ((vp_in (((nI 10) + ((nI 2) * p1)) + (nI 1)) 3270) ∧ (K (sA σ 37 (((nI 10) + ((nI 2) * p1)) + (nI 1)).toNatClampNeg ((σ.1 37 (((nI 10) + ((nI 2) * p1)) + (nI 1)).toNatClampNeg) + p2))))) : VV mX7_pays d s00 0 [some (.ref 11), some (.int p1), some (.int p2)] [] σ (Qv K) := by
  refine v_aload_n (q := 1) dX7_pays_0 rfl rfl ?_
  refine v_get (q := 4) dX7_pays_1 rfl fl_7_7 rfl rfl ?_
  refine v_bipush (v := (nI 10)) (q := 6) dX7_pays_4 rfl (by decide) ?_
  refine v_iconst (v := (nI 2)) (q := 7) dX7_pays_6 rfl (by decide) ?_
  refine v_iload_n (q := 8) dX7_pays_7 rfl rfl ?_
  refine v_imul (q := 9) dX7_pays_8 rfl ?_
  refine v_iadd (q := 10) dX7_pays_9 rfl ?_
  refine v_iconst (v := (nI 1)) (q := 11) dX7_pays_10 rfl (by decide) ?_
  refine v_iadd (q := 12) dX7_pays_11 rfl ?_
  refine v_dup2 (q := 13) dX7_pays_12 rfl rfl rfl ?_
  refine v_iald (q := 14) dX7_pays_13 rfl (isI_d rfl) h.1 ?_
  have h := h.2
  refine v_iload_n (q := 15) dX7_pays_14 rfl rfl ?_
  refine v_iadd (q := 16) dX7_pays_15 rfl ?_
  refine v_iast (q := 17) dX7_pays_16 rfl (isI_d rfl) h.1 ?_
  have h := h.2
  exact v_ret0 dX7_pays_17 rfl ⟨rfl, h⟩
theorem eX7_pays {d : Nat} {σ : SS} {K : SS → Prop} (p1 : Int32) (p2 : Int32)   (h : (vp_in (((nI 10) + ((nI 2) * p1)) + (nI 1)) 3270) ∧ ((vp_in (((nI 10) + ((nI 2) * p1)) + (nI 1)) 3270) ∧ (K (sA σ 37 (((nI 10) + ((nI 2) * p1)) + (nI 1)).toNatClampNeg ((σ.1 37 (((nI 10) + ((nI 2) * p1)) + (nI 1)).toNatClampNeg) + p2))))) : CTv mX7_pays d [.ref 11, .int p1, .int p2] σ K := CT_of (Q := (Qv K)) (by decide +kernel) rfl (by decide) (Nat.le_of_ble_eq_true rfl) rfl (bX7_pays_0 p1 p2  h)
set_option maxRecDepth 20000 in
theorem bX7_setsOne_0 {d : Nat} {σ : SS} {K : SS → Prop} (p1 : Int32)  (hd1 : 1 ≤ d) (h : CTi mX7_of (d - 1) [.ref 11, .int p1, .int (nI 1)] σ (fun x1 s2 => VV mX7_setsOne d s00 12 [some (.ref 11), some (.int p1), some (.int (nI 0))] [] (sF s2 8 x1) (Qv K))) : VV mX7_setsOne d s00 0 [some (.ref 11), some (.int p1), none] [] σ (Qv K) := by
  refine v_aload_n (q := 1) dX7_setsOne_0 rfl rfl ?_
  refine v_aload_n (q := 2) dX7_setsOne_1 rfl rfl ?_
  refine v_iload_n (q := 3) dX7_setsOne_2 rfl rfl ?_
  refine v_iconst (v := (nI 1)) (q := 4) dX7_setsOne_3 rfl (by decide) ?_
  refine v_callV (As := [.int p1, .int (nI 1)]) (n := 2) (q := 7) dX7_setsOne_4 rfl lk_7_49 hd1 rfl rfl (Nat.le_of_ble_eq_true rfl) (CT.imp h (fun r s2 h => ?_))
  obtain ⟨x1, rfl, h⟩ := h
  show VV mX7_setsOne d s00 7 [some (.ref 11), some (.int p1), none] [.int x1, .ref 11] s2 (Qv K)
  refine v_put (q := 10) dX7_setsOne_7 rfl fp_7_53 rfl rfl ?_
  refine v_iconst (v := (nI 0)) (q := 11) dX7_setsOne_10 rfl (by decide) ?_
  refine v_istore_n (q := 12) dX7_setsOne_11 rfl (by decide) rfl ?_
  exact h
theorem eX7_setsOne {d : Nat} {σ : SS} {K : SS → Prop} (p1 : Int32)  (hd1 : 1 ≤ d) (h : CTi mX7_of (d - 1) [.ref 11, .int p1, .int (nI 1)] σ (fun x1 s2 => VV mX7_setsOne d s00 12 [some (.ref 11), some (.int p1), some (.int (nI 0))] [] (sF s2 8 x1) (Qv K))) : CTv mX7_setsOne d [.ref 11, .int p1] σ K := CT_of (Q := (Qv K)) (by decide +kernel) rfl (by decide) (Nat.le_of_ble_eq_true rfl) rfl (bX7_setsOne_0 p1 hd1 h)
set_option maxRecDepth 20000 in
theorem bX7_setsOne_12 {d : Nat} {σ : SS} {K : SS → Prop} (v1 : Int32) (v2 : Int32)  (hd1 : 1 ≤ d) (h : (((σ.2.1 8) ≤ v2) → (K σ)) ∧ ((¬ (σ.2.1 8) ≤ v2) → (CTi mX7_of (d - 1) [.ref 11, .int v1, .int ((nI 6) + v2)] σ (fun x1 s2 => (vp_in v2 10) ∧ (VV mX7_setsOne d s00 12 [some (.ref 11), some (.int v1), some (.int (v2 + nI 1))] [] (sA s2 38 v2.toNatClampNeg x1) (Qv K)))))) : VV mX7_setsOne d s00 12 [some (.ref 11), some (.int v1), some (.int v2)] [] σ (Qv K) := by
  refine v_iload_n (q := 13) dX7_setsOne_12 rfl rfl ?_
  refine v_aload_n (q := 14) dX7_setsOne_13 rfl rfl ?_
  refine v_get (q := 17) dX7_setsOne_14 rfl fl_7_53 rfl rfl ?_
  refine v_icmp_ge (t := 41) (q := 20) dX7_setsOne_17 rfl (by decide) (fun c => ?_) (fun c => ?_)
  · have h := h.1 (c)
    exact v_ret0 dX7_setsOne_41 rfl ⟨rfl, h⟩
  · have h := h.2 (c)
    refine v_aload_n (q := 21) dX7_setsOne_20 rfl rfl ?_
    refine v_get (q := 24) dX7_setsOne_21 rfl fl_7_13 rfl rfl ?_
    refine v_iload_n (q := 25) dX7_setsOne_24 rfl rfl ?_
    refine v_aload_n (q := 26) dX7_setsOne_25 rfl rfl ?_
    refine v_iload_n (q := 27) dX7_setsOne_26 rfl rfl ?_
    refine v_bipush (v := (nI 6)) (q := 29) dX7_setsOne_27 rfl (by decide) ?_
    refine v_iload_n (q := 30) dX7_setsOne_29 rfl rfl ?_
    refine v_iadd (q := 31) dX7_setsOne_30 rfl ?_
    refine v_callV (As := [.int v1, .int ((nI 6) + v2)]) (n := 2) (q := 34) dX7_setsOne_31 rfl lk_7_49 hd1 rfl rfl (Nat.le_of_ble_eq_true rfl) (CT.imp h (fun r s2 h => ?_))
    obtain ⟨x1, rfl, h⟩ := h
    show VV mX7_setsOne d s00 34 [some (.ref 11), some (.int v1), some (.int v2)] [.int x1, .int v2, .ref 38] s2 (Qv K)
    refine v_iast (q := 35) dX7_setsOne_34 rfl (isI_d rfl) h.1 ?_
    have h := h.2
    refine v_iinc (y := (v2 + nI 1)) (q := 38) dX7_setsOne_35 rfl rfl (congrArg (fun z => v2 + z) (by decide)) (by decide) rfl ?_
    refine v_goto (q := 12) dX7_setsOne_38 (by decide) ?_
    exact h
set_option maxRecDepth 20000 in
theorem bX7_setsOther_0 {d : Nat} {σ : SS} {K : SS → Prop} (p1 : Int32)  (hd1 : 1 ≤ d) (h : CTi mX7_of (d - 1) [.ref 11, .int p1, .int (nI 1)] σ (fun x1 s2 => VV mX7_setsOther d s00 12 [some (.ref 11), some (.int p1), some (.int (nI 0))] [] (sF s2 9 x1) (Qv K))) : VV mX7_setsOther d s00 0 [some (.ref 11), some (.int p1), none] [] σ (Qv K) := by
  refine v_aload_n (q := 1) dX7_setsOther_0 rfl rfl ?_
  refine v_aload_n (q := 2) dX7_setsOther_1 rfl rfl ?_
  refine v_iload_n (q := 3) dX7_setsOther_2 rfl rfl ?_
  refine v_iconst (v := (nI 1)) (q := 4) dX7_setsOther_3 rfl (by decide) ?_
  refine v_callV (As := [.int p1, .int (nI 1)]) (n := 2) (q := 7) dX7_setsOther_4 rfl lk_7_49 hd1 rfl rfl (Nat.le_of_ble_eq_true rfl) (CT.imp h (fun r s2 h => ?_))
  obtain ⟨x1, rfl, h⟩ := h
  show VV mX7_setsOther d s00 7 [some (.ref 11), some (.int p1), none] [.int x1, .ref 11] s2 (Qv K)
  refine v_put (q := 10) dX7_setsOther_7 rfl fp_7_56 rfl rfl ?_
  refine v_iconst (v := (nI 0)) (q := 11) dX7_setsOther_10 rfl (by decide) ?_
  refine v_istore_n (q := 12) dX7_setsOther_11 rfl (by decide) rfl ?_
  exact h
theorem eX7_setsOther {d : Nat} {σ : SS} {K : SS → Prop} (p1 : Int32)  (hd1 : 1 ≤ d) (h : CTi mX7_of (d - 1) [.ref 11, .int p1, .int (nI 1)] σ (fun x1 s2 => VV mX7_setsOther d s00 12 [some (.ref 11), some (.int p1), some (.int (nI 0))] [] (sF s2 9 x1) (Qv K))) : CTv mX7_setsOther d [.ref 11, .int p1] σ K := CT_of (Q := (Qv K)) (by decide +kernel) rfl (by decide) (Nat.le_of_ble_eq_true rfl) rfl (bX7_setsOther_0 p1 hd1 h)
set_option maxRecDepth 20000 in
theorem bX7_setsOther_12 {d : Nat} {σ : SS} {K : SS → Prop} (v1 : Int32) (v2 : Int32)  (hd1 : 1 ≤ d) (h : (((σ.2.1 9) ≤ v2) → (K σ)) ∧ ((¬ (σ.2.1 9) ≤ v2) → (CTi mX7_of (d - 1) [.ref 11, .int v1, .int ((nI 6) + v2)] σ (fun x1 s2 => (vp_in v2 10) ∧ (VV mX7_setsOther d s00 12 [some (.ref 11), some (.int v1), some (.int (v2 + nI 1))] [] (sA s2 39 v2.toNatClampNeg x1) (Qv K)))))) : VV mX7_setsOther d s00 12 [some (.ref 11), some (.int v1), some (.int v2)] [] σ (Qv K) := by
  refine v_iload_n (q := 13) dX7_setsOther_12 rfl rfl ?_
  refine v_aload_n (q := 14) dX7_setsOther_13 rfl rfl ?_
  refine v_get (q := 17) dX7_setsOther_14 rfl fl_7_56 rfl rfl ?_
  refine v_icmp_ge (t := 41) (q := 20) dX7_setsOther_17 rfl (by decide) (fun c => ?_) (fun c => ?_)
  · have h := h.1 (c)
    exact v_ret0 dX7_setsOther_41 rfl ⟨rfl, h⟩
  · have h := h.2 (c)
    refine v_aload_n (q := 21) dX7_setsOther_20 rfl rfl ?_
    refine v_get (q := 24) dX7_setsOther_21 rfl fl_7_16 rfl rfl ?_
    refine v_iload_n (q := 25) dX7_setsOther_24 rfl rfl ?_
    refine v_aload_n (q := 26) dX7_setsOther_25 rfl rfl ?_
    refine v_iload_n (q := 27) dX7_setsOther_26 rfl rfl ?_
    refine v_bipush (v := (nI 6)) (q := 29) dX7_setsOther_27 rfl (by decide) ?_
    refine v_iload_n (q := 30) dX7_setsOther_29 rfl rfl ?_
    refine v_iadd (q := 31) dX7_setsOther_30 rfl ?_
    refine v_callV (As := [.int v1, .int ((nI 6) + v2)]) (n := 2) (q := 34) dX7_setsOther_31 rfl lk_7_49 hd1 rfl rfl (Nat.le_of_ble_eq_true rfl) (CT.imp h (fun r s2 h => ?_))
    obtain ⟨x1, rfl, h⟩ := h
    show VV mX7_setsOther d s00 34 [some (.ref 11), some (.int v1), some (.int v2)] [.int x1, .int v2, .ref 39] s2 (Qv K)
    refine v_iast (q := 35) dX7_setsOther_34 rfl (isI_d rfl) h.1 ?_
    have h := h.2
    refine v_iinc (y := (v2 + nI 1)) (q := 38) dX7_setsOther_35 rfl rfl (congrArg (fun z => v2 + z) (by decide)) (by decide) rfl ?_
    refine v_goto (q := 12) dX7_setsOther_38 (by decide) ?_
    exact h
set_option maxRecDepth 20000 in
theorem bX7_setsText_0 {d : Nat} {σ : SS} {K : SS → Prop}    (h : VV mX7_setsText d s00 7 [some (.ref 11), some (.int (nI 0))] [] (sF σ 8 (nI 0)) (Qv K)) : VV mX7_setsText d s00 0 [some (.ref 11), none] [] σ (Qv K) := by
  refine v_aload_n (q := 1) dX7_setsText_0 rfl rfl ?_
  refine v_iconst (v := (nI 0)) (q := 2) dX7_setsText_1 rfl (by decide) ?_
  refine v_put (q := 5) dX7_setsText_2 rfl fp_7_53 rfl rfl ?_
  refine v_iconst (v := (nI 0)) (q := 6) dX7_setsText_5 rfl (by decide) ?_
  refine v_istore_n (q := 7) dX7_setsText_6 rfl (by decide) rfl ?_
  exact h
theorem eX7_setsText {d : Nat} {σ : SS} {K : SS → Prop}    (h : VV mX7_setsText d s00 7 [some (.ref 11), some (.int (nI 0))] [] (sF σ 8 (nI 0)) (Qv K)) : CTv mX7_setsText d [.ref 11] σ K := CT_of (Q := (Qv K)) (by decide +kernel) rfl (by decide) (Nat.le_of_ble_eq_true rfl) rfl (bX7_setsText_0   h)
set_option maxRecDepth 20000 in
theorem bX7_setsText_7 {d : Nat} {σ : SS} {K : SS → Prop} (v1 : Int32)   (h : (((σ.2.1 10) ≤ v1) → (K σ)) ∧ ((¬ (σ.2.1 10) ≤ v1) → ((vp_in v1 40) ∧ ((((σ.1 45 v1.toNatClampNeg) = (nI 32)) → (VV mX7_setsText d s00 7 [some (.ref 11), some (.int (v1 + nI 1))] [] σ (Qv K))) ∧ ((¬ (σ.1 45 v1.toNatClampNeg) = (nI 32)) → ((vp_in v1 40) ∧ ((vp_in (σ.2.1 8) 10) ∧ (VV mX7_setsText d s00 7 [some (.ref 11), some (.int (v1 + nI 1))] [] (sF (sA σ 38 (σ.2.1 8).toNatClampNeg ((σ.1 45 v1.toNatClampNeg) - (nI 97))) 8 (((sA σ 38 (σ.2.1 8).toNatClampNeg ((σ.1 45 v1.toNatClampNeg) - (nI 97))).2.1 8) + (nI 1))) (Qv K))))))))) : VV mX7_setsText d s00 7 [some (.ref 11), some (.int v1)] [] σ (Qv K) := by
  refine v_iload_n (q := 8) dX7_setsText_7 rfl rfl ?_
  refine v_aload_n (q := 9) dX7_setsText_8 rfl rfl ?_
  refine v_get (q := 12) dX7_setsText_9 rfl fl_7_59 rfl rfl ?_
  refine v_icmp_ge (t := 60) (q := 15) dX7_setsText_12 rfl (by decide) (fun c => ?_) (fun c => ?_)
  · have h := h.1 (c)
    exact v_ret0 dX7_setsText_60 rfl ⟨rfl, h⟩
  · have h := h.2 (c)
    refine v_aload_n (q := 16) dX7_setsText_15 rfl rfl ?_
    refine v_get (q := 19) dX7_setsText_16 rfl fl_7_34 rfl rfl ?_
    refine v_iload_n (q := 20) dX7_setsText_19 rfl rfl ?_
    refine v_iald (q := 21) dX7_setsText_20 rfl (isI_d rfl) h.1 ?_
    have h := h.2
    refine v_bipush (v := (nI 32)) (q := 23) dX7_setsText_21 rfl (by decide) ?_
    refine v_icmp_eq (t := 54) (q := 26) dX7_setsText_23 rfl (by decide) (fun c => ?_) (fun c => ?_)
    · have h := h.1 (c)
      refine v_iinc (y := (v1 + nI 1)) (q := 57) dX7_setsText_54 rfl rfl (congrArg (fun z => v1 + z) (by decide)) (by decide) rfl ?_
      refine v_goto (q := 7) dX7_setsText_57 (by decide) ?_
      exact h
    · have h := h.2 (c)
      refine v_aload_n (q := 27) dX7_setsText_26 rfl rfl ?_
      refine v_get (q := 30) dX7_setsText_27 rfl fl_7_13 rfl rfl ?_
      refine v_aload_n (q := 31) dX7_setsText_30 rfl rfl ?_
      refine v_get (q := 34) dX7_setsText_31 rfl fl_7_53 rfl rfl ?_
      refine v_aload_n (q := 35) dX7_setsText_34 rfl rfl ?_
      refine v_get (q := 38) dX7_setsText_35 rfl fl_7_34 rfl rfl ?_
      refine v_iload_n (q := 39) dX7_setsText_38 rfl rfl ?_
      refine v_iald (q := 40) dX7_setsText_39 rfl (isI_d rfl) h.1 ?_
      have h := h.2
      refine v_bipush (v := (nI 97)) (q := 42) dX7_setsText_40 rfl (by decide) ?_
      refine v_isub (q := 43) dX7_setsText_42 rfl ?_
      refine v_iast (q := 44) dX7_setsText_43 rfl (isI_d rfl) h.1 ?_
      have h := h.2
      refine v_aload_n (q := 45) dX7_setsText_44 rfl rfl ?_
      refine v_dup (q := 46) dX7_setsText_45 rfl rfl ?_
      refine v_get (q := 49) dX7_setsText_46 rfl fl_7_53 rfl rfl ?_
      refine v_iconst (v := (nI 1)) (q := 50) dX7_setsText_49 rfl (by decide) ?_
      refine v_iadd (q := 51) dX7_setsText_50 rfl ?_
      refine v_put (q := 54) dX7_setsText_51 rfl fp_7_53 rfl rfl ?_
      refine v_iinc (y := (v1 + nI 1)) (q := 57) dX7_setsText_54 rfl rfl (congrArg (fun z => v1 + z) (by decide)) (by decide) rfl ?_
      refine v_goto (q := 7) dX7_setsText_57 (by decide) ?_
      exact h
set_option maxRecDepth 20000 in
theorem bX7_least_0 {d : Nat} {σ : SS} {K : Int32 → SS → Prop} (p1 : Int32) (p2 : Int32)   (h : ((p2 ≤ p1) → (K p2 σ)) ∧ ((¬ p2 ≤ p1) → (K p1 σ))) : VV mX7_least d s00 0 [some (.int p1), some (.int p2)] [] σ (Qi K) := by
  refine v_iload_n (q := 1) dX7_least_0 rfl rfl ?_
  refine v_iload_n (q := 2) dX7_least_1 rfl rfl ?_
  refine v_icmp_ge (t := 9) (q := 5) dX7_least_2 rfl (by decide) (fun c => ?_) (fun c => ?_)
  · have h := h.1 (c)
    refine v_iload_n (q := 10) dX7_least_9 rfl rfl ?_
    exact v_iret dX7_least_10 rfl ⟨_, rfl, h⟩
  · have h := h.2 (c)
    refine v_iload_n (q := 6) dX7_least_5 rfl rfl ?_
    refine v_goto (q := 10) dX7_least_6 (by decide) ?_
    exact v_iret dX7_least_10 rfl ⟨_, rfl, h⟩
theorem eX7_least {d : Nat} {σ : SS} {K : Int32 → SS → Prop} (p1 : Int32) (p2 : Int32)   (h : ((p2 ≤ p1) → (K p2 σ)) ∧ ((¬ p2 ≤ p1) → (K p1 σ))) : CTi mX7_least d [.int p1, .int p2] σ K := CT_of (Q := (Qi K)) (by decide +kernel) rfl (by decide) (Nat.le_of_ble_eq_true rfl) rfl (bX7_least_0 p1 p2  h)
set_option maxRecDepth 20000 in
theorem bX7_scoreNow_0 {d : Nat} {σ : SS} {K : Int32 → SS → Prop}    (h : VV mX7_scoreNow d s00 2 [some (.ref 11), some (.int (nI 0)), none, none, none] [] σ (Qi K)) : VV mX7_scoreNow d s00 0 [some (.ref 11), none, none, none, none] [] σ (Qi K) := by
  refine v_iconst (v := (nI 0)) (q := 1) dX7_scoreNow_0 rfl (by decide) ?_
  refine v_istore_n (q := 2) dX7_scoreNow_1 rfl (by decide) rfl ?_
  exact h
theorem eX7_scoreNow {d : Nat} {σ : SS} {K : Int32 → SS → Prop}    (h : VV mX7_scoreNow d s00 2 [some (.ref 11), some (.int (nI 0)), none, none, none] [] σ (Qi K)) : CTi mX7_scoreNow d [.ref 11] σ K := CT_of (Q := (Qi K)) (by decide +kernel) rfl (by decide) (Nat.le_of_ble_eq_true rfl) rfl (bX7_scoreNow_0   h)
set_option maxRecDepth 20000 in
theorem bX7_scoreNow_2 {d : Nat} {σ : SS} {K : Int32 → SS → Prop} (v1 : Int32)   (h : (((σ.2.1 8) < v1) → (VV mX7_scoreNow d s00 150 [some (.ref 11), some (.int v1), none, none, none] [] σ (Qi K))) ∧ ((¬ (σ.2.1 8) < v1) → (VV mX7_scoreNow d s00 12 [some (.ref 11), some (.int v1), some (.int (nI 0)), none, none] [] σ (Qi K)))) : VV mX7_scoreNow d s00 2 [some (.ref 11), some (.int v1), none, none, none] [] σ (Qi K) := by
  refine v_iload_n (q := 3) dX7_scoreNow_2 rfl rfl ?_
  refine v_aload_n (q := 4) dX7_scoreNow_3 rfl rfl ?_
  refine v_get (q := 7) dX7_scoreNow_4 rfl fl_7_53 rfl rfl ?_
  refine v_icmp_gt (t := 150) (q := 10) dX7_scoreNow_7 rfl (by decide) (fun c => ?_) (fun c => ?_)
  · have h := h.1 (c)
    exact h
  · have h := h.2 (c)
    refine v_iconst (v := (nI 0)) (q := 11) dX7_scoreNow_10 rfl (by decide) ?_
    refine v_istore_n (q := 12) dX7_scoreNow_11 rfl (by decide) rfl ?_
    exact h
set_option maxRecDepth 20000 in
theorem bX7_scoreNow_12 {d : Nat} {σ : SS} {K : Int32 → SS → Prop} (v1 : Int32) (v2 : Int32)   (h : (((σ.2.1 9) < v2) → (VV mX7_scoreNow d s00 2 [some (.ref 11), some (.int (v1 + nI 1)), none, none, none] [] σ (Qi K))) ∧ ((¬ (σ.2.1 9) < v2) → (((¬ v1 = 0) → (((¬ v2 = 0) → (VV mX7_scoreNow d s00 39 [some (.ref 11), some (.int v1), some (.int v2), some (.int (nI 99)), none] [] σ (Qi K))) ∧ ((v2 = 0) → (VV mX7_scoreNow d s00 39 [some (.ref 11), some (.int v1), some (.int v2), some (.int v1), none] [] σ (Qi K))))) ∧ ((v1 = 0) → (VV mX7_scoreNow d s00 39 [some (.ref 11), some (.int v1), some (.int v2), some (.int v2), none] [] σ (Qi K)))))) : VV mX7_scoreNow d s00 12 [some (.ref 11), some (.int v1), some (.int v2), none, none] [] σ (Qi K) := by
  refine v_iload_n (q := 13) dX7_scoreNow_12 rfl rfl ?_
  refine v_aload_n (q := 14) dX7_scoreNow_13 rfl rfl ?_
  refine v_get (q := 17) dX7_scoreNow_14 rfl fl_7_56 rfl rfl ?_
  refine v_icmp_gt (t := 144) (q := 20) dX7_scoreNow_17 rfl (by decide) (fun c => ?_) (fun c => ?_)
  · have h := h.1 (c)
    refine v_iinc (y := (v1 + nI 1)) (q := 147) dX7_scoreNow_144 rfl rfl (congrArg (fun z => v1 + z) (by decide)) (by decide) rfl ?_
    refine v_goto (q := 2) dX7_scoreNow_147 (by decide) ?_
    exact v_msk [true, true, false, false, false] h
  · have h := h.2 (c)
    refine v_iload_n (q := 21) dX7_scoreNow_20 rfl rfl ?_
    refine v_if_ne (t := 28) (q := 24) dX7_scoreNow_21 rfl (by decide) (fun c => ?_) (fun c => ?_)
    · have h := h.1 (c)
      refine v_iload_n (q := 29) dX7_scoreNow_28 rfl rfl ?_
      refine v_if_ne (t := 36) (q := 32) dX7_scoreNow_29 rfl (by decide) (fun c => ?_) (fun c => ?_)
      · have h := h.1 (c)
        refine v_bipush (v := (nI 99)) (q := 38) dX7_scoreNow_36 rfl (by decide) ?_
        refine v_istore_n (q := 39) dX7_scoreNow_38 rfl (by decide) rfl ?_
        exact h
      · have h := h.2 (c)
        refine v_iload_n (q := 33) dX7_scoreNow_32 rfl rfl ?_
        refine v_goto (q := 38) dX7_scoreNow_33 (by decide) ?_
        refine v_istore_n (q := 39) dX7_scoreNow_38 rfl (by decide) rfl ?_
        exact h
    · have h := h.2 (c)
      refine v_iload_n (q := 25) dX7_scoreNow_24 rfl rfl ?_
      refine v_goto (q := 38) dX7_scoreNow_25 (by decide) ?_
      refine v_istore_n (q := 39) dX7_scoreNow_38 rfl (by decide) rfl ?_
      exact h
set_option maxRecDepth 20000 in
theorem bX7_scoreNow_39 {d : Nat} {σ : SS} {K : Int32 → SS → Prop} (v1 : Int32) (v2 : Int32) (v3 : Int32)  (hd1 : 1 ≤ d) (h : ((v1 ≤ 0) → (VV mX7_scoreNow d s00 126 [some (.ref 11), some (.int v1), some (.int v2), some (.int v3), none] [] σ (Qi K))) ∧ ((¬ v1 ≤ 0) → (((v2 ≤ 0) → (VV mX7_scoreNow d s00 126 [some (.ref 11), some (.int v1), some (.int v2), some (.int v3), none] [] σ (Qi K))) ∧ ((¬ v2 ≤ 0) → ((vp_in ((((nI 11) * (v1 - (nI 1))) + v2) - (nI 1)) 121) ∧ ((vp_in (v1 - (nI 1)) 10) ∧ ((vp_in (v2 - (nI 1)) 10) ∧ (((¬ (σ.1 38 (v1 - (nI 1)).toNatClampNeg) = (σ.1 39 (v2 - (nI 1)).toNatClampNeg)) → ((vp_in (((nI 11) * (v1 - (nI 1))) + v2) 121) ∧ ((vp_in ((((nI 11) * v1) + v2) - (nI 1)) 121) ∧ (CTi mX7_least (d - 1) [.int (σ.1 40 (((nI 11) * (v1 - (nI 1))) + v2).toNatClampNeg), .int (σ.1 40 ((((nI 11) * v1) + v2) - (nI 1)).toNatClampNeg)] σ (fun x1 s2 => CTi mX7_least (d - 1) [.int ((σ.1 40 ((((nI 11) * (v1 - (nI 1))) + v2) - (nI 1)).toNatClampNeg) + (nI 1)), .int ((nI 1) + x1)] s2 (fun x3 s4 => VV mX7_scoreNow d s00 126 [some (.ref 11), some (.int v1), some (.int v2), some (.int x3), none] [] s4 (Qi K))))))) ∧ (((σ.1 38 (v1 - (nI 1)).toNatClampNeg) = (σ.1 39 (v2 - (nI 1)).toNatClampNeg)) → ((vp_in (((nI 11) * (v1 - (nI 1))) + v2) 121) ∧ ((vp_in ((((nI 11) * v1) + v2) - (nI 1)) 121) ∧ (CTi mX7_least (d - 1) [.int (σ.1 40 (((nI 11) * (v1 - (nI 1))) + v2).toNatClampNeg), .int (σ.1 40 ((((nI 11) * v1) + v2) - (nI 1)).toNatClampNeg)] σ (fun x5 s6 => CTi mX7_least (d - 1) [.int ((σ.1 40 ((((nI 11) * (v1 - (nI 1))) + v2) - (nI 1)).toNatClampNeg) + (nI 0)), .int ((nI 1) + x5)] s6 (fun x7 s8 => VV mX7_scoreNow d s00 126 [some (.ref 11), some (.int v1), some (.int v2), some (.int x7), none] [] s8 (Qi K))))))))))))))) : VV mX7_scoreNow d s00 39 [some (.ref 11), some (.int v1), some (.int v2), some (.int v3), none] [] σ (Qi K) := by
  refine v_iload_n (q := 40) dX7_scoreNow_39 rfl rfl ?_
  refine v_if_le (t := 126) (q := 43) dX7_scoreNow_40 rfl (by decide) (fun c => ?_) (fun c => ?_)
  · have h := h.1 (c)
    exact h
  · have h := h.2 (c)
    refine v_iload_n (q := 44) dX7_scoreNow_43 rfl rfl ?_
    refine v_if_le (t := 126) (q := 47) dX7_scoreNow_44 rfl (by decide) (fun c => ?_) (fun c => ?_)
    · have h := h.1 (c)
      exact h
    · have h := h.2 (c)
      refine v_aload_n (q := 48) dX7_scoreNow_47 rfl rfl ?_
      refine v_get (q := 51) dX7_scoreNow_48 rfl fl_7_19 rfl rfl ?_
      refine v_bipush (v := (nI 11)) (q := 53) dX7_scoreNow_51 rfl (by decide) ?_
      refine v_iload_n (q := 54) dX7_scoreNow_53 rfl rfl ?_
      refine v_iconst (v := (nI 1)) (q := 55) dX7_scoreNow_54 rfl (by decide) ?_
      refine v_isub (q := 56) dX7_scoreNow_55 rfl ?_
      refine v_imul (q := 57) dX7_scoreNow_56 rfl ?_
      refine v_iload_n (q := 58) dX7_scoreNow_57 rfl rfl ?_
      refine v_iadd (q := 59) dX7_scoreNow_58 rfl ?_
      refine v_iconst (v := (nI 1)) (q := 60) dX7_scoreNow_59 rfl (by decide) ?_
      refine v_isub (q := 61) dX7_scoreNow_60 rfl ?_
      refine v_iald (q := 62) dX7_scoreNow_61 rfl (isI_d rfl) h.1 ?_
      have h := h.2
      refine v_aload_n (q := 63) dX7_scoreNow_62 rfl rfl ?_
      refine v_get (q := 66) dX7_scoreNow_63 rfl fl_7_13 rfl rfl ?_
      refine v_iload_n (q := 67) dX7_scoreNow_66 rfl rfl ?_
      refine v_iconst (v := (nI 1)) (q := 68) dX7_scoreNow_67 rfl (by decide) ?_
      refine v_isub (q := 69) dX7_scoreNow_68 rfl ?_
      refine v_iald (q := 70) dX7_scoreNow_69 rfl (isI_d rfl) h.1 ?_
      have h := h.2
      refine v_aload_n (q := 71) dX7_scoreNow_70 rfl rfl ?_
      refine v_get (q := 74) dX7_scoreNow_71 rfl fl_7_16 rfl rfl ?_
      refine v_iload_n (q := 75) dX7_scoreNow_74 rfl rfl ?_
      refine v_iconst (v := (nI 1)) (q := 76) dX7_scoreNow_75 rfl (by decide) ?_
      refine v_isub (q := 77) dX7_scoreNow_76 rfl ?_
      refine v_iald (q := 78) dX7_scoreNow_77 rfl (isI_d rfl) h.1 ?_
      have h := h.2
      refine v_icmp_ne (t := 85) (q := 81) dX7_scoreNow_78 rfl (by decide) (fun c => ?_) (fun c => ?_)
      · have h := h.1 (c)
        refine v_iconst (v := (nI 1)) (q := 86) dX7_scoreNow_85 rfl (by decide) ?_
        refine v_iadd (q := 87) dX7_scoreNow_86 rfl ?_
        refine v_istore (q := 89) dX7_scoreNow_87 rfl (by decide) rfl ?_
        refine v_iload (q := 91) dX7_scoreNow_89 rfl rfl ?_
        refine v_iconst (v := (nI 1)) (q := 92) dX7_scoreNow_91 rfl (by decide) ?_
        refine v_aload_n (q := 93) dX7_scoreNow_92 rfl rfl ?_
        refine v_get (q := 96) dX7_scoreNow_93 rfl fl_7_19 rfl rfl ?_
        refine v_bipush (v := (nI 11)) (q := 98) dX7_scoreNow_96 rfl (by decide) ?_
        refine v_iload_n (q := 99) dX7_scoreNow_98 rfl rfl ?_
        refine v_iconst (v := (nI 1)) (q := 100) dX7_scoreNow_99 rfl (by decide) ?_
        refine v_isub (q := 101) dX7_scoreNow_100 rfl ?_
        refine v_imul (q := 102) dX7_scoreNow_101 rfl ?_
        refine v_iload_n (q := 103) dX7_scoreNow_102 rfl rfl ?_
        refine v_iadd (q := 104) dX7_scoreNow_103 rfl ?_
        refine v_iald (q := 105) dX7_scoreNow_104 rfl (isI_d rfl) h.1 ?_
        have h := h.2
        refine v_aload_n (q := 106) dX7_scoreNow_105 rfl rfl ?_
        refine v_get (q := 109) dX7_scoreNow_106 rfl fl_7_19 rfl rfl ?_
        refine v_bipush (v := (nI 11)) (q := 111) dX7_scoreNow_109 rfl (by decide) ?_
        refine v_iload_n (q := 112) dX7_scoreNow_111 rfl rfl ?_
        refine v_imul (q := 113) dX7_scoreNow_112 rfl ?_
        refine v_iload_n (q := 114) dX7_scoreNow_113 rfl rfl ?_
        refine v_iadd (q := 115) dX7_scoreNow_114 rfl ?_
        refine v_iconst (v := (nI 1)) (q := 116) dX7_scoreNow_115 rfl (by decide) ?_
        refine v_isub (q := 117) dX7_scoreNow_116 rfl ?_
        refine v_iald (q := 118) dX7_scoreNow_117 rfl (isI_d rfl) h.1 ?_
        have h := h.2
        refine v_callS (As := [.int (σ.1 40 (((nI 11) * (v1 - (nI 1))) + v2).toNatClampNeg), .int (σ.1 40 ((((nI 11) * v1) + v2) - (nI 1)).toNatClampNeg)]) (n := 2) (q := 121) dX7_scoreNow_118 rfl lk_7_62 hd1 rfl (Nat.le_of_ble_eq_true rfl) (CT.imp h (fun r s2 h => ?_))
        obtain ⟨x1, rfl, h⟩ := h
        show VV mX7_scoreNow d s00 121 [some (.ref 11), some (.int v1), some (.int v2), some (.int v3), some (.int ((σ.1 40 ((((nI 11) * (v1 - (nI 1))) + v2) - (nI 1)).toNatClampNeg) + (nI 1)))] [.int x1, .int (nI 1), .int ((σ.1 40 ((((nI 11) * (v1 - (nI 1))) + v2) - (nI 1)).toNatClampNeg) + (nI 1))] s2 (Qi K)
        refine v_iadd (q := 122) dX7_scoreNow_121 rfl ?_
        refine v_callS (As := [.int ((σ.1 40 ((((nI 11) * (v1 - (nI 1))) + v2) - (nI 1)).toNatClampNeg) + (nI 1)), .int ((nI 1) + x1)]) (n := 2) (q := 125) dX7_scoreNow_122 rfl lk_7_62 hd1 rfl (Nat.le_of_ble_eq_true rfl) (CT.imp h (fun r s4 h => ?_))
        obtain ⟨x3, rfl, h⟩ := h
        show VV mX7_scoreNow d s00 125 [some (.ref 11), some (.int v1), some (.int v2), some (.int v3), some (.int ((σ.1 40 ((((nI 11) * (v1 - (nI 1))) + v2) - (nI 1)).toNatClampNeg) + (nI 1)))] [.int x3] s4 (Qi K)
        refine v_istore_n (q := 126) dX7_scoreNow_125 rfl (by decide) rfl ?_
        exact v_msk [true, true, true, true, false] h
      · have h := h.2 (c)
        refine v_iconst (v := (nI 0)) (q := 82) dX7_scoreNow_81 rfl (by decide) ?_
        refine v_goto (q := 86) dX7_scoreNow_82 (by decide) ?_
        refine v_iadd (q := 87) dX7_scoreNow_86 rfl ?_
        refine v_istore (q := 89) dX7_scoreNow_87 rfl (by decide) rfl ?_
        refine v_iload (q := 91) dX7_scoreNow_89 rfl rfl ?_
        refine v_iconst (v := (nI 1)) (q := 92) dX7_scoreNow_91 rfl (by decide) ?_
        refine v_aload_n (q := 93) dX7_scoreNow_92 rfl rfl ?_
        refine v_get (q := 96) dX7_scoreNow_93 rfl fl_7_19 rfl rfl ?_
        refine v_bipush (v := (nI 11)) (q := 98) dX7_scoreNow_96 rfl (by decide) ?_
        refine v_iload_n (q := 99) dX7_scoreNow_98 rfl rfl ?_
        refine v_iconst (v := (nI 1)) (q := 100) dX7_scoreNow_99 rfl (by decide) ?_
        refine v_isub (q := 101) dX7_scoreNow_100 rfl ?_
        refine v_imul (q := 102) dX7_scoreNow_101 rfl ?_
        refine v_iload_n (q := 103) dX7_scoreNow_102 rfl rfl ?_
        refine v_iadd (q := 104) dX7_scoreNow_103 rfl ?_
        refine v_iald (q := 105) dX7_scoreNow_104 rfl (isI_d rfl) h.1 ?_
        have h := h.2
        refine v_aload_n (q := 106) dX7_scoreNow_105 rfl rfl ?_
        refine v_get (q := 109) dX7_scoreNow_106 rfl fl_7_19 rfl rfl ?_
        refine v_bipush (v := (nI 11)) (q := 111) dX7_scoreNow_109 rfl (by decide) ?_
        refine v_iload_n (q := 112) dX7_scoreNow_111 rfl rfl ?_
        refine v_imul (q := 113) dX7_scoreNow_112 rfl ?_
        refine v_iload_n (q := 114) dX7_scoreNow_113 rfl rfl ?_
        refine v_iadd (q := 115) dX7_scoreNow_114 rfl ?_
        refine v_iconst (v := (nI 1)) (q := 116) dX7_scoreNow_115 rfl (by decide) ?_
        refine v_isub (q := 117) dX7_scoreNow_116 rfl ?_
        refine v_iald (q := 118) dX7_scoreNow_117 rfl (isI_d rfl) h.1 ?_
        have h := h.2
        refine v_callS (As := [.int (σ.1 40 (((nI 11) * (v1 - (nI 1))) + v2).toNatClampNeg), .int (σ.1 40 ((((nI 11) * v1) + v2) - (nI 1)).toNatClampNeg)]) (n := 2) (q := 121) dX7_scoreNow_118 rfl lk_7_62 hd1 rfl (Nat.le_of_ble_eq_true rfl) (CT.imp h (fun r s6 h => ?_))
        obtain ⟨x5, rfl, h⟩ := h
        show VV mX7_scoreNow d s00 121 [some (.ref 11), some (.int v1), some (.int v2), some (.int v3), some (.int ((σ.1 40 ((((nI 11) * (v1 - (nI 1))) + v2) - (nI 1)).toNatClampNeg) + (nI 0)))] [.int x5, .int (nI 1), .int ((σ.1 40 ((((nI 11) * (v1 - (nI 1))) + v2) - (nI 1)).toNatClampNeg) + (nI 0))] s6 (Qi K)
        refine v_iadd (q := 122) dX7_scoreNow_121 rfl ?_
        refine v_callS (As := [.int ((σ.1 40 ((((nI 11) * (v1 - (nI 1))) + v2) - (nI 1)).toNatClampNeg) + (nI 0)), .int ((nI 1) + x5)]) (n := 2) (q := 125) dX7_scoreNow_122 rfl lk_7_62 hd1 rfl (Nat.le_of_ble_eq_true rfl) (CT.imp h (fun r s8 h => ?_))
        obtain ⟨x7, rfl, h⟩ := h
        show VV mX7_scoreNow d s00 125 [some (.ref 11), some (.int v1), some (.int v2), some (.int v3), some (.int ((σ.1 40 ((((nI 11) * (v1 - (nI 1))) + v2) - (nI 1)).toNatClampNeg) + (nI 0)))] [.int x7] s8 (Qi K)
        refine v_istore_n (q := 126) dX7_scoreNow_125 rfl (by decide) rfl ?_
        exact v_msk [true, true, true, true, false] h
set_option maxRecDepth 20000 in
theorem bX7_scoreNow_126 {d : Nat} {σ : SS} {K : Int32 → SS → Prop} (v1 : Int32) (v2 : Int32) (v3 : Int32)   (h : (vp_in (((nI 11) * v1) + v2) 121) ∧ (VV mX7_scoreNow d s00 12 [some (.ref 11), some (.int v1), some (.int (v2 + nI 1)), none, none] [] (sA σ 40 (((nI 11) * v1) + v2).toNatClampNeg v3) (Qi K))) : VV mX7_scoreNow d s00 126 [some (.ref 11), some (.int v1), some (.int v2), some (.int v3), none] [] σ (Qi K) := by
  refine v_aload_n (q := 127) dX7_scoreNow_126 rfl rfl ?_
  refine v_get (q := 130) dX7_scoreNow_127 rfl fl_7_19 rfl rfl ?_
  refine v_bipush (v := (nI 11)) (q := 132) dX7_scoreNow_130 rfl (by decide) ?_
  refine v_iload_n (q := 133) dX7_scoreNow_132 rfl rfl ?_
  refine v_imul (q := 134) dX7_scoreNow_133 rfl ?_
  refine v_iload_n (q := 135) dX7_scoreNow_134 rfl rfl ?_
  refine v_iadd (q := 136) dX7_scoreNow_135 rfl ?_
  refine v_iload_n (q := 137) dX7_scoreNow_136 rfl rfl ?_
  refine v_iast (q := 138) dX7_scoreNow_137 rfl (isI_d rfl) h.1 ?_
  have h := h.2
  refine v_iinc (y := (v2 + nI 1)) (q := 141) dX7_scoreNow_138 rfl rfl (congrArg (fun z => v2 + z) (by decide)) (by decide) rfl ?_
  refine v_goto (q := 12) dX7_scoreNow_141 (by decide) ?_
  exact v_msk [true, true, true, false, false] h
set_option maxRecDepth 20000 in
theorem bX7_scoreNow_150 {d : Nat} {σ : SS} {K : Int32 → SS → Prop} (v1 : Int32)   (h : (((σ.2.1 8) ≤ (σ.2.1 9)) → (VV mX7_scoreNow d s00 173 [some (.ref 11), some (.int (σ.2.1 9)), none, none, none] [] σ (Qi K))) ∧ ((¬ (σ.2.1 8) ≤ (σ.2.1 9)) → (VV mX7_scoreNow d s00 173 [some (.ref 11), some (.int (σ.2.1 8)), none, none, none] [] σ (Qi K)))) : VV mX7_scoreNow d s00 150 [some (.ref 11), some (.int v1), none, none, none] [] σ (Qi K) := by
  refine v_aload_n (q := 151) dX7_scoreNow_150 rfl rfl ?_
  refine v_get (q := 154) dX7_scoreNow_151 rfl fl_7_53 rfl rfl ?_
  refine v_aload_n (q := 155) dX7_scoreNow_154 rfl rfl ?_
  refine v_get (q := 158) dX7_scoreNow_155 rfl fl_7_56 rfl rfl ?_
  refine v_icmp_le (t := 168) (q := 161) dX7_scoreNow_158 rfl (by decide) (fun c => ?_) (fun c => ?_)
  · have h := h.1 (c)
    refine v_aload_n (q := 169) dX7_scoreNow_168 rfl rfl ?_
    refine v_get (q := 172) dX7_scoreNow_169 rfl fl_7_56 rfl rfl ?_
    refine v_istore_n (q := 173) dX7_scoreNow_172 rfl (by decide) rfl ?_
    exact h
  · have h := h.2 (c)
    refine v_aload_n (q := 162) dX7_scoreNow_161 rfl rfl ?_
    refine v_get (q := 165) dX7_scoreNow_162 rfl fl_7_53 rfl rfl ?_
    refine v_goto (q := 172) dX7_scoreNow_165 (by decide) ?_
    refine v_istore_n (q := 173) dX7_scoreNow_172 rfl (by decide) rfl ?_
    exact h
set_option maxRecDepth 20000 in
theorem bX7_scoreNow_173 {d : Nat} {σ : SS} {K : Int32 → SS → Prop} (v1 : Int32)   (h : (vp_in (((nI 11) * (σ.2.1 8)) + (σ.2.1 9)) 121) ∧ ((¬ v1 = 0) ∧ (K (((nI 100) * (v1 - (σ.1 40 (((nI 11) * (σ.2.1 8)) + (σ.2.1 9)).toNatClampNeg))) / v1) σ))) : VV mX7_scoreNow d s00 173 [some (.ref 11), some (.int v1), none, none, none] [] σ (Qi K) := by
  refine v_bipush (v := (nI 100)) (q := 175) dX7_scoreNow_173 rfl (by decide) ?_
  refine v_iload_n (q := 176) dX7_scoreNow_175 rfl rfl ?_
  refine v_aload_n (q := 177) dX7_scoreNow_176 rfl rfl ?_
  refine v_get (q := 180) dX7_scoreNow_177 rfl fl_7_19 rfl rfl ?_
  refine v_bipush (v := (nI 11)) (q := 182) dX7_scoreNow_180 rfl (by decide) ?_
  refine v_aload_n (q := 183) dX7_scoreNow_182 rfl rfl ?_
  refine v_get (q := 186) dX7_scoreNow_183 rfl fl_7_53 rfl rfl ?_
  refine v_imul (q := 187) dX7_scoreNow_186 rfl ?_
  refine v_aload_n (q := 188) dX7_scoreNow_187 rfl rfl ?_
  refine v_get (q := 191) dX7_scoreNow_188 rfl fl_7_56 rfl rfl ?_
  refine v_iadd (q := 192) dX7_scoreNow_191 rfl ?_
  refine v_iald (q := 193) dX7_scoreNow_192 rfl (isI_d rfl) h.1 ?_
  have h := h.2
  refine v_isub (q := 194) dX7_scoreNow_193 rfl ?_
  refine v_imul (q := 195) dX7_scoreNow_194 rfl ?_
  refine v_iload_n (q := 196) dX7_scoreNow_195 rfl rfl ?_
  refine v_idiv (q := 197) dX7_scoreNow_196 rfl h.1 ?_
  have h := h.2
  exact v_iret dX7_scoreNow_197 rfl ⟨_, rfl, h⟩
set_option maxRecDepth 20000 in
theorem bX7_scoreOf_0 {d : Nat} {σ : SS} {K : Int32 → SS → Prop} (p1 : Int32) (p2 : Int32)  (hd1 : 1 ≤ d) (h : CTv mX7_setsOne (d - 1) [.ref 11, .int p1] σ (fun s2 => CTv mX7_setsOther (d - 1) [.ref 11, .int p2] s2 (fun s4 => CTi mX7_scoreNow (d - 1) [.ref 11] s4 (fun x5 s6 => K x5 s6)))) : VV mX7_scoreOf d s00 0 [some (.ref 11), some (.int p1), some (.int p2)] [] σ (Qi K) := by
  refine v_aload_n (q := 1) dX7_scoreOf_0 rfl rfl ?_
  refine v_iload_n (q := 2) dX7_scoreOf_1 rfl rfl ?_
  refine v_callV (As := [.int p1]) (n := 1) (q := 5) dX7_scoreOf_2 rfl lk_7_65 hd1 rfl rfl (Nat.le_of_ble_eq_true rfl) (CT.imp h (fun r s2 h => ?_))
  obtain ⟨rfl, h⟩ := h
  show VV mX7_scoreOf d s00 5 [some (.ref 11), some (.int p1), some (.int p2)] [] s2 (Qi K)
  refine v_aload_n (q := 6) dX7_scoreOf_5 rfl rfl ?_
  refine v_iload_n (q := 7) dX7_scoreOf_6 rfl rfl ?_
  refine v_callV (As := [.int p2]) (n := 1) (q := 10) dX7_scoreOf_7 rfl lk_7_69 hd1 rfl rfl (Nat.le_of_ble_eq_true rfl) (CT.imp h (fun r s4 h => ?_))
  obtain ⟨rfl, h⟩ := h
  show VV mX7_scoreOf d s00 10 [some (.ref 11), some (.int p1), some (.int p2)] [] s4 (Qi K)
  refine v_aload_n (q := 11) dX7_scoreOf_10 rfl rfl ?_
  refine v_callV (As := []) (n := 0) (q := 14) dX7_scoreOf_11 rfl lk_7_72 hd1 rfl rfl (Nat.le_of_ble_eq_true rfl) (CT.imp h (fun r s6 h => ?_))
  obtain ⟨x5, rfl, h⟩ := h
  show VV mX7_scoreOf d s00 14 [some (.ref 11), some (.int p1), some (.int p2)] [.int x5] s6 (Qi K)
  exact v_iret dX7_scoreOf_14 rfl ⟨_, rfl, h⟩
theorem eX7_scoreOf {d : Nat} {σ : SS} {K : Int32 → SS → Prop} (p1 : Int32) (p2 : Int32)  (hd1 : 1 ≤ d) (h : CTv mX7_setsOne (d - 1) [.ref 11, .int p1] σ (fun s2 => CTv mX7_setsOther (d - 1) [.ref 11, .int p2] s2 (fun s4 => CTi mX7_scoreNow (d - 1) [.ref 11] s4 (fun x5 s6 => K x5 s6)))) : CTi mX7_scoreOf d [.ref 11, .int p1, .int p2] σ K := CT_of (Q := (Qi K)) (by decide +kernel) rfl (by decide) (Nat.le_of_ble_eq_true rfl) rfl (bX7_scoreOf_0 p1 p2 hd1 h)
set_option maxRecDepth 20000 in
theorem bX7_textScore_0 {d : Nat} {σ : SS} {K : Int32 → SS → Prop} (p1 : Int32)  (hd1 : 1 ≤ d) (h : CTv mX7_setsText (d - 1) [.ref 11] σ (fun s2 => CTv mX7_setsOther (d - 1) [.ref 11, .int p1] s2 (fun s4 => CTi mX7_scoreNow (d - 1) [.ref 11] s4 (fun x5 s6 => K x5 s6)))) : VV mX7_textScore d s00 0 [some (.ref 11), some (.int p1)] [] σ (Qi K) := by
  refine v_aload_n (q := 1) dX7_textScore_0 rfl rfl ?_
  refine v_callV (As := []) (n := 0) (q := 4) dX7_textScore_1 rfl lk_7_76 hd1 rfl rfl (Nat.le_of_ble_eq_true rfl) (CT.imp h (fun r s2 h => ?_))
  obtain ⟨rfl, h⟩ := h
  show VV mX7_textScore d s00 4 [some (.ref 11), some (.int p1)] [] s2 (Qi K)
  refine v_aload_n (q := 5) dX7_textScore_4 rfl rfl ?_
  refine v_iload_n (q := 6) dX7_textScore_5 rfl rfl ?_
  refine v_callV (As := [.int p1]) (n := 1) (q := 9) dX7_textScore_6 rfl lk_7_69 hd1 rfl rfl (Nat.le_of_ble_eq_true rfl) (CT.imp h (fun r s4 h => ?_))
  obtain ⟨rfl, h⟩ := h
  show VV mX7_textScore d s00 9 [some (.ref 11), some (.int p1)] [] s4 (Qi K)
  refine v_aload_n (q := 10) dX7_textScore_9 rfl rfl ?_
  refine v_callV (As := []) (n := 0) (q := 13) dX7_textScore_10 rfl lk_7_72 hd1 rfl rfl (Nat.le_of_ble_eq_true rfl) (CT.imp h (fun r s6 h => ?_))
  obtain ⟨x5, rfl, h⟩ := h
  show VV mX7_textScore d s00 13 [some (.ref 11), some (.int p1)] [.int x5] s6 (Qi K)
  exact v_iret dX7_textScore_13 rfl ⟨_, rfl, h⟩
theorem eX7_textScore {d : Nat} {σ : SS} {K : Int32 → SS → Prop} (p1 : Int32)  (hd1 : 1 ≤ d) (h : CTv mX7_setsText (d - 1) [.ref 11] σ (fun s2 => CTv mX7_setsOther (d - 1) [.ref 11, .int p1] s2 (fun s4 => CTi mX7_scoreNow (d - 1) [.ref 11] s4 (fun x5 s6 => K x5 s6)))) : CTi mX7_textScore d [.ref 11, .int p1] σ K := CT_of (Q := (Qi K)) (by decide +kernel) rfl (by decide) (Nat.le_of_ble_eq_true rfl) rfl (bX7_textScore_0 p1 hd1 h)
set_option maxRecDepth 20000 in
theorem bX7_addMember_0 {d : Nat} {σ : SS} {K : Int32 → SS → Prop}   (hd1 : 1 ≤ d) (h : (vp_in (nI 0) 3270) ∧ (((¬ (σ.1 37 (nI 0).toNatClampNeg) = (nI 6)) → (CTv mX7_records (d - 1) [.ref 11] σ (fun s2 => (vp_in (nI 0) 3270) ∧ ((vp_in ((nI 10) + ((nI 2) * (s2.1 37 (nI 0).toNatClampNeg))) 3270) ∧ ((vp_in (nI 0) 3270) ∧ ((vp_in (((nI 10) + ((nI 2) * ((sA s2 37 ((nI 10) + ((nI 2) * (s2.1 37 (nI 0).toNatClampNeg))).toNatClampNeg (nI 40)).1 37 (nI 0).toNatClampNeg))) + (nI 1)) 3270) ∧ ((vp_in (nI 0) 3270) ∧ ((vp_in (nI 0) 3270) ∧ ((vp_in (nI 0) 3270) ∧ (K (((sA (sA (sA s2 37 ((nI 10) + ((nI 2) * (s2.1 37 (nI 0).toNatClampNeg))).toNatClampNeg (nI 40)) 37 (((nI 10) + ((nI 2) * ((sA s2 37 ((nI 10) + ((nI 2) * (s2.1 37 (nI 0).toNatClampNeg))).toNatClampNeg (nI 40)).1 37 (nI 0).toNatClampNeg))) + (nI 1)).toNatClampNeg (nI 0)) 37 (nI 0).toNatClampNeg (((sA (sA s2 37 ((nI 10) + ((nI 2) * (s2.1 37 (nI 0).toNatClampNeg))).toNatClampNeg (nI 40)) 37 (((nI 10) + ((nI 2) * ((sA s2 37 ((nI 10) + ((nI 2) * (s2.1 37 (nI 0).toNatClampNeg))).toNatClampNeg (nI 40)).1 37 (nI 0).toNatClampNeg))) + (nI 1)).toNatClampNeg (nI 0)).1 37 (nI 0).toNatClampNeg) + (nI 1))).1 37 (nI 0).toNatClampNeg) - (nI 1)) (sA (sA (sA s2 37 ((nI 10) + ((nI 2) * (s2.1 37 (nI 0).toNatClampNeg))).toNatClampNeg (nI 40)) 37 (((nI 10) + ((nI 2) * ((sA s2 37 ((nI 10) + ((nI 2) * (s2.1 37 (nI 0).toNatClampNeg))).toNatClampNeg (nI 40)).1 37 (nI 0).toNatClampNeg))) + (nI 1)).toNatClampNeg (nI 0)) 37 (nI 0).toNatClampNeg (((sA (sA s2 37 ((nI 10) + ((nI 2) * (s2.1 37 (nI 0).toNatClampNeg))).toNatClampNeg (nI 40)) 37 (((nI 10) + ((nI 2) * ((sA s2 37 ((nI 10) + ((nI 2) * (s2.1 37 (nI 0).toNatClampNeg))).toNatClampNeg (nI 40)).1 37 (nI 0).toNatClampNeg))) + (nI 1)).toNatClampNeg (nI 0)).1 37 (nI 0).toNatClampNeg) + (nI 1))))))))))))) ∧ (((σ.1 37 (nI 0).toNatClampNeg) = (nI 6)) → (K (-1000004) σ)))) : VV mX7_addMember d s00 0 [some (.ref 11)] [] σ (Qi K) := by
  refine v_aload_n (q := 1) dX7_addMember_0 rfl rfl ?_
  refine v_get (q := 4) dX7_addMember_1 rfl fl_7_7 rfl rfl ?_
  refine v_iconst (v := (nI 0)) (q := 5) dX7_addMember_4 rfl (by decide) ?_
  refine v_iald (q := 6) dX7_addMember_5 rfl (isI_d rfl) h.1 ?_
  have h := h.2
  refine v_bipush (v := (nI 6)) (q := 8) dX7_addMember_6 rfl (by decide) ?_
  refine v_icmp_ne (t := 14) (q := 11) dX7_addMember_8 rfl (by decide) (fun c => ?_) (fun c => ?_)
  · have h := h.1 (c)
    refine v_aload_n (q := 15) dX7_addMember_14 rfl rfl ?_
    refine v_callV (As := []) (n := 0) (q := 18) dX7_addMember_15 rfl lk_7_80 hd1 rfl rfl (Nat.le_of_ble_eq_true rfl) (CT.imp h (fun r s2 h => ?_))
    obtain ⟨rfl, h⟩ := h
    show VV mX7_addMember d s00 18 [some (.ref 11)] [] s2 (Qi K)
    refine v_aload_n (q := 19) dX7_addMember_18 rfl rfl ?_
    refine v_get (q := 22) dX7_addMember_19 rfl fl_7_7 rfl rfl ?_
    refine v_bipush (v := (nI 10)) (q := 24) dX7_addMember_22 rfl (by decide) ?_
    refine v_iconst (v := (nI 2)) (q := 25) dX7_addMember_24 rfl (by decide) ?_
    refine v_aload_n (q := 26) dX7_addMember_25 rfl rfl ?_
    refine v_get (q := 29) dX7_addMember_26 rfl fl_7_7 rfl rfl ?_
    refine v_iconst (v := (nI 0)) (q := 30) dX7_addMember_29 rfl (by decide) ?_
    refine v_iald (q := 31) dX7_addMember_30 rfl (isI_d rfl) h.1 ?_
    have h := h.2
    refine v_imul (q := 32) dX7_addMember_31 rfl ?_
    refine v_iadd (q := 33) dX7_addMember_32 rfl ?_
    refine v_bipush (v := (nI 40)) (q := 35) dX7_addMember_33 rfl (by decide) ?_
    refine v_iast (q := 36) dX7_addMember_35 rfl (isI_d rfl) h.1 ?_
    have h := h.2
    refine v_aload_n (q := 37) dX7_addMember_36 rfl rfl ?_
    refine v_get (q := 40) dX7_addMember_37 rfl fl_7_7 rfl rfl ?_
    refine v_bipush (v := (nI 10)) (q := 42) dX7_addMember_40 rfl (by decide) ?_
    refine v_iconst (v := (nI 2)) (q := 43) dX7_addMember_42 rfl (by decide) ?_
    refine v_aload_n (q := 44) dX7_addMember_43 rfl rfl ?_
    refine v_get (q := 47) dX7_addMember_44 rfl fl_7_7 rfl rfl ?_
    refine v_iconst (v := (nI 0)) (q := 48) dX7_addMember_47 rfl (by decide) ?_
    refine v_iald (q := 49) dX7_addMember_48 rfl (isI_d rfl) h.1 ?_
    have h := h.2
    refine v_imul (q := 50) dX7_addMember_49 rfl ?_
    refine v_iadd (q := 51) dX7_addMember_50 rfl ?_
    refine v_iconst (v := (nI 1)) (q := 52) dX7_addMember_51 rfl (by decide) ?_
    refine v_iadd (q := 53) dX7_addMember_52 rfl ?_
    refine v_iconst (v := (nI 0)) (q := 54) dX7_addMember_53 rfl (by decide) ?_
    refine v_iast (q := 55) dX7_addMember_54 rfl (isI_d rfl) h.1 ?_
    have h := h.2
    refine v_aload_n (q := 56) dX7_addMember_55 rfl rfl ?_
    refine v_get (q := 59) dX7_addMember_56 rfl fl_7_7 rfl rfl ?_
    refine v_iconst (v := (nI 0)) (q := 60) dX7_addMember_59 rfl (by decide) ?_
    refine v_dup2 (q := 61) dX7_addMember_60 rfl rfl rfl ?_
    refine v_iald (q := 62) dX7_addMember_61 rfl (isI_d rfl) h.1 ?_
    have h := h.2
    refine v_iconst (v := (nI 1)) (q := 63) dX7_addMember_62 rfl (by decide) ?_
    refine v_iadd (q := 64) dX7_addMember_63 rfl ?_
    refine v_iast (q := 65) dX7_addMember_64 rfl (isI_d rfl) h.1 ?_
    have h := h.2
    refine v_aload_n (q := 66) dX7_addMember_65 rfl rfl ?_
    refine v_get (q := 69) dX7_addMember_66 rfl fl_7_7 rfl rfl ?_
    refine v_iconst (v := (nI 0)) (q := 70) dX7_addMember_69 rfl (by decide) ?_
    refine v_iald (q := 71) dX7_addMember_70 rfl (isI_d rfl) h.1 ?_
    have h := h.2
    refine v_iconst (v := (nI 1)) (q := 72) dX7_addMember_71 rfl (by decide) ?_
    refine v_isub (q := 73) dX7_addMember_72 rfl ?_
    exact v_iret dX7_addMember_73 rfl ⟨_, rfl, h⟩
  · have h := h.2 (c)
    refine v_ldc (v := (-1000004)) (q := 13) dX7_addMember_11 rfl cn_7_79 ?_
    exact v_iret dX7_addMember_13 rfl ⟨_, rfl, h⟩
theorem eX7_addMember {d : Nat} {σ : SS} {K : Int32 → SS → Prop}   (hd1 : 1 ≤ d) (h : (vp_in (nI 0) 3270) ∧ (((¬ (σ.1 37 (nI 0).toNatClampNeg) = (nI 6)) → (CTv mX7_records (d - 1) [.ref 11] σ (fun s2 => (vp_in (nI 0) 3270) ∧ ((vp_in ((nI 10) + ((nI 2) * (s2.1 37 (nI 0).toNatClampNeg))) 3270) ∧ ((vp_in (nI 0) 3270) ∧ ((vp_in (((nI 10) + ((nI 2) * ((sA s2 37 ((nI 10) + ((nI 2) * (s2.1 37 (nI 0).toNatClampNeg))).toNatClampNeg (nI 40)).1 37 (nI 0).toNatClampNeg))) + (nI 1)) 3270) ∧ ((vp_in (nI 0) 3270) ∧ ((vp_in (nI 0) 3270) ∧ ((vp_in (nI 0) 3270) ∧ (K (((sA (sA (sA s2 37 ((nI 10) + ((nI 2) * (s2.1 37 (nI 0).toNatClampNeg))).toNatClampNeg (nI 40)) 37 (((nI 10) + ((nI 2) * ((sA s2 37 ((nI 10) + ((nI 2) * (s2.1 37 (nI 0).toNatClampNeg))).toNatClampNeg (nI 40)).1 37 (nI 0).toNatClampNeg))) + (nI 1)).toNatClampNeg (nI 0)) 37 (nI 0).toNatClampNeg (((sA (sA s2 37 ((nI 10) + ((nI 2) * (s2.1 37 (nI 0).toNatClampNeg))).toNatClampNeg (nI 40)) 37 (((nI 10) + ((nI 2) * ((sA s2 37 ((nI 10) + ((nI 2) * (s2.1 37 (nI 0).toNatClampNeg))).toNatClampNeg (nI 40)).1 37 (nI 0).toNatClampNeg))) + (nI 1)).toNatClampNeg (nI 0)).1 37 (nI 0).toNatClampNeg) + (nI 1))).1 37 (nI 0).toNatClampNeg) - (nI 1)) (sA (sA (sA s2 37 ((nI 10) + ((nI 2) * (s2.1 37 (nI 0).toNatClampNeg))).toNatClampNeg (nI 40)) 37 (((nI 10) + ((nI 2) * ((sA s2 37 ((nI 10) + ((nI 2) * (s2.1 37 (nI 0).toNatClampNeg))).toNatClampNeg (nI 40)).1 37 (nI 0).toNatClampNeg))) + (nI 1)).toNatClampNeg (nI 0)) 37 (nI 0).toNatClampNeg (((sA (sA s2 37 ((nI 10) + ((nI 2) * (s2.1 37 (nI 0).toNatClampNeg))).toNatClampNeg (nI 40)) 37 (((nI 10) + ((nI 2) * ((sA s2 37 ((nI 10) + ((nI 2) * (s2.1 37 (nI 0).toNatClampNeg))).toNatClampNeg (nI 40)).1 37 (nI 0).toNatClampNeg))) + (nI 1)).toNatClampNeg (nI 0)).1 37 (nI 0).toNatClampNeg) + (nI 1))))))))))))) ∧ (((σ.1 37 (nI 0).toNatClampNeg) = (nI 6)) → (K (-1000004) σ)))) : CTi mX7_addMember d [.ref 11] σ K := CT_of (Q := (Qi K)) (by decide +kernel) rfl (by decide) (Nat.le_of_ble_eq_true rfl) rfl (bX7_addMember_0  hd1 h)
set_option maxRecDepth 20000 in
theorem bX7_setPrice_0 {d : Nat} {σ : SS} {K : Int32 → SS → Prop} (p1 : Int32) (p2 : Int32)  (hd1 : 1 ≤ d) (h : CTi mX7_isMember (d - 1) [.ref 11, .int p1] σ (fun x1 s2 => ((¬ x1 = 0) → (CTi mX7_in (d - 1) [.int p2, .int (nI 0), .int (nI 200)] s2 (fun x3 s4 => ((¬ x3 = 0) → (CTv mX7_records (d - 1) [.ref 11] s4 (fun s6 => CTi mX7_price (d - 1) [.ref 11, .int p1] s6 (fun x7 s8 => (vp_in ((nI 10) + ((nI 2) * p1)) 3270) ∧ (K x7 (sA s8 37 ((nI 10) + ((nI 2) * p1)).toNatClampNeg p2)))))) ∧ ((x3 = 0) → (K (-1000002) s4))))) ∧ ((x1 = 0) → (K (-1000001) s2)))) : VV mX7_setPrice d s00 0 [some (.ref 11), some (.int p1), some (.int p2), none] [] σ (Qi K) := by
  refine v_aload_n (q := 1) dX7_setPrice_0 rfl rfl ?_
  refine v_iload_n (q := 2) dX7_setPrice_1 rfl rfl ?_
  refine v_callV (As := [.int p1]) (n := 1) (q := 5) dX7_setPrice_2 rfl lk_7_83 hd1 rfl rfl (Nat.le_of_ble_eq_true rfl) (CT.imp h (fun r s2 h => ?_))
  obtain ⟨x1, rfl, h⟩ := h
  show VV mX7_setPrice d s00 5 [some (.ref 11), some (.int p1), some (.int p2), none] [.int x1] s2 (Qi K)
  refine v_if_ne (t := 11) (q := 8) dX7_setPrice_5 rfl (by decide) (fun c => ?_) (fun c => ?_)
  · have h := h.1 (c)
    refine v_iload_n (q := 12) dX7_setPrice_11 rfl rfl ?_
    refine v_iconst (v := (nI 0)) (q := 13) dX7_setPrice_12 rfl (by decide) ?_
    refine v_sipush (v := (nI 200)) (q := 16) dX7_setPrice_13 rfl (by decide) ?_
    refine v_callS (As := [.int p2, .int (nI 0), .int (nI 200)]) (n := 3) (q := 19) dX7_setPrice_16 rfl lk_7_45 hd1 rfl (Nat.le_of_ble_eq_true rfl) (CT.imp h (fun r s4 h => ?_))
    obtain ⟨x3, rfl, h⟩ := h
    show VV mX7_setPrice d s00 19 [some (.ref 11), some (.int p1), some (.int p2), none] [.int x3] s4 (Qi K)
    refine v_if_ne (t := 25) (q := 22) dX7_setPrice_19 rfl (by decide) (fun c => ?_) (fun c => ?_)
    · have h := h.1 (c)
      refine v_aload_n (q := 26) dX7_setPrice_25 rfl rfl ?_
      refine v_callV (As := []) (n := 0) (q := 29) dX7_setPrice_26 rfl lk_7_80 hd1 rfl rfl (Nat.le_of_ble_eq_true rfl) (CT.imp h (fun r s6 h => ?_))
      obtain ⟨rfl, h⟩ := h
      show VV mX7_setPrice d s00 29 [some (.ref 11), some (.int p1), some (.int p2), none] [] s6 (Qi K)
      refine v_aload_n (q := 30) dX7_setPrice_29 rfl rfl ?_
      refine v_iload_n (q := 31) dX7_setPrice_30 rfl rfl ?_
      refine v_callV (As := [.int p1]) (n := 1) (q := 34) dX7_setPrice_31 rfl lk_7_89 hd1 rfl rfl (Nat.le_of_ble_eq_true rfl) (CT.imp h (fun r s8 h => ?_))
      obtain ⟨x7, rfl, h⟩ := h
      show VV mX7_setPrice d s00 34 [some (.ref 11), some (.int p1), some (.int p2), none] [.int x7] s8 (Qi K)
      refine v_istore_n (q := 35) dX7_setPrice_34 rfl (by decide) rfl ?_
      refine v_aload_n (q := 36) dX7_setPrice_35 rfl rfl ?_
      refine v_get (q := 39) dX7_setPrice_36 rfl fl_7_7 rfl rfl ?_
      refine v_bipush (v := (nI 10)) (q := 41) dX7_setPrice_39 rfl (by decide) ?_
      refine v_iconst (v := (nI 2)) (q := 42) dX7_setPrice_41 rfl (by decide) ?_
      refine v_iload_n (q := 43) dX7_setPrice_42 rfl rfl ?_
      refine v_imul (q := 44) dX7_setPrice_43 rfl ?_
      refine v_iadd (q := 45) dX7_setPrice_44 rfl ?_
      refine v_iload_n (q := 46) dX7_setPrice_45 rfl rfl ?_
      refine v_iast (q := 47) dX7_setPrice_46 rfl (isI_d rfl) h.1 ?_
      have h := h.2
      refine v_iload_n (q := 48) dX7_setPrice_47 rfl rfl ?_
      exact v_iret dX7_setPrice_48 rfl ⟨_, rfl, h⟩
    · have h := h.2 (c)
      refine v_ldc (v := (-1000002)) (q := 24) dX7_setPrice_22 rfl cn_7_88 ?_
      exact v_iret dX7_setPrice_24 rfl ⟨_, rfl, h⟩
  · have h := h.2 (c)
    refine v_ldc (v := (-1000001)) (q := 10) dX7_setPrice_8 rfl cn_7_87 ?_
    exact v_iret dX7_setPrice_10 rfl ⟨_, rfl, h⟩
theorem eX7_setPrice {d : Nat} {σ : SS} {K : Int32 → SS → Prop} (p1 : Int32) (p2 : Int32)  (hd1 : 1 ≤ d) (h : CTi mX7_isMember (d - 1) [.ref 11, .int p1] σ (fun x1 s2 => ((¬ x1 = 0) → (CTi mX7_in (d - 1) [.int p2, .int (nI 0), .int (nI 200)] s2 (fun x3 s4 => ((¬ x3 = 0) → (CTv mX7_records (d - 1) [.ref 11] s4 (fun s6 => CTi mX7_price (d - 1) [.ref 11, .int p1] s6 (fun x7 s8 => (vp_in ((nI 10) + ((nI 2) * p1)) 3270) ∧ (K x7 (sA s8 37 ((nI 10) + ((nI 2) * p1)).toNatClampNeg p2)))))) ∧ ((x3 = 0) → (K (-1000002) s4))))) ∧ ((x1 = 0) → (K (-1000001) s2)))) : CTi mX7_setPrice d [.ref 11, .int p1, .int p2] σ K := CT_of (Q := (Qi K)) (by decide +kernel) rfl (by decide) (Nat.le_of_ble_eq_true rfl) rfl (bX7_setPrice_0 p1 p2 hd1 h)
set_option maxRecDepth 20000 in
theorem bX7_set_0 {d : Nat} {σ : SS} {K : Int32 → SS → Prop} (p1 : Int32) (p2 : Int32)  (hd1 : 1 ≤ d) (h : CTi mX7_in (d - 1) [.int p1, .int (nI 0), .int (nI 4)] σ (fun x1 s2 => ((¬ x1 = 0) → (((¬ p1 = (nI 1)) → (((¬ p1 = (nI 2)) → (VV mX7_set d s00 35 [some (.ref 11), some (.int p1), some (.int p2), some (.int (nI 100)), none] [] s2 (Qi K))) ∧ ((p1 = (nI 2)) → (VV mX7_set d s00 35 [some (.ref 11), some (.int p1), some (.int p2), some (.int (nI 80)), none] [] s2 (Qi K))))) ∧ ((p1 = (nI 1)) → (VV mX7_set d s00 35 [some (.ref 11), some (.int p1), some (.int p2), some (.int (nI 50)), none] [] s2 (Qi K))))) ∧ ((x1 = 0) → (K (-1000001) s2)))) : VV mX7_set d s00 0 [some (.ref 11), some (.int p1), some (.int p2), none, none] [] σ (Qi K) := by
  refine v_iload_n (q := 1) dX7_set_0 rfl rfl ?_
  refine v_iconst (v := (nI 0)) (q := 2) dX7_set_1 rfl (by decide) ?_
  refine v_iconst (v := (nI 4)) (q := 3) dX7_set_2 rfl (by decide) ?_
  refine v_callS (As := [.int p1, .int (nI 0), .int (nI 4)]) (n := 3) (q := 6) dX7_set_3 rfl lk_7_45 hd1 rfl (Nat.le_of_ble_eq_true rfl) (CT.imp h (fun r s2 h => ?_))
  obtain ⟨x1, rfl, h⟩ := h
  show VV mX7_set d s00 6 [some (.ref 11), some (.int p1), some (.int p2), none, none] [.int x1] s2 (Qi K)
  refine v_if_ne (t := 12) (q := 9) dX7_set_6 rfl (by decide) (fun c => ?_) (fun c => ?_)
  · have h := h.1 (c)
    refine v_iload_n (q := 13) dX7_set_12 rfl rfl ?_
    refine v_iconst (v := (nI 1)) (q := 14) dX7_set_13 rfl (by decide) ?_
    refine v_icmp_ne (t := 22) (q := 17) dX7_set_14 rfl (by decide) (fun c => ?_) (fun c => ?_)
    · have h := h.1 (c)
      refine v_iload_n (q := 23) dX7_set_22 rfl rfl ?_
      refine v_iconst (v := (nI 2)) (q := 24) dX7_set_23 rfl (by decide) ?_
      refine v_icmp_ne (t := 32) (q := 27) dX7_set_24 rfl (by decide) (fun c => ?_) (fun c => ?_)
      · have h := h.1 (c)
        refine v_bipush (v := (nI 100)) (q := 34) dX7_set_32 rfl (by decide) ?_
        refine v_istore_n (q := 35) dX7_set_34 rfl (by decide) rfl ?_
        exact h
      · have h := h.2 (c)
        refine v_bipush (v := (nI 80)) (q := 29) dX7_set_27 rfl (by decide) ?_
        refine v_goto (q := 34) dX7_set_29 (by decide) ?_
        refine v_istore_n (q := 35) dX7_set_34 rfl (by decide) rfl ?_
        exact h
    · have h := h.2 (c)
      refine v_bipush (v := (nI 50)) (q := 19) dX7_set_17 rfl (by decide) ?_
      refine v_goto (q := 34) dX7_set_19 (by decide) ?_
      refine v_istore_n (q := 35) dX7_set_34 rfl (by decide) rfl ?_
      exact h
  · have h := h.2 (c)
    refine v_ldc (v := (-1000001)) (q := 11) dX7_set_9 rfl cn_7_87 ?_
    exact v_iret dX7_set_11 rfl ⟨_, rfl, h⟩
theorem eX7_set {d : Nat} {σ : SS} {K : Int32 → SS → Prop} (p1 : Int32) (p2 : Int32)  (hd1 : 1 ≤ d) (h : CTi mX7_in (d - 1) [.int p1, .int (nI 0), .int (nI 4)] σ (fun x1 s2 => ((¬ x1 = 0) → (((¬ p1 = (nI 1)) → (((¬ p1 = (nI 2)) → (VV mX7_set d s00 35 [some (.ref 11), some (.int p1), some (.int p2), some (.int (nI 100)), none] [] s2 (Qi K))) ∧ ((p1 = (nI 2)) → (VV mX7_set d s00 35 [some (.ref 11), some (.int p1), some (.int p2), some (.int (nI 80)), none] [] s2 (Qi K))))) ∧ ((p1 = (nI 1)) → (VV mX7_set d s00 35 [some (.ref 11), some (.int p1), some (.int p2), some (.int (nI 50)), none] [] s2 (Qi K))))) ∧ ((x1 = 0) → (K (-1000001) s2)))) : CTi mX7_set d [.ref 11, .int p1, .int p2] σ K := CT_of (Q := (Qi K)) (by decide +kernel) rfl (by decide) (Nat.le_of_ble_eq_true rfl) rfl (bX7_set_0 p1 p2 hd1 h)
set_option maxRecDepth 20000 in
theorem bX7_set_35 {d : Nat} {σ : SS} {K : Int32 → SS → Prop} (v1 : Int32) (v2 : Int32) (v3 : Int32)  (hd1 : 1 ≤ d) (h : ((v1 = 0) → (CTi mX7_in (d - 1) [.int v2, .int (nI 1), .int v3] σ (fun x1 s2 => ((¬ x1 = 0) → (VV mX7_set d s00 60 [some (.ref 11), some (.int v1), some (.int v2), some (.int v3), none] [] s2 (Qi K))) ∧ ((x1 = 0) → (K (-1000002) s2))))) ∧ ((¬ v1 = 0) → (((¬ v1 = (nI 4)) → (CTi mX7_in (d - 1) [.int v2, .int (nI 0), .int v3] σ (fun x3 s4 => ((¬ x3 = 0) → (VV mX7_set d s00 60 [some (.ref 11), some (.int v1), some (.int v2), some (.int v3), none] [] s4 (Qi K))) ∧ ((x3 = 0) → (K (-1000002) s4))))) ∧ ((v1 = (nI 4)) → (CTi mX7_in (d - 1) [.int v2, .int (nI 1), .int v3] σ (fun x5 s6 => ((¬ x5 = 0) → (VV mX7_set d s00 60 [some (.ref 11), some (.int v1), some (.int v2), some (.int v3), none] [] s6 (Qi K))) ∧ ((x5 = 0) → (K (-1000002) s6)))))))) : VV mX7_set d s00 35 [some (.ref 11), some (.int v1), some (.int v2), some (.int v3), none] [] σ (Qi K) := by
  refine v_iload_n (q := 36) dX7_set_35 rfl rfl ?_
  refine v_iload_n (q := 37) dX7_set_36 rfl rfl ?_
  refine v_if_eq (t := 45) (q := 40) dX7_set_37 rfl (by decide) (fun c => ?_) (fun c => ?_)
  · have h := h.1 (c)
    refine v_iconst (v := (nI 1)) (q := 46) dX7_set_45 rfl (by decide) ?_
    refine v_goto (q := 50) dX7_set_46 (by decide) ?_
    refine v_iload_n (q := 51) dX7_set_50 rfl rfl ?_
    refine v_callS (As := [.int v2, .int (nI 1), .int v3]) (n := 3) (q := 54) dX7_set_51 rfl lk_7_45 hd1 rfl (Nat.le_of_ble_eq_true rfl) (CT.imp h (fun r s2 h => ?_))
    obtain ⟨x1, rfl, h⟩ := h
    show VV mX7_set d s00 54 [some (.ref 11), some (.int v1), some (.int v2), some (.int v3), none] [.int x1] s2 (Qi K)
    refine v_if_ne (t := 60) (q := 57) dX7_set_54 rfl (by decide) (fun c => ?_) (fun c => ?_)
    · have h := h.1 (c)
      exact h
    · have h := h.2 (c)
      refine v_ldc (v := (-1000002)) (q := 59) dX7_set_57 rfl cn_7_88 ?_
      exact v_iret dX7_set_59 rfl ⟨_, rfl, h⟩
  · have h := h.2 (c)
    refine v_iload_n (q := 41) dX7_set_40 rfl rfl ?_
    refine v_iconst (v := (nI 4)) (q := 42) dX7_set_41 rfl (by decide) ?_
    refine v_icmp_ne (t := 49) (q := 45) dX7_set_42 rfl (by decide) (fun c => ?_) (fun c => ?_)
    · have h := h.1 (c)
      refine v_iconst (v := (nI 0)) (q := 50) dX7_set_49 rfl (by decide) ?_
      refine v_iload_n (q := 51) dX7_set_50 rfl rfl ?_
      refine v_callS (As := [.int v2, .int (nI 0), .int v3]) (n := 3) (q := 54) dX7_set_51 rfl lk_7_45 hd1 rfl (Nat.le_of_ble_eq_true rfl) (CT.imp h (fun r s4 h => ?_))
      obtain ⟨x3, rfl, h⟩ := h
      show VV mX7_set d s00 54 [some (.ref 11), some (.int v1), some (.int v2), some (.int v3), none] [.int x3] s4 (Qi K)
      refine v_if_ne (t := 60) (q := 57) dX7_set_54 rfl (by decide) (fun c => ?_) (fun c => ?_)
      · have h := h.1 (c)
        exact h
      · have h := h.2 (c)
        refine v_ldc (v := (-1000002)) (q := 59) dX7_set_57 rfl cn_7_88 ?_
        exact v_iret dX7_set_59 rfl ⟨_, rfl, h⟩
    · have h := h.2 (c)
      refine v_iconst (v := (nI 1)) (q := 46) dX7_set_45 rfl (by decide) ?_
      refine v_goto (q := 50) dX7_set_46 (by decide) ?_
      refine v_iload_n (q := 51) dX7_set_50 rfl rfl ?_
      refine v_callS (As := [.int v2, .int (nI 1), .int v3]) (n := 3) (q := 54) dX7_set_51 rfl lk_7_45 hd1 rfl (Nat.le_of_ble_eq_true rfl) (CT.imp h (fun r s6 h => ?_))
      obtain ⟨x5, rfl, h⟩ := h
      show VV mX7_set d s00 54 [some (.ref 11), some (.int v1), some (.int v2), some (.int v3), none] [.int x5] s6 (Qi K)
      refine v_if_ne (t := 60) (q := 57) dX7_set_54 rfl (by decide) (fun c => ?_) (fun c => ?_)
      · have h := h.1 (c)
        exact h
      · have h := h.2 (c)
        refine v_ldc (v := (-1000002)) (q := 59) dX7_set_57 rfl cn_7_88 ?_
        exact v_iret dX7_set_59 rfl ⟨_, rfl, h⟩
set_option maxRecDepth 20000 in
theorem bX7_set_60 {d : Nat} {σ : SS} {K : Int32 → SS → Prop} (v1 : Int32) (v2 : Int32) (v3 : Int32)  (hd1 : 1 ≤ d) (h : CTv mX7_records (d - 1) [.ref 11] σ (fun s2 => (vp_in ((nI 5) + v1) 3270) ∧ ((vp_in ((nI 5) + v1) 3270) ∧ (K (s2.1 37 ((nI 5) + v1).toNatClampNeg) (sA s2 37 ((nI 5) + v1).toNatClampNeg v2))))) : VV mX7_set d s00 60 [some (.ref 11), some (.int v1), some (.int v2), some (.int v3), none] [] σ (Qi K) := by
  refine v_aload_n (q := 61) dX7_set_60 rfl rfl ?_
  refine v_callV (As := []) (n := 0) (q := 64) dX7_set_61 rfl lk_7_80 hd1 rfl rfl (Nat.le_of_ble_eq_true rfl) (CT.imp h (fun r s2 h => ?_))
  obtain ⟨rfl, h⟩ := h
  show VV mX7_set d s00 64 [some (.ref 11), some (.int v1), some (.int v2), some (.int v3), none] [] s2 (Qi K)
  refine v_aload_n (q := 65) dX7_set_64 rfl rfl ?_
  refine v_get (q := 68) dX7_set_65 rfl fl_7_7 rfl rfl ?_
  refine v_iconst (v := (nI 5)) (q := 69) dX7_set_68 rfl (by decide) ?_
  refine v_iload_n (q := 70) dX7_set_69 rfl rfl ?_
  refine v_iadd (q := 71) dX7_set_70 rfl ?_
  refine v_iald (q := 72) dX7_set_71 rfl (isI_d rfl) h.1 ?_
  have h := h.2
  refine v_istore (q := 74) dX7_set_72 rfl (by decide) rfl ?_
  refine v_aload_n (q := 75) dX7_set_74 rfl rfl ?_
  refine v_get (q := 78) dX7_set_75 rfl fl_7_7 rfl rfl ?_
  refine v_iconst (v := (nI 5)) (q := 79) dX7_set_78 rfl (by decide) ?_
  refine v_iload_n (q := 80) dX7_set_79 rfl rfl ?_
  refine v_iadd (q := 81) dX7_set_80 rfl ?_
  refine v_iload_n (q := 82) dX7_set_81 rfl rfl ?_
  refine v_iast (q := 83) dX7_set_82 rfl (isI_d rfl) h.1 ?_
  have h := h.2
  refine v_iload (q := 85) dX7_set_83 rfl rfl ?_
  exact v_iret dX7_set_85 rfl ⟨_, rfl, h⟩
set_option maxRecDepth 20000 in
theorem bX7_areInConflict_0 {d : Nat} {σ : SS} {K : Int32 → SS → Prop} (p1 : Int32) (p2 : Int32)  (hd1 : 1 ≤ d) (h : ((p1 = p2) → (K (nI 0) σ)) ∧ ((¬ p1 = p2) → (CTi mX7_of (d - 1) [.ref 11, .int p1, .int (nI 4)] σ (fun x1 s2 => ((¬ x1 = (nI 1)) → (K (nI 0) s2)) ∧ ((x1 = (nI 1)) → (CTi mX7_of (d - 1) [.ref 11, .int p2, .int (nI 4)] s2 (fun x3 s4 => ((¬ x3 = (nI 1)) → (K (nI 0) s4)) ∧ ((x3 = (nI 1)) → (CTi mX7_of (d - 1) [.ref 11, .int p1, .int (nI 2)] s4 (fun x5 s6 => CTi mX7_of (d - 1) [.ref 11, .int p2, .int (nI 2)] s6 (fun x7 s8 => ((x5 = x7) → (K (nI 0) s8)) ∧ ((¬ x5 = x7) → (CTi mX7_scoreOf (d - 1) [.ref 11, .int p1, .int p2] s8 (fun x9 s10 => ((¬ x9 = (nI 100)) → (K (nI 0) s10)) ∧ ((x9 = (nI 100)) → (K (nI 1) s10)))))))))))))))) : VV mX7_areInConflict d s00 0 [some (.ref 11), some (.int p1), some (.int p2)] [] σ (Qi K) := by
  refine v_iload_n (q := 1) dX7_areInConflict_0 rfl rfl ?_
  refine v_iload_n (q := 2) dX7_areInConflict_1 rfl rfl ?_
  refine v_icmp_eq (t := 55) (q := 5) dX7_areInConflict_2 rfl (by decide) (fun c => ?_) (fun c => ?_)
  · have h := h.1 (c)
    refine v_iconst (v := (nI 0)) (q := 56) dX7_areInConflict_55 rfl (by decide) ?_
    exact v_zret dX7_areInConflict_56 rfl (by decide) ⟨_, rfl, h⟩
  · have h := h.2 (c)
    refine v_aload_n (q := 6) dX7_areInConflict_5 rfl rfl ?_
    refine v_iload_n (q := 7) dX7_areInConflict_6 rfl rfl ?_
    refine v_iconst (v := (nI 4)) (q := 8) dX7_areInConflict_7 rfl (by decide) ?_
    refine v_callV (As := [.int p1, .int (nI 4)]) (n := 2) (q := 11) dX7_areInConflict_8 rfl lk_7_49 hd1 rfl rfl (Nat.le_of_ble_eq_true rfl) (CT.imp h (fun r s2 h => ?_))
    obtain ⟨x1, rfl, h⟩ := h
    show VV mX7_areInConflict d s00 11 [some (.ref 11), some (.int p1), some (.int p2)] [.int x1] s2 (Qi K)
    refine v_iconst (v := (nI 1)) (q := 12) dX7_areInConflict_11 rfl (by decide) ?_
    refine v_icmp_ne (t := 55) (q := 15) dX7_areInConflict_12 rfl (by decide) (fun c => ?_) (fun c => ?_)
    · have h := h.1 (c)
      refine v_iconst (v := (nI 0)) (q := 56) dX7_areInConflict_55 rfl (by decide) ?_
      exact v_zret dX7_areInConflict_56 rfl (by decide) ⟨_, rfl, h⟩
    · have h := h.2 (c)
      refine v_aload_n (q := 16) dX7_areInConflict_15 rfl rfl ?_
      refine v_iload_n (q := 17) dX7_areInConflict_16 rfl rfl ?_
      refine v_iconst (v := (nI 4)) (q := 18) dX7_areInConflict_17 rfl (by decide) ?_
      refine v_callV (As := [.int p2, .int (nI 4)]) (n := 2) (q := 21) dX7_areInConflict_18 rfl lk_7_49 hd1 rfl rfl (Nat.le_of_ble_eq_true rfl) (CT.imp h (fun r s4 h => ?_))
      obtain ⟨x3, rfl, h⟩ := h
      show VV mX7_areInConflict d s00 21 [some (.ref 11), some (.int p1), some (.int p2)] [.int x3] s4 (Qi K)
      refine v_iconst (v := (nI 1)) (q := 22) dX7_areInConflict_21 rfl (by decide) ?_
      refine v_icmp_ne (t := 55) (q := 25) dX7_areInConflict_22 rfl (by decide) (fun c => ?_) (fun c => ?_)
      · have h := h.1 (c)
        refine v_iconst (v := (nI 0)) (q := 56) dX7_areInConflict_55 rfl (by decide) ?_
        exact v_zret dX7_areInConflict_56 rfl (by decide) ⟨_, rfl, h⟩
      · have h := h.2 (c)
        refine v_aload_n (q := 26) dX7_areInConflict_25 rfl rfl ?_
        refine v_iload_n (q := 27) dX7_areInConflict_26 rfl rfl ?_
        refine v_iconst (v := (nI 2)) (q := 28) dX7_areInConflict_27 rfl (by decide) ?_
        refine v_callV (As := [.int p1, .int (nI 2)]) (n := 2) (q := 31) dX7_areInConflict_28 rfl lk_7_49 hd1 rfl rfl (Nat.le_of_ble_eq_true rfl) (CT.imp h (fun r s6 h => ?_))
        obtain ⟨x5, rfl, h⟩ := h
        show VV mX7_areInConflict d s00 31 [some (.ref 11), some (.int p1), some (.int p2)] [.int x5] s6 (Qi K)
        refine v_aload_n (q := 32) dX7_areInConflict_31 rfl rfl ?_
        refine v_iload_n (q := 33) dX7_areInConflict_32 rfl rfl ?_
        refine v_iconst (v := (nI 2)) (q := 34) dX7_areInConflict_33 rfl (by decide) ?_
        refine v_callV (As := [.int p2, .int (nI 2)]) (n := 2) (q := 37) dX7_areInConflict_34 rfl lk_7_49 hd1 rfl rfl (Nat.le_of_ble_eq_true rfl) (CT.imp h (fun r s8 h => ?_))
        obtain ⟨x7, rfl, h⟩ := h
        show VV mX7_areInConflict d s00 37 [some (.ref 11), some (.int p1), some (.int p2)] [.int x7, .int x5] s8 (Qi K)
        refine v_icmp_eq (t := 55) (q := 40) dX7_areInConflict_37 rfl (by decide) (fun c => ?_) (fun c => ?_)
        · have h := h.1 (c)
          refine v_iconst (v := (nI 0)) (q := 56) dX7_areInConflict_55 rfl (by decide) ?_
          exact v_zret dX7_areInConflict_56 rfl (by decide) ⟨_, rfl, h⟩
        · have h := h.2 (c)
          refine v_aload_n (q := 41) dX7_areInConflict_40 rfl rfl ?_
          refine v_iload_n (q := 42) dX7_areInConflict_41 rfl rfl ?_
          refine v_iload_n (q := 43) dX7_areInConflict_42 rfl rfl ?_
          refine v_callV (As := [.int p1, .int p2]) (n := 2) (q := 46) dX7_areInConflict_43 rfl lk_7_93 hd1 rfl rfl (Nat.le_of_ble_eq_true rfl) (CT.imp h (fun r s10 h => ?_))
          obtain ⟨x9, rfl, h⟩ := h
          show VV mX7_areInConflict d s00 46 [some (.ref 11), some (.int p1), some (.int p2)] [.int x9] s10 (Qi K)
          refine v_bipush (v := (nI 100)) (q := 48) dX7_areInConflict_46 rfl (by decide) ?_
          refine v_icmp_ne (t := 55) (q := 51) dX7_areInConflict_48 rfl (by decide) (fun c => ?_) (fun c => ?_)
          · have h := h.1 (c)
            refine v_iconst (v := (nI 0)) (q := 56) dX7_areInConflict_55 rfl (by decide) ?_
            exact v_zret dX7_areInConflict_56 rfl (by decide) ⟨_, rfl, h⟩
          · have h := h.2 (c)
            refine v_iconst (v := (nI 1)) (q := 52) dX7_areInConflict_51 rfl (by decide) ?_
            refine v_goto (q := 56) dX7_areInConflict_52 (by decide) ?_
            exact v_zret dX7_areInConflict_56 rfl (by decide) ⟨_, rfl, h⟩
theorem eX7_areInConflict {d : Nat} {σ : SS} {K : Int32 → SS → Prop} (p1 : Int32) (p2 : Int32)  (hd1 : 1 ≤ d) (h : ((p1 = p2) → (K (nI 0) σ)) ∧ ((¬ p1 = p2) → (CTi mX7_of (d - 1) [.ref 11, .int p1, .int (nI 4)] σ (fun x1 s2 => ((¬ x1 = (nI 1)) → (K (nI 0) s2)) ∧ ((x1 = (nI 1)) → (CTi mX7_of (d - 1) [.ref 11, .int p2, .int (nI 4)] s2 (fun x3 s4 => ((¬ x3 = (nI 1)) → (K (nI 0) s4)) ∧ ((x3 = (nI 1)) → (CTi mX7_of (d - 1) [.ref 11, .int p1, .int (nI 2)] s4 (fun x5 s6 => CTi mX7_of (d - 1) [.ref 11, .int p2, .int (nI 2)] s6 (fun x7 s8 => ((x5 = x7) → (K (nI 0) s8)) ∧ ((¬ x5 = x7) → (CTi mX7_scoreOf (d - 1) [.ref 11, .int p1, .int p2] s8 (fun x9 s10 => ((¬ x9 = (nI 100)) → (K (nI 0) s10)) ∧ ((x9 = (nI 100)) → (K (nI 1) s10)))))))))))))))) : CTi mX7_areInConflict d [.ref 11, .int p1, .int p2] σ K := CT_of (Q := (Qi K)) (by decide +kernel) rfl (by decide) (Nat.le_of_ble_eq_true rfl) rfl (bX7_areInConflict_0 p1 p2 hd1 h)
set_option maxRecDepth 20000 in
theorem bX7_conflicts_0 {d : Nat} {σ : SS} {K : Int32 → SS → Prop} (p1 : Int32)   (h : VV mX7_conflicts d s00 4 [some (.ref 11), some (.int p1), some (.int (nI 0)), some (.int (nI 0))] [] σ (Qi K)) : VV mX7_conflicts d s00 0 [some (.ref 11), some (.int p1), none, none] [] σ (Qi K) := by
  refine v_iconst (v := (nI 0)) (q := 1) dX7_conflicts_0 rfl (by decide) ?_
  refine v_istore_n (q := 2) dX7_conflicts_1 rfl (by decide) rfl ?_
  refine v_iconst (v := (nI 0)) (q := 3) dX7_conflicts_2 rfl (by decide) ?_
  refine v_istore_n (q := 4) dX7_conflicts_3 rfl (by decide) rfl ?_
  exact h
theorem eX7_conflicts {d : Nat} {σ : SS} {K : Int32 → SS → Prop} (p1 : Int32)   (h : VV mX7_conflicts d s00 4 [some (.ref 11), some (.int p1), some (.int (nI 0)), some (.int (nI 0))] [] σ (Qi K)) : CTi mX7_conflicts d [.ref 11, .int p1] σ K := CT_of (Q := (Qi K)) (by decide +kernel) rfl (by decide) (Nat.le_of_ble_eq_true rfl) rfl (bX7_conflicts_0 p1  h)
set_option maxRecDepth 20000 in
theorem bX7_conflicts_4 {d : Nat} {σ : SS} {K : Int32 → SS → Prop} (v1 : Int32) (v2 : Int32) (v3 : Int32)  (hd1 : 1 ≤ d) (h : (vp_in (nI 1) 3270) ∧ ((((σ.1 37 (nI 1).toNatClampNeg) ≤ v3) → (K v2 σ)) ∧ ((¬ (σ.1 37 (nI 1).toNatClampNeg) ≤ v3) → (CTi mX7_areInConflict (d - 1) [.ref 11, .int v1, .int v3] σ (fun x1 s2 => ((x1 = 0) → (VV mX7_conflicts d s00 4 [some (.ref 11), some (.int v1), some (.int (v2 + (nI 0))), some (.int (v3 + nI 1))] [] s2 (Qi K))) ∧ ((¬ x1 = 0) → (VV mX7_conflicts d s00 4 [some (.ref 11), some (.int v1), some (.int (v2 + (nI 1))), some (.int (v3 + nI 1))] [] s2 (Qi K)))))))) : VV mX7_conflicts d s00 4 [some (.ref 11), some (.int v1), some (.int v2), some (.int v3)] [] σ (Qi K) := by
  refine v_iload_n (q := 5) dX7_conflicts_4 rfl rfl ?_
  refine v_aload_n (q := 6) dX7_conflicts_5 rfl rfl ?_
  refine v_get (q := 9) dX7_conflicts_6 rfl fl_7_7 rfl rfl ?_
  refine v_iconst (v := (nI 1)) (q := 10) dX7_conflicts_9 rfl (by decide) ?_
  refine v_iald (q := 11) dX7_conflicts_10 rfl (isI_d rfl) h.1 ?_
  have h := h.2
  refine v_icmp_ge (t := 37) (q := 14) dX7_conflicts_11 rfl (by decide) (fun c => ?_) (fun c => ?_)
  · have h := h.1 (c)
    refine v_iload_n (q := 38) dX7_conflicts_37 rfl rfl ?_
    exact v_iret dX7_conflicts_38 rfl ⟨_, rfl, h⟩
  · have h := h.2 (c)
    refine v_iload_n (q := 15) dX7_conflicts_14 rfl rfl ?_
    refine v_aload_n (q := 16) dX7_conflicts_15 rfl rfl ?_
    refine v_iload_n (q := 17) dX7_conflicts_16 rfl rfl ?_
    refine v_iload_n (q := 18) dX7_conflicts_17 rfl rfl ?_
    refine v_callV (As := [.int v1, .int v3]) (n := 2) (q := 21) dX7_conflicts_18 rfl lk_7_96 hd1 rfl rfl (Nat.le_of_ble_eq_true rfl) (CT.imp h (fun r s2 h => ?_))
    obtain ⟨x1, rfl, h⟩ := h
    show VV mX7_conflicts d s00 21 [some (.ref 11), some (.int v1), some (.int v2), some (.int v3)] [.int x1, .int v2] s2 (Qi K)
    refine v_if_eq (t := 28) (q := 24) dX7_conflicts_21 rfl (by decide) (fun c => ?_) (fun c => ?_)
    · have h := h.1 (c)
      refine v_iconst (v := (nI 0)) (q := 29) dX7_conflicts_28 rfl (by decide) ?_
      refine v_iadd (q := 30) dX7_conflicts_29 rfl ?_
      refine v_istore_n (q := 31) dX7_conflicts_30 rfl (by decide) rfl ?_
      refine v_iinc (y := (v3 + nI 1)) (q := 34) dX7_conflicts_31 rfl rfl (congrArg (fun z => v3 + z) (by decide)) (by decide) rfl ?_
      refine v_goto (q := 4) dX7_conflicts_34 (by decide) ?_
      exact h
    · have h := h.2 (c)
      refine v_iconst (v := (nI 1)) (q := 25) dX7_conflicts_24 rfl (by decide) ?_
      refine v_goto (q := 29) dX7_conflicts_25 (by decide) ?_
      refine v_iadd (q := 30) dX7_conflicts_29 rfl ?_
      refine v_istore_n (q := 31) dX7_conflicts_30 rfl (by decide) rfl ?_
      refine v_iinc (y := (v3 + nI 1)) (q := 34) dX7_conflicts_31 rfl rfl (congrArg (fun z => v3 + z) (by decide)) (by decide) rfl ?_
      refine v_goto (q := 4) dX7_conflicts_34 (by decide) ?_
      exact h
set_option maxRecDepth 20000 in
theorem bX7_live_0 {d : Nat} {σ : SS} {K : Int32 → SS → Prop}    (h : VV mX7_live d s00 4 [some (.ref 11), some (.int (nI 0)), some (.int (nI 0))] [] σ (Qi K)) : VV mX7_live d s00 0 [some (.ref 11), none, none] [] σ (Qi K) := by
  refine v_iconst (v := (nI 0)) (q := 1) dX7_live_0 rfl (by decide) ?_
  refine v_istore_n (q := 2) dX7_live_1 rfl (by decide) rfl ?_
  refine v_iconst (v := (nI 0)) (q := 3) dX7_live_2 rfl (by decide) ?_
  refine v_istore_n (q := 4) dX7_live_3 rfl (by decide) rfl ?_
  exact h
theorem eX7_live {d : Nat} {σ : SS} {K : Int32 → SS → Prop}    (h : VV mX7_live d s00 4 [some (.ref 11), some (.int (nI 0)), some (.int (nI 0))] [] σ (Qi K)) : CTi mX7_live d [.ref 11] σ K := CT_of (Q := (Qi K)) (by decide +kernel) rfl (by decide) (Nat.le_of_ble_eq_true rfl) rfl (bX7_live_0   h)
set_option maxRecDepth 20000 in
theorem bX7_live_4 {d : Nat} {σ : SS} {K : Int32 → SS → Prop} (v1 : Int32) (v2 : Int32)  (hd1 : 1 ≤ d) (h : (vp_in (nI 1) 3270) ∧ ((((σ.1 37 (nI 1).toNatClampNeg) ≤ v2) → (K v1 σ)) ∧ ((¬ (σ.1 37 (nI 1).toNatClampNeg) ≤ v2) → (CTi mX7_of (d - 1) [.ref 11, .int v2, .int (nI 4)] σ (fun x1 s2 => VV mX7_live d s00 4 [some (.ref 11), some (.int (v1 + x1)), some (.int (v2 + nI 1))] [] s2 (Qi K)))))) : VV mX7_live d s00 4 [some (.ref 11), some (.int v1), some (.int v2)] [] σ (Qi K) := by
  refine v_iload_n (q := 5) dX7_live_4 rfl rfl ?_
  refine v_aload_n (q := 6) dX7_live_5 rfl rfl ?_
  refine v_get (q := 9) dX7_live_6 rfl fl_7_7 rfl rfl ?_
  refine v_iconst (v := (nI 1)) (q := 10) dX7_live_9 rfl (by decide) ?_
  refine v_iald (q := 11) dX7_live_10 rfl (isI_d rfl) h.1 ?_
  have h := h.2
  refine v_icmp_ge (t := 29) (q := 14) dX7_live_11 rfl (by decide) (fun c => ?_) (fun c => ?_)
  · have h := h.1 (c)
    refine v_iload_n (q := 30) dX7_live_29 rfl rfl ?_
    exact v_iret dX7_live_30 rfl ⟨_, rfl, h⟩
  · have h := h.2 (c)
    refine v_iload_n (q := 15) dX7_live_14 rfl rfl ?_
    refine v_aload_n (q := 16) dX7_live_15 rfl rfl ?_
    refine v_iload_n (q := 17) dX7_live_16 rfl rfl ?_
    refine v_iconst (v := (nI 4)) (q := 18) dX7_live_17 rfl (by decide) ?_
    refine v_callV (As := [.int v2, .int (nI 4)]) (n := 2) (q := 21) dX7_live_18 rfl lk_7_49 hd1 rfl rfl (Nat.le_of_ble_eq_true rfl) (CT.imp h (fun r s2 h => ?_))
    obtain ⟨x1, rfl, h⟩ := h
    show VV mX7_live d s00 21 [some (.ref 11), some (.int v1), some (.int v2)] [.int x1, .int v1] s2 (Qi K)
    refine v_iadd (q := 22) dX7_live_21 rfl ?_
    refine v_istore_n (q := 23) dX7_live_22 rfl (by decide) rfl ?_
    refine v_iinc (y := (v2 + nI 1)) (q := 26) dX7_live_23 rfl rfl (congrArg (fun z => v2 + z) (by decide)) (by decide) rfl ?_
    refine v_goto (q := 4) dX7_live_26 (by decide) ?_
    exact h
set_option maxRecDepth 20000 in
theorem bX7_paidBack_0 {d : Nat} {σ : SS} {K : Int32 → SS → Prop}    (h : VV mX7_paidBack d s00 4 [some (.ref 11), some (.int (nI 0)), some (.int (nI 0))] [] σ (Qi K)) : VV mX7_paidBack d s00 0 [some (.ref 11), none, none] [] σ (Qi K) := by
  refine v_iconst (v := (nI 0)) (q := 1) dX7_paidBack_0 rfl (by decide) ?_
  refine v_istore_n (q := 2) dX7_paidBack_1 rfl (by decide) rfl ?_
  refine v_iconst (v := (nI 0)) (q := 3) dX7_paidBack_2 rfl (by decide) ?_
  refine v_istore_n (q := 4) dX7_paidBack_3 rfl (by decide) rfl ?_
  exact h
theorem eX7_paidBack {d : Nat} {σ : SS} {K : Int32 → SS → Prop}    (h : VV mX7_paidBack d s00 4 [some (.ref 11), some (.int (nI 0)), some (.int (nI 0))] [] σ (Qi K)) : CTi mX7_paidBack d [.ref 11] σ K := CT_of (Q := (Qi K)) (by decide +kernel) rfl (by decide) (Nat.le_of_ble_eq_true rfl) rfl (bX7_paidBack_0   h)
set_option maxRecDepth 20000 in
theorem bX7_paidBack_4 {d : Nat} {σ : SS} {K : Int32 → SS → Prop} (v1 : Int32) (v2 : Int32)  (hd1 : 1 ≤ d) (h : (vp_in (nI 2) 3270) ∧ ((((σ.1 37 (nI 2).toNatClampNeg) ≤ v2) → (K v1 σ)) ∧ ((¬ (σ.1 37 (nI 2).toNatClampNeg) ≤ v2) → (CTi mX7_ofNote (d - 1) [.ref 11, .int v2, .int (nI 5)] σ (fun x1 s2 => VV mX7_paidBack d s00 4 [some (.ref 11), some (.int (v1 + x1)), some (.int (v2 + nI 1))] [] s2 (Qi K)))))) : VV mX7_paidBack d s00 4 [some (.ref 11), some (.int v1), some (.int v2)] [] σ (Qi K) := by
  refine v_iload_n (q := 5) dX7_paidBack_4 rfl rfl ?_
  refine v_aload_n (q := 6) dX7_paidBack_5 rfl rfl ?_
  refine v_get (q := 9) dX7_paidBack_6 rfl fl_7_7 rfl rfl ?_
  refine v_iconst (v := (nI 2)) (q := 10) dX7_paidBack_9 rfl (by decide) ?_
  refine v_iald (q := 11) dX7_paidBack_10 rfl (isI_d rfl) h.1 ?_
  have h := h.2
  refine v_icmp_ge (t := 29) (q := 14) dX7_paidBack_11 rfl (by decide) (fun c => ?_) (fun c => ?_)
  · have h := h.1 (c)
    refine v_iload_n (q := 30) dX7_paidBack_29 rfl rfl ?_
    exact v_iret dX7_paidBack_30 rfl ⟨_, rfl, h⟩
  · have h := h.2 (c)
    refine v_iload_n (q := 15) dX7_paidBack_14 rfl rfl ?_
    refine v_aload_n (q := 16) dX7_paidBack_15 rfl rfl ?_
    refine v_iload_n (q := 17) dX7_paidBack_16 rfl rfl ?_
    refine v_iconst (v := (nI 5)) (q := 18) dX7_paidBack_17 rfl (by decide) ?_
    refine v_callV (As := [.int v2, .int (nI 5)]) (n := 2) (q := 21) dX7_paidBack_18 rfl lk_7_100 hd1 rfl rfl (Nat.le_of_ble_eq_true rfl) (CT.imp h (fun r s2 h => ?_))
    obtain ⟨x1, rfl, h⟩ := h
    show VV mX7_paidBack d s00 21 [some (.ref 11), some (.int v1), some (.int v2)] [.int x1, .int v1] s2 (Qi K)
    refine v_iadd (q := 22) dX7_paidBack_21 rfl ?_
    refine v_istore_n (q := 23) dX7_paidBack_22 rfl (by decide) rfl ?_
    refine v_iinc (y := (v2 + nI 1)) (q := 26) dX7_paidBack_23 rfl rfl (congrArg (fun z => v2 + z) (by decide)) (by decide) rfl ?_
    refine v_goto (q := 4) dX7_paidBack_26 (by decide) ?_
    exact h
set_option maxRecDepth 20000 in
theorem bX7_allConflicts_0 {d : Nat} {σ : SS} {K : Int32 → SS → Prop}    (h : VV mX7_allConflicts d s00 4 [some (.ref 11), some (.int (nI 0)), some (.int (nI 0))] [] σ (Qi K)) : VV mX7_allConflicts d s00 0 [some (.ref 11), none, none] [] σ (Qi K) := by
  refine v_iconst (v := (nI 0)) (q := 1) dX7_allConflicts_0 rfl (by decide) ?_
  refine v_istore_n (q := 2) dX7_allConflicts_1 rfl (by decide) rfl ?_
  refine v_iconst (v := (nI 0)) (q := 3) dX7_allConflicts_2 rfl (by decide) ?_
  refine v_istore_n (q := 4) dX7_allConflicts_3 rfl (by decide) rfl ?_
  exact h
theorem eX7_allConflicts {d : Nat} {σ : SS} {K : Int32 → SS → Prop}    (h : VV mX7_allConflicts d s00 4 [some (.ref 11), some (.int (nI 0)), some (.int (nI 0))] [] σ (Qi K)) : CTi mX7_allConflicts d [.ref 11] σ K := CT_of (Q := (Qi K)) (by decide +kernel) rfl (by decide) (Nat.le_of_ble_eq_true rfl) rfl (bX7_allConflicts_0   h)
set_option maxRecDepth 20000 in
theorem bX7_allConflicts_4 {d : Nat} {σ : SS} {K : Int32 → SS → Prop} (v1 : Int32) (v2 : Int32)  (hd1 : 1 ≤ d) (h : (vp_in (nI 1) 3270) ∧ ((((σ.1 37 (nI 1).toNatClampNeg) ≤ v2) → (K (v1 / (nI 2)) σ)) ∧ ((¬ (σ.1 37 (nI 1).toNatClampNeg) ≤ v2) → (CTi mX7_conflicts (d - 1) [.ref 11, .int v2] σ (fun x1 s2 => VV mX7_allConflicts d s00 4 [some (.ref 11), some (.int (v1 + x1)), some (.int (v2 + nI 1))] [] s2 (Qi K)))))) : VV mX7_allConflicts d s00 4 [some (.ref 11), some (.int v1), some (.int v2)] [] σ (Qi K) := by
  refine v_iload_n (q := 5) dX7_allConflicts_4 rfl rfl ?_
  refine v_aload_n (q := 6) dX7_allConflicts_5 rfl rfl ?_
  refine v_get (q := 9) dX7_allConflicts_6 rfl fl_7_7 rfl rfl ?_
  refine v_iconst (v := (nI 1)) (q := 10) dX7_allConflicts_9 rfl (by decide) ?_
  refine v_iald (q := 11) dX7_allConflicts_10 rfl (isI_d rfl) h.1 ?_
  have h := h.2
  refine v_icmp_ge (t := 28) (q := 14) dX7_allConflicts_11 rfl (by decide) (fun c => ?_) (fun c => ?_)
  · have h := h.1 (c)
    refine v_iload_n (q := 29) dX7_allConflicts_28 rfl rfl ?_
    refine v_iconst (v := (nI 2)) (q := 30) dX7_allConflicts_29 rfl (by decide) ?_
    refine v_idiv (q := 31) dX7_allConflicts_30 rfl (by decide) ?_
    exact v_iret dX7_allConflicts_31 rfl ⟨_, rfl, h⟩
  · have h := h.2 (c)
    refine v_iload_n (q := 15) dX7_allConflicts_14 rfl rfl ?_
    refine v_aload_n (q := 16) dX7_allConflicts_15 rfl rfl ?_
    refine v_iload_n (q := 17) dX7_allConflicts_16 rfl rfl ?_
    refine v_callV (As := [.int v2]) (n := 1) (q := 20) dX7_allConflicts_17 rfl lk_7_103 hd1 rfl rfl (Nat.le_of_ble_eq_true rfl) (CT.imp h (fun r s2 h => ?_))
    obtain ⟨x1, rfl, h⟩ := h
    show VV mX7_allConflicts d s00 20 [some (.ref 11), some (.int v1), some (.int v2)] [.int x1, .int v1] s2 (Qi K)
    refine v_iadd (q := 21) dX7_allConflicts_20 rfl ?_
    refine v_istore_n (q := 22) dX7_allConflicts_21 rfl (by decide) rfl ?_
    refine v_iinc (y := (v2 + nI 1)) (q := 25) dX7_allConflicts_22 rfl rfl (congrArg (fun z => v2 + z) (by decide)) (by decide) rfl ?_
    refine v_goto (q := 4) dX7_allConflicts_25 (by decide) ?_
    exact h
set_option maxRecDepth 20000 in
theorem bX7_counted_0 {d : Nat} {σ : SS} {K : Int32 → SS → Prop} (p1 : Int32)  (hd1 : 1 ≤ d) (h : (((nI 2) ≤ p1) → (((¬ p1 = (nI 2)) → (((¬ p1 = (nI 3)) → (((¬ p1 = (nI 4)) → (((¬ p1 = (nI 5)) → (((¬ p1 = (nI 6)) → (((¬ p1 = (nI 7)) → (((¬ p1 = (nI 13)) → ((vp_in (((nI 5) + p1) - (nI 8)) 3270) ∧ (K (σ.1 37 (((nI 5) + p1) - (nI 8)).toNatClampNeg) σ))) ∧ ((p1 = (nI 13)) → (K (σ.2.1 10) σ)))) ∧ ((p1 = (nI 7)) → (CTi mX7_allConflicts (d - 1) [.ref 11] σ (fun x1 s2 => K x1 s2))))) ∧ ((p1 = (nI 6)) → ((vp_in (nI 4) 3270) ∧ (K (σ.1 37 (nI 4).toNatClampNeg) σ))))) ∧ ((p1 = (nI 5)) → ((vp_in (nI 3) 3270) ∧ (K (σ.1 37 (nI 3).toNatClampNeg) σ))))) ∧ ((p1 = (nI 4)) → (CTi mX7_paidBack (d - 1) [.ref 11] σ (fun x3 s4 => K x3 s4))))) ∧ ((p1 = (nI 3)) → ((vp_in (nI 2) 3270) ∧ (K (σ.1 37 (nI 2).toNatClampNeg) σ))))) ∧ ((p1 = (nI 2)) → (CTi mX7_live (d - 1) [.ref 11] σ (fun x5 s6 => K x5 s6))))) ∧ ((¬ (nI 2) ≤ p1) → ((vp_in p1 3270) ∧ (K (σ.1 37 p1.toNatClampNeg) σ)))) : VV mX7_counted d s00 0 [some (.ref 11), some (.int p1)] [] σ (Qi K) := by
  refine v_iload_n (q := 1) dX7_counted_0 rfl rfl ?_
  refine v_iconst (v := (nI 2)) (q := 2) dX7_counted_1 rfl (by decide) ?_
  refine v_icmp_ge (t := 14) (q := 5) dX7_counted_2 rfl (by decide) (fun c => ?_) (fun c => ?_)
  · have h := h.1 (c)
    refine v_iload_n (q := 15) dX7_counted_14 rfl rfl ?_
    refine v_iconst (v := (nI 2)) (q := 16) dX7_counted_15 rfl (by decide) ?_
    refine v_icmp_ne (t := 26) (q := 19) dX7_counted_16 rfl (by decide) (fun c => ?_) (fun c => ?_)
    · have h := h.1 (c)
      refine v_iload_n (q := 27) dX7_counted_26 rfl rfl ?_
      refine v_iconst (v := (nI 3)) (q := 28) dX7_counted_27 rfl (by decide) ?_
      refine v_icmp_ne (t := 40) (q := 31) dX7_counted_28 rfl (by decide) (fun c => ?_) (fun c => ?_)
      · have h := h.1 (c)
        refine v_iload_n (q := 41) dX7_counted_40 rfl rfl ?_
        refine v_iconst (v := (nI 4)) (q := 42) dX7_counted_41 rfl (by decide) ?_
        refine v_icmp_ne (t := 52) (q := 45) dX7_counted_42 rfl (by decide) (fun c => ?_) (fun c => ?_)
        · have h := h.1 (c)
          refine v_iload_n (q := 53) dX7_counted_52 rfl rfl ?_
          refine v_iconst (v := (nI 5)) (q := 54) dX7_counted_53 rfl (by decide) ?_
          refine v_icmp_ne (t := 66) (q := 57) dX7_counted_54 rfl (by decide) (fun c => ?_) (fun c => ?_)
          · have h := h.1 (c)
            refine v_iload_n (q := 67) dX7_counted_66 rfl rfl ?_
            refine v_bipush (v := (nI 6)) (q := 69) dX7_counted_67 rfl (by decide) ?_
            refine v_icmp_ne (t := 81) (q := 72) dX7_counted_69 rfl (by decide) (fun c => ?_) (fun c => ?_)
            · have h := h.1 (c)
              refine v_iload_n (q := 82) dX7_counted_81 rfl rfl ?_
              refine v_bipush (v := (nI 7)) (q := 84) dX7_counted_82 rfl (by decide) ?_
              refine v_icmp_ne (t := 94) (q := 87) dX7_counted_84 rfl (by decide) (fun c => ?_) (fun c => ?_)
              · have h := h.1 (c)
                refine v_iload_n (q := 95) dX7_counted_94 rfl rfl ?_
                refine v_bipush (v := (nI 13)) (q := 97) dX7_counted_95 rfl (by decide) ?_
                refine v_icmp_ne (t := 107) (q := 100) dX7_counted_97 rfl (by decide) (fun c => ?_) (fun c => ?_)
                · have h := h.1 (c)
                  refine v_aload_n (q := 108) dX7_counted_107 rfl rfl ?_
                  refine v_get (q := 111) dX7_counted_108 rfl fl_7_7 rfl rfl ?_
                  refine v_iconst (v := (nI 5)) (q := 112) dX7_counted_111 rfl (by decide) ?_
                  refine v_iload_n (q := 113) dX7_counted_112 rfl rfl ?_
                  refine v_iadd (q := 114) dX7_counted_113 rfl ?_
                  refine v_bipush (v := (nI 8)) (q := 116) dX7_counted_114 rfl (by decide) ?_
                  refine v_isub (q := 117) dX7_counted_116 rfl ?_
                  refine v_iald (q := 118) dX7_counted_117 rfl (isI_d rfl) h.1 ?_
                  have h := h.2
                  exact v_iret dX7_counted_118 rfl ⟨_, rfl, h⟩
                · have h := h.2 (c)
                  refine v_aload_n (q := 101) dX7_counted_100 rfl rfl ?_
                  refine v_get (q := 104) dX7_counted_101 rfl fl_7_59 rfl rfl ?_
                  refine v_goto (q := 118) dX7_counted_104 (by decide) ?_
                  exact v_iret dX7_counted_118 rfl ⟨_, rfl, h⟩
              · have h := h.2 (c)
                refine v_aload_n (q := 88) dX7_counted_87 rfl rfl ?_
                refine v_callV (As := []) (n := 0) (q := 91) dX7_counted_88 rfl lk_7_112 hd1 rfl rfl (Nat.le_of_ble_eq_true rfl) (CT.imp h (fun r s2 h => ?_))
                obtain ⟨x1, rfl, h⟩ := h
                show VV mX7_counted d s00 91 [some (.ref 11), some (.int p1)] [.int x1] s2 (Qi K)
                refine v_goto (q := 118) dX7_counted_91 (by decide) ?_
                exact v_iret dX7_counted_118 rfl ⟨_, rfl, h⟩
            · have h := h.2 (c)
              refine v_aload_n (q := 73) dX7_counted_72 rfl rfl ?_
              refine v_get (q := 76) dX7_counted_73 rfl fl_7_7 rfl rfl ?_
              refine v_iconst (v := (nI 4)) (q := 77) dX7_counted_76 rfl (by decide) ?_
              refine v_iald (q := 78) dX7_counted_77 rfl (isI_d rfl) h.1 ?_
              have h := h.2
              refine v_goto (q := 118) dX7_counted_78 (by decide) ?_
              exact v_iret dX7_counted_118 rfl ⟨_, rfl, h⟩
          · have h := h.2 (c)
            refine v_aload_n (q := 58) dX7_counted_57 rfl rfl ?_
            refine v_get (q := 61) dX7_counted_58 rfl fl_7_7 rfl rfl ?_
            refine v_iconst (v := (nI 3)) (q := 62) dX7_counted_61 rfl (by decide) ?_
            refine v_iald (q := 63) dX7_counted_62 rfl (isI_d rfl) h.1 ?_
            have h := h.2
            refine v_goto (q := 118) dX7_counted_63 (by decide) ?_
            exact v_iret dX7_counted_118 rfl ⟨_, rfl, h⟩
        · have h := h.2 (c)
          refine v_aload_n (q := 46) dX7_counted_45 rfl rfl ?_
          refine v_callV (As := []) (n := 0) (q := 49) dX7_counted_46 rfl lk_7_109 hd1 rfl rfl (Nat.le_of_ble_eq_true rfl) (CT.imp h (fun r s4 h => ?_))
          obtain ⟨x3, rfl, h⟩ := h
          show VV mX7_counted d s00 49 [some (.ref 11), some (.int p1)] [.int x3] s4 (Qi K)
          refine v_goto (q := 118) dX7_counted_49 (by decide) ?_
          exact v_iret dX7_counted_118 rfl ⟨_, rfl, h⟩
      · have h := h.2 (c)
        refine v_aload_n (q := 32) dX7_counted_31 rfl rfl ?_
        refine v_get (q := 35) dX7_counted_32 rfl fl_7_7 rfl rfl ?_
        refine v_iconst (v := (nI 2)) (q := 36) dX7_counted_35 rfl (by decide) ?_
        refine v_iald (q := 37) dX7_counted_36 rfl (isI_d rfl) h.1 ?_
        have h := h.2
        refine v_goto (q := 118) dX7_counted_37 (by decide) ?_
        exact v_iret dX7_counted_118 rfl ⟨_, rfl, h⟩
    · have h := h.2 (c)
      refine v_aload_n (q := 20) dX7_counted_19 rfl rfl ?_
      refine v_callV (As := []) (n := 0) (q := 23) dX7_counted_20 rfl lk_7_106 hd1 rfl rfl (Nat.le_of_ble_eq_true rfl) (CT.imp h (fun r s6 h => ?_))
      obtain ⟨x5, rfl, h⟩ := h
      show VV mX7_counted d s00 23 [some (.ref 11), some (.int p1)] [.int x5] s6 (Qi K)
      refine v_goto (q := 118) dX7_counted_23 (by decide) ?_
      exact v_iret dX7_counted_118 rfl ⟨_, rfl, h⟩
  · have h := h.2 (c)
    refine v_aload_n (q := 6) dX7_counted_5 rfl rfl ?_
    refine v_get (q := 9) dX7_counted_6 rfl fl_7_7 rfl rfl ?_
    refine v_iload_n (q := 10) dX7_counted_9 rfl rfl ?_
    refine v_iald (q := 11) dX7_counted_10 rfl (isI_d rfl) h.1 ?_
    have h := h.2
    refine v_goto (q := 118) dX7_counted_11 (by decide) ?_
    exact v_iret dX7_counted_118 rfl ⟨_, rfl, h⟩
theorem eX7_counted {d : Nat} {σ : SS} {K : Int32 → SS → Prop} (p1 : Int32)  (hd1 : 1 ≤ d) (h : (((nI 2) ≤ p1) → (((¬ p1 = (nI 2)) → (((¬ p1 = (nI 3)) → (((¬ p1 = (nI 4)) → (((¬ p1 = (nI 5)) → (((¬ p1 = (nI 6)) → (((¬ p1 = (nI 7)) → (((¬ p1 = (nI 13)) → ((vp_in (((nI 5) + p1) - (nI 8)) 3270) ∧ (K (σ.1 37 (((nI 5) + p1) - (nI 8)).toNatClampNeg) σ))) ∧ ((p1 = (nI 13)) → (K (σ.2.1 10) σ)))) ∧ ((p1 = (nI 7)) → (CTi mX7_allConflicts (d - 1) [.ref 11] σ (fun x1 s2 => K x1 s2))))) ∧ ((p1 = (nI 6)) → ((vp_in (nI 4) 3270) ∧ (K (σ.1 37 (nI 4).toNatClampNeg) σ))))) ∧ ((p1 = (nI 5)) → ((vp_in (nI 3) 3270) ∧ (K (σ.1 37 (nI 3).toNatClampNeg) σ))))) ∧ ((p1 = (nI 4)) → (CTi mX7_paidBack (d - 1) [.ref 11] σ (fun x3 s4 => K x3 s4))))) ∧ ((p1 = (nI 3)) → ((vp_in (nI 2) 3270) ∧ (K (σ.1 37 (nI 2).toNatClampNeg) σ))))) ∧ ((p1 = (nI 2)) → (CTi mX7_live (d - 1) [.ref 11] σ (fun x5 s6 => K x5 s6))))) ∧ ((¬ (nI 2) ≤ p1) → ((vp_in p1 3270) ∧ (K (σ.1 37 p1.toNatClampNeg) σ)))) : CTi mX7_counted d [.ref 11, .int p1] σ K := CT_of (Q := (Qi K)) (by decide +kernel) rfl (by decide) (Nat.le_of_ble_eq_true rfl) rfl (bX7_counted_0 p1 hd1 h)
set_option maxRecDepth 20000 in
theorem bX7_count_0 {d : Nat} {σ : SS} {K : Int32 → SS → Prop} (p1 : Int32)  (hd1 : 1 ≤ d) (h : CTi mX7_in (d - 1) [.int p1, .int (nI 0), .int (nI 13)] σ (fun x1 s2 => ((x1 = 0) → (K (-1000002) s2)) ∧ ((¬ x1 = 0) → (CTi mX7_counted (d - 1) [.ref 11, .int p1] s2 (fun x3 s4 => K x3 s4))))) : VV mX7_count d s00 0 [some (.ref 11), some (.int p1)] [] σ (Qi K) := by
  refine v_iload_n (q := 1) dX7_count_0 rfl rfl ?_
  refine v_iconst (v := (nI 0)) (q := 2) dX7_count_1 rfl (by decide) ?_
  refine v_bipush (v := (nI 13)) (q := 4) dX7_count_2 rfl (by decide) ?_
  refine v_callS (As := [.int p1, .int (nI 0), .int (nI 13)]) (n := 3) (q := 7) dX7_count_4 rfl lk_7_45 hd1 rfl (Nat.le_of_ble_eq_true rfl) (CT.imp h (fun r s2 h => ?_))
  obtain ⟨x1, rfl, h⟩ := h
  show VV mX7_count d s00 7 [some (.ref 11), some (.int p1)] [.int x1] s2 (Qi K)
  refine v_if_eq (t := 18) (q := 10) dX7_count_7 rfl (by decide) (fun c => ?_) (fun c => ?_)
  · have h := h.1 (c)
    refine v_ldc (v := (-1000002)) (q := 20) dX7_count_18 rfl cn_7_88 ?_
    exact v_iret dX7_count_20 rfl ⟨_, rfl, h⟩
  · have h := h.2 (c)
    refine v_aload_n (q := 11) dX7_count_10 rfl rfl ?_
    refine v_iload_n (q := 12) dX7_count_11 rfl rfl ?_
    refine v_callV (As := [.int p1]) (n := 1) (q := 15) dX7_count_12 rfl lk_7_115 hd1 rfl rfl (Nat.le_of_ble_eq_true rfl) (CT.imp h (fun r s4 h => ?_))
    obtain ⟨x3, rfl, h⟩ := h
    show VV mX7_count d s00 15 [some (.ref 11), some (.int p1)] [.int x3] s4 (Qi K)
    refine v_goto (q := 20) dX7_count_15 (by decide) ?_
    exact v_iret dX7_count_20 rfl ⟨_, rfl, h⟩
theorem eX7_count {d : Nat} {σ : SS} {K : Int32 → SS → Prop} (p1 : Int32)  (hd1 : 1 ≤ d) (h : CTi mX7_in (d - 1) [.int p1, .int (nI 0), .int (nI 13)] σ (fun x1 s2 => ((x1 = 0) → (K (-1000002) s2)) ∧ ((¬ x1 = 0) → (CTi mX7_counted (d - 1) [.ref 11, .int p1] s2 (fun x3 s4 => K x3 s4))))) : CTi mX7_count d [.ref 11, .int p1] σ K := CT_of (Q := (Qi K)) (by decide +kernel) rfl (by decide) (Nat.le_of_ble_eq_true rfl) rfl (bX7_count_0 p1 hd1 h)
set_option maxRecDepth 20000 in
theorem bX7_memberNow_0 {d : Nat} {σ : SS} {K : Int32 → SS → Prop} (p1 : Int32) (p2 : Int32)   (h : (((nI 2) ≤ p2) → (VV mX7_memberNow d s00 24 [some (.ref 11), some (.int p1), some (.int p2), some (.int (nI 0)), some (.int (nI 0))] [] σ (Qi K))) ∧ ((¬ (nI 2) ≤ p2) → ((vp_in (((nI 10) + ((nI 2) * p1)) + p2) 3270) ∧ (K (σ.1 37 (((nI 10) + ((nI 2) * p1)) + p2).toNatClampNeg) σ)))) : VV mX7_memberNow d s00 0 [some (.ref 11), some (.int p1), some (.int p2), none, none] [] σ (Qi K) := by
  refine v_iload_n (q := 1) dX7_memberNow_0 rfl rfl ?_
  refine v_iconst (v := (nI 2)) (q := 2) dX7_memberNow_1 rfl (by decide) ?_
  refine v_icmp_ge (t := 19) (q := 5) dX7_memberNow_2 rfl (by decide) (fun c => ?_) (fun c => ?_)
  · have h := h.1 (c)
    refine v_iconst (v := (nI 0)) (q := 20) dX7_memberNow_19 rfl (by decide) ?_
    refine v_istore_n (q := 21) dX7_memberNow_20 rfl (by decide) rfl ?_
    refine v_iconst (v := (nI 0)) (q := 22) dX7_memberNow_21 rfl (by decide) ?_
    refine v_istore (q := 24) dX7_memberNow_22 rfl (by decide) rfl ?_
    exact h
  · have h := h.2 (c)
    refine v_aload_n (q := 6) dX7_memberNow_5 rfl rfl ?_
    refine v_get (q := 9) dX7_memberNow_6 rfl fl_7_7 rfl rfl ?_
    refine v_bipush (v := (nI 10)) (q := 11) dX7_memberNow_9 rfl (by decide) ?_
    refine v_iconst (v := (nI 2)) (q := 12) dX7_memberNow_11 rfl (by decide) ?_
    refine v_iload_n (q := 13) dX7_memberNow_12 rfl rfl ?_
    refine v_imul (q := 14) dX7_memberNow_13 rfl ?_
    refine v_iadd (q := 15) dX7_memberNow_14 rfl ?_
    refine v_iload_n (q := 16) dX7_memberNow_15 rfl rfl ?_
    refine v_iadd (q := 17) dX7_memberNow_16 rfl ?_
    refine v_iald (q := 18) dX7_memberNow_17 rfl (isI_d rfl) h.1 ?_
    have h := h.2
    exact v_iret dX7_memberNow_18 rfl ⟨_, rfl, h⟩
theorem eX7_memberNow {d : Nat} {σ : SS} {K : Int32 → SS → Prop} (p1 : Int32) (p2 : Int32)   (h : (((nI 2) ≤ p2) → (VV mX7_memberNow d s00 24 [some (.ref 11), some (.int p1), some (.int p2), some (.int (nI 0)), some (.int (nI 0))] [] σ (Qi K))) ∧ ((¬ (nI 2) ≤ p2) → ((vp_in (((nI 10) + ((nI 2) * p1)) + p2) 3270) ∧ (K (σ.1 37 (((nI 10) + ((nI 2) * p1)) + p2).toNatClampNeg) σ)))) : CTi mX7_memberNow d [.ref 11, .int p1, .int p2] σ K := CT_of (Q := (Qi K)) (by decide +kernel) rfl (by decide) (Nat.le_of_ble_eq_true rfl) rfl (bX7_memberNow_0 p1 p2  h)
set_option maxRecDepth 20000 in
theorem bX7_memberNow_24 {d : Nat} {σ : SS} {K : Int32 → SS → Prop} (v1 : Int32) (v2 : Int32) (v3 : Int32) (v4 : Int32)  (hd1 : 1 ≤ d) (h : (vp_in (nI 1) 3270) ∧ ((((σ.1 37 (nI 1).toNatClampNeg) ≤ v4) → (VV mX7_memberNow d s00 74 [some (.ref 11), some (.int v1), some (.int v2), some (.int v3), some (.int (nI 0))] [] σ (Qi K))) ∧ ((¬ (σ.1 37 (nI 1).toNatClampNeg) ≤ v4) → (((¬ v2 = (nI 2)) → (VV mX7_memberNow d s00 74 [some (.ref 11), some (.int v1), some (.int v2), some (.int v3), some (.int (nI 0))] [] σ (Qi K))) ∧ ((v2 = (nI 2)) → (CTi mX7_of (d - 1) [.ref 11, .int v4, .int (nI 0)] σ (fun x1 s2 => ((¬ x1 = v1) → (VV mX7_memberNow d s00 24 [some (.ref 11), some (.int v1), some (.int v2), some (.int (v3 + (nI 0))), some (.int (v4 + nI 1))] [] s2 (Qi K))) ∧ ((x1 = v1) → (CTi mX7_of (d - 1) [.ref 11, .int v4, .int (nI 4)] s2 (fun x3 s4 => VV mX7_memberNow d s00 24 [some (.ref 11), some (.int v1), some (.int v2), some (.int (v3 + x3)), some (.int (v4 + nI 1))] [] s4 (Qi K))))))))))) : VV mX7_memberNow d s00 24 [some (.ref 11), some (.int v1), some (.int v2), some (.int v3), some (.int v4)] [] σ (Qi K) := by
  refine v_iload (q := 26) dX7_memberNow_24 rfl rfl ?_
  refine v_aload_n (q := 27) dX7_memberNow_26 rfl rfl ?_
  refine v_get (q := 30) dX7_memberNow_27 rfl fl_7_7 rfl rfl ?_
  refine v_iconst (v := (nI 1)) (q := 31) dX7_memberNow_30 rfl (by decide) ?_
  refine v_iald (q := 32) dX7_memberNow_31 rfl (isI_d rfl) h.1 ?_
  have h := h.2
  refine v_icmp_ge (t := 71) (q := 35) dX7_memberNow_32 rfl (by decide) (fun c => ?_) (fun c => ?_)
  · have h := h.1 (c)
    refine v_iconst (v := (nI 0)) (q := 72) dX7_memberNow_71 rfl (by decide) ?_
    refine v_istore (q := 74) dX7_memberNow_72 rfl (by decide) rfl ?_
    exact h
  · have h := h.2 (c)
    refine v_iload_n (q := 36) dX7_memberNow_35 rfl rfl ?_
    refine v_iconst (v := (nI 2)) (q := 37) dX7_memberNow_36 rfl (by decide) ?_
    refine v_icmp_ne (t := 71) (q := 40) dX7_memberNow_37 rfl (by decide) (fun c => ?_) (fun c => ?_)
    · have h := h.1 (c)
      refine v_iconst (v := (nI 0)) (q := 72) dX7_memberNow_71 rfl (by decide) ?_
      refine v_istore (q := 74) dX7_memberNow_72 rfl (by decide) rfl ?_
      exact h
    · have h := h.2 (c)
      refine v_iload_n (q := 41) dX7_memberNow_40 rfl rfl ?_
      refine v_aload_n (q := 42) dX7_memberNow_41 rfl rfl ?_
      refine v_iload (q := 44) dX7_memberNow_42 rfl rfl ?_
      refine v_iconst (v := (nI 0)) (q := 45) dX7_memberNow_44 rfl (by decide) ?_
      refine v_callV (As := [.int v4, .int (nI 0)]) (n := 2) (q := 48) dX7_memberNow_45 rfl lk_7_49 hd1 rfl rfl (Nat.le_of_ble_eq_true rfl) (CT.imp h (fun r s2 h => ?_))
      obtain ⟨x1, rfl, h⟩ := h
      show VV mX7_memberNow d s00 48 [some (.ref 11), some (.int v1), some (.int v2), some (.int v3), some (.int v4)] [.int x1, .int v3] s2 (Qi K)
      refine v_iload_n (q := 49) dX7_memberNow_48 rfl rfl ?_
      refine v_icmp_ne (t := 62) (q := 52) dX7_memberNow_49 rfl (by decide) (fun c => ?_) (fun c => ?_)
      · have h := h.1 (c)
        refine v_iconst (v := (nI 0)) (q := 63) dX7_memberNow_62 rfl (by decide) ?_
        refine v_iadd (q := 64) dX7_memberNow_63 rfl ?_
        refine v_istore_n (q := 65) dX7_memberNow_64 rfl (by decide) rfl ?_
        refine v_iinc (y := (v4 + nI 1)) (q := 68) dX7_memberNow_65 rfl rfl (congrArg (fun z => v4 + z) (by decide)) (by decide) rfl ?_
        refine v_goto (q := 24) dX7_memberNow_68 (by decide) ?_
        exact h
      · have h := h.2 (c)
        refine v_aload_n (q := 53) dX7_memberNow_52 rfl rfl ?_
        refine v_iload (q := 55) dX7_memberNow_53 rfl rfl ?_
        refine v_iconst (v := (nI 4)) (q := 56) dX7_memberNow_55 rfl (by decide) ?_
        refine v_callV (As := [.int v4, .int (nI 4)]) (n := 2) (q := 59) dX7_memberNow_56 rfl lk_7_49 hd1 rfl rfl (Nat.le_of_ble_eq_true rfl) (CT.imp h (fun r s4 h => ?_))
        obtain ⟨x3, rfl, h⟩ := h
        show VV mX7_memberNow d s00 59 [some (.ref 11), some (.int v1), some (.int v2), some (.int v3), some (.int v4)] [.int x3, .int v3] s4 (Qi K)
        refine v_goto (q := 63) dX7_memberNow_59 (by decide) ?_
        refine v_iadd (q := 64) dX7_memberNow_63 rfl ?_
        refine v_istore_n (q := 65) dX7_memberNow_64 rfl (by decide) rfl ?_
        refine v_iinc (y := (v4 + nI 1)) (q := 68) dX7_memberNow_65 rfl rfl (congrArg (fun z => v4 + z) (by decide)) (by decide) rfl ?_
        refine v_goto (q := 24) dX7_memberNow_68 (by decide) ?_
        exact h
set_option maxRecDepth 20000 in
theorem bX7_memberNow_74 {d : Nat} {σ : SS} {K : Int32 → SS → Prop} (v1 : Int32) (v2 : Int32) (v3 : Int32) (v4 : Int32)  (hd1 : 1 ≤ d) (h : (vp_in (nI 2) 3270) ∧ ((((σ.1 37 (nI 2).toNatClampNeg) ≤ v4) → (K v3 σ)) ∧ ((¬ (σ.1 37 (nI 2).toNatClampNeg) ≤ v4) → (((v2 ≤ (nI 2)) → (K v3 σ)) ∧ ((¬ v2 ≤ (nI 2)) → (((¬ v2 = (nI 3)) → (CTi mX7_ofNote (d - 1) [.ref 11, .int v4, .int (nI 5)] σ (fun x1 s2 => ((¬ x1 = 0) → (VV mX7_memberNow d s00 74 [some (.ref 11), some (.int v1), some (.int v2), some (.int (v3 + (nI 0))), some (.int (v4 + nI 1))] [] s2 (Qi K))) ∧ ((x1 = 0) → (CTi mX7_ofNote (d - 1) [.ref 11, .int v4, .int ((nI 7) + v1)] s2 (fun x3 s4 => VV mX7_memberNow d s00 74 [some (.ref 11), some (.int v1), some (.int v2), some (.int (v3 + x3)), some (.int (v4 + nI 1))] [] s4 (Qi K))))))) ∧ ((v2 = (nI 3)) → (CTi mX7_ofNote (d - 1) [.ref 11, .int v4, .int (nI 0)] σ (fun x5 s6 => ((¬ x5 = v1) → (VV mX7_memberNow d s00 74 [some (.ref 11), some (.int v1), some (.int v2), some (.int (v3 + (nI 0))), some (.int (v4 + nI 1))] [] s6 (Qi K))) ∧ ((x5 = v1) → (VV mX7_memberNow d s00 74 [some (.ref 11), some (.int v1), some (.int v2), some (.int (v3 + (nI 1))), some (.int (v4 + nI 1))] [] s6 (Qi K)))))))))))) : VV mX7_memberNow d s00 74 [some (.ref 11), some (.int v1), some (.int v2), some (.int v3), some (.int v4)] [] σ (Qi K) := by
  refine v_iload (q := 76) dX7_memberNow_74 rfl rfl ?_
  refine v_aload_n (q := 77) dX7_memberNow_76 rfl rfl ?_
  refine v_get (q := 80) dX7_memberNow_77 rfl fl_7_7 rfl rfl ?_
  refine v_iconst (v := (nI 2)) (q := 81) dX7_memberNow_80 rfl (by decide) ?_
  refine v_iald (q := 82) dX7_memberNow_81 rfl (isI_d rfl) h.1 ?_
  have h := h.2
  refine v_icmp_ge (t := 147) (q := 85) dX7_memberNow_82 rfl (by decide) (fun c => ?_) (fun c => ?_)
  · have h := h.1 (c)
    refine v_iload_n (q := 148) dX7_memberNow_147 rfl rfl ?_
    exact v_iret dX7_memberNow_148 rfl ⟨_, rfl, h⟩
  · have h := h.2 (c)
    refine v_iload_n (q := 86) dX7_memberNow_85 rfl rfl ?_
    refine v_iconst (v := (nI 2)) (q := 87) dX7_memberNow_86 rfl (by decide) ?_
    refine v_icmp_le (t := 147) (q := 90) dX7_memberNow_87 rfl (by decide) (fun c => ?_) (fun c => ?_)
    · have h := h.1 (c)
      refine v_iload_n (q := 148) dX7_memberNow_147 rfl rfl ?_
      exact v_iret dX7_memberNow_148 rfl ⟨_, rfl, h⟩
    · have h := h.2 (c)
      refine v_iload_n (q := 91) dX7_memberNow_90 rfl rfl ?_
      refine v_iload_n (q := 92) dX7_memberNow_91 rfl rfl ?_
      refine v_iconst (v := (nI 3)) (q := 93) dX7_memberNow_92 rfl (by decide) ?_
      refine v_icmp_ne (t := 115) (q := 96) dX7_memberNow_93 rfl (by decide) (fun c => ?_) (fun c => ?_)
      · have h := h.1 (c)
        refine v_aload_n (q := 116) dX7_memberNow_115 rfl rfl ?_
        refine v_iload (q := 118) dX7_memberNow_116 rfl rfl ?_
        refine v_iconst (v := (nI 5)) (q := 119) dX7_memberNow_118 rfl (by decide) ?_
        refine v_callV (As := [.int v4, .int (nI 5)]) (n := 2) (q := 122) dX7_memberNow_119 rfl lk_7_100 hd1 rfl rfl (Nat.le_of_ble_eq_true rfl) (CT.imp h (fun r s2 h => ?_))
        obtain ⟨x1, rfl, h⟩ := h
        show VV mX7_memberNow d s00 122 [some (.ref 11), some (.int v1), some (.int v2), some (.int v3), some (.int v4)] [.int x1, .int v3] s2 (Qi K)
        refine v_if_ne (t := 138) (q := 125) dX7_memberNow_122 rfl (by decide) (fun c => ?_) (fun c => ?_)
        · have h := h.1 (c)
          refine v_iconst (v := (nI 0)) (q := 139) dX7_memberNow_138 rfl (by decide) ?_
          refine v_iadd (q := 140) dX7_memberNow_139 rfl ?_
          refine v_istore_n (q := 141) dX7_memberNow_140 rfl (by decide) rfl ?_
          refine v_iinc (y := (v4 + nI 1)) (q := 144) dX7_memberNow_141 rfl rfl (congrArg (fun z => v4 + z) (by decide)) (by decide) rfl ?_
          refine v_goto (q := 74) dX7_memberNow_144 (by decide) ?_
          exact h
        · have h := h.2 (c)
          refine v_aload_n (q := 126) dX7_memberNow_125 rfl rfl ?_
          refine v_iload (q := 128) dX7_memberNow_126 rfl rfl ?_
          refine v_bipush (v := (nI 7)) (q := 130) dX7_memberNow_128 rfl (by decide) ?_
          refine v_iload_n (q := 131) dX7_memberNow_130 rfl rfl ?_
          refine v_iadd (q := 132) dX7_memberNow_131 rfl ?_
          refine v_callV (As := [.int v4, .int ((nI 7) + v1)]) (n := 2) (q := 135) dX7_memberNow_132 rfl lk_7_100 hd1 rfl rfl (Nat.le_of_ble_eq_true rfl) (CT.imp h (fun r s4 h => ?_))
          obtain ⟨x3, rfl, h⟩ := h
          show VV mX7_memberNow d s00 135 [some (.ref 11), some (.int v1), some (.int v2), some (.int v3), some (.int v4)] [.int x3, .int v3] s4 (Qi K)
          refine v_goto (q := 139) dX7_memberNow_135 (by decide) ?_
          refine v_iadd (q := 140) dX7_memberNow_139 rfl ?_
          refine v_istore_n (q := 141) dX7_memberNow_140 rfl (by decide) rfl ?_
          refine v_iinc (y := (v4 + nI 1)) (q := 144) dX7_memberNow_141 rfl rfl (congrArg (fun z => v4 + z) (by decide)) (by decide) rfl ?_
          refine v_goto (q := 74) dX7_memberNow_144 (by decide) ?_
          exact h
      · have h := h.2 (c)
        refine v_aload_n (q := 97) dX7_memberNow_96 rfl rfl ?_
        refine v_iload (q := 99) dX7_memberNow_97 rfl rfl ?_
        refine v_iconst (v := (nI 0)) (q := 100) dX7_memberNow_99 rfl (by decide) ?_
        refine v_callV (As := [.int v4, .int (nI 0)]) (n := 2) (q := 103) dX7_memberNow_100 rfl lk_7_100 hd1 rfl rfl (Nat.le_of_ble_eq_true rfl) (CT.imp h (fun r s6 h => ?_))
        obtain ⟨x5, rfl, h⟩ := h
        show VV mX7_memberNow d s00 103 [some (.ref 11), some (.int v1), some (.int v2), some (.int v3), some (.int v4)] [.int x5, .int v3] s6 (Qi K)
        refine v_iload_n (q := 104) dX7_memberNow_103 rfl rfl ?_
        refine v_icmp_ne (t := 111) (q := 107) dX7_memberNow_104 rfl (by decide) (fun c => ?_) (fun c => ?_)
        · have h := h.1 (c)
          refine v_iconst (v := (nI 0)) (q := 112) dX7_memberNow_111 rfl (by decide) ?_
          refine v_goto (q := 139) dX7_memberNow_112 (by decide) ?_
          refine v_iadd (q := 140) dX7_memberNow_139 rfl ?_
          refine v_istore_n (q := 141) dX7_memberNow_140 rfl (by decide) rfl ?_
          refine v_iinc (y := (v4 + nI 1)) (q := 144) dX7_memberNow_141 rfl rfl (congrArg (fun z => v4 + z) (by decide)) (by decide) rfl ?_
          refine v_goto (q := 74) dX7_memberNow_144 (by decide) ?_
          exact h
        · have h := h.2 (c)
          refine v_iconst (v := (nI 1)) (q := 108) dX7_memberNow_107 rfl (by decide) ?_
          refine v_goto (q := 139) dX7_memberNow_108 (by decide) ?_
          refine v_iadd (q := 140) dX7_memberNow_139 rfl ?_
          refine v_istore_n (q := 141) dX7_memberNow_140 rfl (by decide) rfl ?_
          refine v_iinc (y := (v4 + nI 1)) (q := 144) dX7_memberNow_141 rfl rfl (congrArg (fun z => v4 + z) (by decide)) (by decide) rfl ?_
          refine v_goto (q := 74) dX7_memberNow_144 (by decide) ?_
          exact h
set_option maxRecDepth 20000 in
theorem bX7_member_0 {d : Nat} {σ : SS} {K : Int32 → SS → Prop} (p1 : Int32) (p2 : Int32)  (hd1 : 1 ≤ d) (h : CTi mX7_isMember (d - 1) [.ref 11, .int p1] σ (fun x1 s2 => ((¬ x1 = 0) → (CTi mX7_in (d - 1) [.int p2, .int (nI 0), .int (nI 4)] s2 (fun x3 s4 => ((x3 = 0) → (K (-1000002) s4)) ∧ ((¬ x3 = 0) → (CTi mX7_memberNow (d - 1) [.ref 11, .int p1, .int p2] s4 (fun x5 s6 => K x5 s6)))))) ∧ ((x1 = 0) → (K (-1000001) s2)))) : VV mX7_member d s00 0 [some (.ref 11), some (.int p1), some (.int p2)] [] σ (Qi K) := by
  refine v_aload_n (q := 1) dX7_member_0 rfl rfl ?_
  refine v_iload_n (q := 2) dX7_member_1 rfl rfl ?_
  refine v_callV (As := [.int p1]) (n := 1) (q := 5) dX7_member_2 rfl lk_7_83 hd1 rfl rfl (Nat.le_of_ble_eq_true rfl) (CT.imp h (fun r s2 h => ?_))
  obtain ⟨x1, rfl, h⟩ := h
  show VV mX7_member d s00 5 [some (.ref 11), some (.int p1), some (.int p2)] [.int x1] s2 (Qi K)
  refine v_if_ne (t := 11) (q := 8) dX7_member_5 rfl (by decide) (fun c => ?_) (fun c => ?_)
  · have h := h.1 (c)
    refine v_iload_n (q := 12) dX7_member_11 rfl rfl ?_
    refine v_iconst (v := (nI 0)) (q := 13) dX7_member_12 rfl (by decide) ?_
    refine v_iconst (v := (nI 4)) (q := 14) dX7_member_13 rfl (by decide) ?_
    refine v_callS (As := [.int p2, .int (nI 0), .int (nI 4)]) (n := 3) (q := 17) dX7_member_14 rfl lk_7_45 hd1 rfl (Nat.le_of_ble_eq_true rfl) (CT.imp h (fun r s4 h => ?_))
    obtain ⟨x3, rfl, h⟩ := h
    show VV mX7_member d s00 17 [some (.ref 11), some (.int p1), some (.int p2)] [.int x3] s4 (Qi K)
    refine v_if_eq (t := 29) (q := 20) dX7_member_17 rfl (by decide) (fun c => ?_) (fun c => ?_)
    · have h := h.1 (c)
      refine v_ldc (v := (-1000002)) (q := 31) dX7_member_29 rfl cn_7_88 ?_
      exact v_iret dX7_member_31 rfl ⟨_, rfl, h⟩
    · have h := h.2 (c)
      refine v_aload_n (q := 21) dX7_member_20 rfl rfl ?_
      refine v_iload_n (q := 22) dX7_member_21 rfl rfl ?_
      refine v_iload_n (q := 23) dX7_member_22 rfl rfl ?_
      refine v_callV (As := [.int p1, .int p2]) (n := 2) (q := 26) dX7_member_23 rfl lk_7_118 hd1 rfl rfl (Nat.le_of_ble_eq_true rfl) (CT.imp h (fun r s6 h => ?_))
      obtain ⟨x5, rfl, h⟩ := h
      show VV mX7_member d s00 26 [some (.ref 11), some (.int p1), some (.int p2)] [.int x5] s6 (Qi K)
      refine v_goto (q := 31) dX7_member_26 (by decide) ?_
      exact v_iret dX7_member_31 rfl ⟨_, rfl, h⟩
  · have h := h.2 (c)
    refine v_ldc (v := (-1000001)) (q := 10) dX7_member_8 rfl cn_7_87 ?_
    exact v_iret dX7_member_10 rfl ⟨_, rfl, h⟩
theorem eX7_member {d : Nat} {σ : SS} {K : Int32 → SS → Prop} (p1 : Int32) (p2 : Int32)  (hd1 : 1 ≤ d) (h : CTi mX7_isMember (d - 1) [.ref 11, .int p1] σ (fun x1 s2 => ((¬ x1 = 0) → (CTi mX7_in (d - 1) [.int p2, .int (nI 0), .int (nI 4)] s2 (fun x3 s4 => ((x3 = 0) → (K (-1000002) s4)) ∧ ((¬ x3 = 0) → (CTi mX7_memberNow (d - 1) [.ref 11, .int p1, .int p2] s4 (fun x5 s6 => K x5 s6)))))) ∧ ((x1 = 0) → (K (-1000001) s2)))) : CTi mX7_member d [.ref 11, .int p1, .int p2] σ K := CT_of (Q := (Qi K)) (by decide +kernel) rfl (by decide) (Nat.le_of_ble_eq_true rfl) rfl (bX7_member_0 p1 p2 hd1 h)
set_option maxRecDepth 20000 in
theorem bX7_addPhrase_0 {d : Nat} {σ : SS} {K : Int32 → SS → Prop} (p1 : Int32) (p2 : Int32) (p3 : Int32)  (hd1 : 1 ≤ d) (h : CTi mX7_isMember (d - 1) [.ref 11, .int p1] σ (fun x1 s2 => ((x1 = 0) → (K (-1000001) s2)) ∧ ((¬ x1 = 0) → (((p3 = (-1000000)) → (VV mX7_addPhrase d s00 25 [some (.ref 11), some (.int p1), some (.int p2), some (.int p3), none, none] [] s2 (Qi K))) ∧ ((¬ p3 = (-1000000)) → (CTi mX7_isPhrase (d - 1) [.ref 11, .int p3] s2 (fun x3 s4 => ((¬ x3 = 0) → (VV mX7_addPhrase d s00 25 [some (.ref 11), some (.int p1), some (.int p2), some (.int p3), none, none] [] s4 (Qi K))) ∧ ((x3 = 0) → (K (-1000001) s4))))))))) : VV mX7_addPhrase d s00 0 [some (.ref 11), some (.int p1), some (.int p2), some (.int p3), none, none] [] σ (Qi K) := by
  refine v_aload_n (q := 1) dX7_addPhrase_0 rfl rfl ?_
  refine v_iload_n (q := 2) dX7_addPhrase_1 rfl rfl ?_
  refine v_callV (As := [.int p1]) (n := 1) (q := 5) dX7_addPhrase_2 rfl lk_7_83 hd1 rfl rfl (Nat.le_of_ble_eq_true rfl) (CT.imp h (fun r s2 h => ?_))
  obtain ⟨x1, rfl, h⟩ := h
  show VV mX7_addPhrase d s00 5 [some (.ref 11), some (.int p1), some (.int p2), some (.int p3), none, none] [.int x1] s2 (Qi K)
  refine v_if_eq (t := 22) (q := 8) dX7_addPhrase_5 rfl (by decide) (fun c => ?_) (fun c => ?_)
  · have h := h.1 (c)
    refine v_ldc (v := (-1000001)) (q := 24) dX7_addPhrase_22 rfl cn_7_87 ?_
    exact v_iret dX7_addPhrase_24 rfl ⟨_, rfl, h⟩
  · have h := h.2 (c)
    refine v_iload_n (q := 9) dX7_addPhrase_8 rfl rfl ?_
    refine v_ldc (v := (-1000000)) (q := 11) dX7_addPhrase_9 rfl cn_7_121 ?_
    refine v_icmp_eq (t := 25) (q := 14) dX7_addPhrase_11 rfl (by decide) (fun c => ?_) (fun c => ?_)
    · have h := h.1 (c)
      exact h
    · have h := h.2 (c)
      refine v_aload_n (q := 15) dX7_addPhrase_14 rfl rfl ?_
      refine v_iload_n (q := 16) dX7_addPhrase_15 rfl rfl ?_
      refine v_callV (As := [.int p3]) (n := 1) (q := 19) dX7_addPhrase_16 rfl lk_7_122 hd1 rfl rfl (Nat.le_of_ble_eq_true rfl) (CT.imp h (fun r s4 h => ?_))
      obtain ⟨x3, rfl, h⟩ := h
      show VV mX7_addPhrase d s00 19 [some (.ref 11), some (.int p1), some (.int p2), some (.int p3), none, none] [.int x3] s4 (Qi K)
      refine v_if_ne (t := 25) (q := 22) dX7_addPhrase_19 rfl (by decide) (fun c => ?_) (fun c => ?_)
      · have h := h.1 (c)
        exact h
      · have h := h.2 (c)
        refine v_ldc (v := (-1000001)) (q := 24) dX7_addPhrase_22 rfl cn_7_87 ?_
        exact v_iret dX7_addPhrase_24 rfl ⟨_, rfl, h⟩
theorem eX7_addPhrase {d : Nat} {σ : SS} {K : Int32 → SS → Prop} (p1 : Int32) (p2 : Int32) (p3 : Int32)  (hd1 : 1 ≤ d) (h : CTi mX7_isMember (d - 1) [.ref 11, .int p1] σ (fun x1 s2 => ((x1 = 0) → (K (-1000001) s2)) ∧ ((¬ x1 = 0) → (((p3 = (-1000000)) → (VV mX7_addPhrase d s00 25 [some (.ref 11), some (.int p1), some (.int p2), some (.int p3), none, none] [] s2 (Qi K))) ∧ ((¬ p3 = (-1000000)) → (CTi mX7_isPhrase (d - 1) [.ref 11, .int p3] s2 (fun x3 s4 => ((¬ x3 = 0) → (VV mX7_addPhrase d s00 25 [some (.ref 11), some (.int p1), some (.int p2), some (.int p3), none, none] [] s4 (Qi K))) ∧ ((x3 = 0) → (K (-1000001) s4))))))))) : CTi mX7_addPhrase d [.ref 11, .int p1, .int p2, .int p3] σ K := CT_of (Q := (Qi K)) (by decide +kernel) rfl (by decide) (Nat.le_of_ble_eq_true rfl) rfl (bX7_addPhrase_0 p1 p2 p3 hd1 h)
set_option maxRecDepth 20000 in
theorem bX7_addPhrase_25 {d : Nat} {σ : SS} {K : Int32 → SS → Prop} (v1 : Int32) (v2 : Int32) (v3 : Int32)  (hd1 : 1 ≤ d) (h : CTi mX7_in (d - 1) [.int v2, .int (nI 0), .int (nI 999)] σ (fun x1 s2 => ((¬ x1 = 0) → (CTi mX7_textFault (d - 1) [.ref 11] s2 (fun x3 s4 => ((¬ x3 = (-1000000)) → (K (-1000003) s4)) ∧ ((x3 = (-1000000)) → (((v3 = (-1000000)) → (VV mX7_addPhrase d s00 66 [some (.ref 11), some (.int v1), some (.int v2), some (.int v3), none, none] [] s4 (Qi K))) ∧ ((¬ v3 = (-1000000)) → (CTi mX7_of (d - 1) [.ref 11, .int v3, .int (nI 4)] s4 (fun x5 s6 => ((¬ x5 = 0) → (VV mX7_addPhrase d s00 66 [some (.ref 11), some (.int v1), some (.int v2), some (.int v3), none, none] [] s6 (Qi K))) ∧ ((x5 = 0) → (K (-1000003) s6)))))))))) ∧ ((x1 = 0) → (K (-1000002) s2)))) : VV mX7_addPhrase d s00 25 [some (.ref 11), some (.int v1), some (.int v2), some (.int v3), none, none] [] σ (Qi K) := by
  refine v_iload_n (q := 26) dX7_addPhrase_25 rfl rfl ?_
  refine v_iconst (v := (nI 0)) (q := 27) dX7_addPhrase_26 rfl (by decide) ?_
  refine v_sipush (v := (nI 999)) (q := 30) dX7_addPhrase_27 rfl (by decide) ?_
  refine v_callS (As := [.int v2, .int (nI 0), .int (nI 999)]) (n := 3) (q := 33) dX7_addPhrase_30 rfl lk_7_45 hd1 rfl (Nat.le_of_ble_eq_true rfl) (CT.imp h (fun r s2 h => ?_))
  obtain ⟨x1, rfl, h⟩ := h
  show VV mX7_addPhrase d s00 33 [some (.ref 11), some (.int v1), some (.int v2), some (.int v3), none, none] [.int x1] s2 (Qi K)
  refine v_if_ne (t := 39) (q := 36) dX7_addPhrase_33 rfl (by decide) (fun c => ?_) (fun c => ?_)
  · have h := h.1 (c)
    refine v_aload_n (q := 40) dX7_addPhrase_39 rfl rfl ?_
    refine v_callV (As := []) (n := 0) (q := 43) dX7_addPhrase_40 rfl lk_7_125 hd1 rfl rfl (Nat.le_of_ble_eq_true rfl) (CT.imp h (fun r s4 h => ?_))
    obtain ⟨x3, rfl, h⟩ := h
    show VV mX7_addPhrase d s00 43 [some (.ref 11), some (.int v1), some (.int v2), some (.int v3), none, none] [.int x3] s4 (Qi K)
    refine v_ldc (v := (-1000000)) (q := 45) dX7_addPhrase_43 rfl cn_7_121 ?_
    refine v_icmp_ne (t := 63) (q := 48) dX7_addPhrase_45 rfl (by decide) (fun c => ?_) (fun c => ?_)
    · have h := h.1 (c)
      refine v_ldc (v := (-1000003)) (q := 65) dX7_addPhrase_63 rfl cn_7_128 ?_
      exact v_iret dX7_addPhrase_65 rfl ⟨_, rfl, h⟩
    · have h := h.2 (c)
      refine v_iload_n (q := 49) dX7_addPhrase_48 rfl rfl ?_
      refine v_ldc (v := (-1000000)) (q := 51) dX7_addPhrase_49 rfl cn_7_121 ?_
      refine v_icmp_eq (t := 66) (q := 54) dX7_addPhrase_51 rfl (by decide) (fun c => ?_) (fun c => ?_)
      · have h := h.1 (c)
        exact h
      · have h := h.2 (c)
        refine v_aload_n (q := 55) dX7_addPhrase_54 rfl rfl ?_
        refine v_iload_n (q := 56) dX7_addPhrase_55 rfl rfl ?_
        refine v_iconst (v := (nI 4)) (q := 57) dX7_addPhrase_56 rfl (by decide) ?_
        refine v_callV (As := [.int v3, .int (nI 4)]) (n := 2) (q := 60) dX7_addPhrase_57 rfl lk_7_49 hd1 rfl rfl (Nat.le_of_ble_eq_true rfl) (CT.imp h (fun r s6 h => ?_))
        obtain ⟨x5, rfl, h⟩ := h
        show VV mX7_addPhrase d s00 60 [some (.ref 11), some (.int v1), some (.int v2), some (.int v3), none, none] [.int x5] s6 (Qi K)
        refine v_if_ne (t := 66) (q := 63) dX7_addPhrase_60 rfl (by decide) (fun c => ?_) (fun c => ?_)
        · have h := h.1 (c)
          exact h
        · have h := h.2 (c)
          refine v_ldc (v := (-1000003)) (q := 65) dX7_addPhrase_63 rfl cn_7_128 ?_
          exact v_iret dX7_addPhrase_65 rfl ⟨_, rfl, h⟩
  · have h := h.2 (c)
    refine v_ldc (v := (-1000002)) (q := 38) dX7_addPhrase_36 rfl cn_7_88 ?_
    exact v_iret dX7_addPhrase_38 rfl ⟨_, rfl, h⟩
set_option maxRecDepth 20000 in
theorem bX7_addPhrase_66 {d : Nat} {σ : SS} {K : Int32 → SS → Prop} (v1 : Int32) (v2 : Int32) (v3 : Int32)  (hd1 : 1 ≤ d) (h : (vp_in (nI 1) 3270) ∧ (((¬ (σ.1 37 (nI 1).toNatClampNeg) = (nI 20)) → (CTv mX7_records (d - 1) [.ref 11] σ (fun s2 => (vp_in (nI 1) 3270) ∧ (CTv mX7_setsText (d - 1) [.ref 11] s2 (fun s4 => (vp_in (((nI 22) + ((nI 16) * (s2.1 37 (nI 1).toNatClampNeg))) + (nI 0)) 3270) ∧ ((vp_in (((nI 22) + ((nI 16) * (s2.1 37 (nI 1).toNatClampNeg))) + (nI 1)) 3270) ∧ ((vp_in (((nI 22) + ((nI 16) * (s2.1 37 (nI 1).toNatClampNeg))) + (nI 2)) 3270) ∧ ((vp_in (((nI 22) + ((nI 16) * (s2.1 37 (nI 1).toNatClampNeg))) + (nI 3)) 3270) ∧ ((vp_in (((nI 22) + ((nI 16) * (s2.1 37 (nI 1).toNatClampNeg))) + (nI 4)) 3270) ∧ ((vp_in (((nI 22) + ((nI 16) * (s2.1 37 (nI 1).toNatClampNeg))) + (nI 5)) 3270) ∧ (VV mX7_addPhrase d s00 168 [some (.ref 11), some (.int v1), some (.int v2), some (.int v3), some (.int ((nI 22) + ((nI 16) * (s2.1 37 (nI 1).toNatClampNeg)))), some (.int (nI 0))] [] (sA (sA (sA (sA (sA (sA s4 37 (((nI 22) + ((nI 16) * (s2.1 37 (nI 1).toNatClampNeg))) + (nI 0)).toNatClampNeg v1) 37 (((nI 22) + ((nI 16) * (s2.1 37 (nI 1).toNatClampNeg))) + (nI 1)).toNatClampNeg ((sA s4 37 (((nI 22) + ((nI 16) * (s2.1 37 (nI 1).toNatClampNeg))) + (nI 0)).toNatClampNeg v1).2.1 8)) 37 (((nI 22) + ((nI 16) * (s2.1 37 (nI 1).toNatClampNeg))) + (nI 2)).toNatClampNeg v2) 37 (((nI 22) + ((nI 16) * (s2.1 37 (nI 1).toNatClampNeg))) + (nI 3)).toNatClampNeg v3) 37 (((nI 22) + ((nI 16) * (s2.1 37 (nI 1).toNatClampNeg))) + (nI 4)).toNatClampNeg (nI 1)) 37 (((nI 22) + ((nI 16) * (s2.1 37 (nI 1).toNatClampNeg))) + (nI 5)).toNatClampNeg (nI 0)) (Qi K)))))))))))) ∧ (((σ.1 37 (nI 1).toNatClampNeg) = (nI 20)) → (K (-1000004) σ)))) : VV mX7_addPhrase d s00 66 [some (.ref 11), some (.int v1), some (.int v2), some (.int v3), none, none] [] σ (Qi K) := by
  refine v_aload_n (q := 67) dX7_addPhrase_66 rfl rfl ?_
  refine v_get (q := 70) dX7_addPhrase_67 rfl fl_7_7 rfl rfl ?_
  refine v_iconst (v := (nI 1)) (q := 71) dX7_addPhrase_70 rfl (by decide) ?_
  refine v_iald (q := 72) dX7_addPhrase_71 rfl (isI_d rfl) h.1 ?_
  have h := h.2
  refine v_bipush (v := (nI 20)) (q := 74) dX7_addPhrase_72 rfl (by decide) ?_
  refine v_icmp_ne (t := 80) (q := 77) dX7_addPhrase_74 rfl (by decide) (fun c => ?_) (fun c => ?_)
  · have h := h.1 (c)
    refine v_aload_n (q := 81) dX7_addPhrase_80 rfl rfl ?_
    refine v_callV (As := []) (n := 0) (q := 84) dX7_addPhrase_81 rfl lk_7_80 hd1 rfl rfl (Nat.le_of_ble_eq_true rfl) (CT.imp h (fun r s2 h => ?_))
    obtain ⟨rfl, h⟩ := h
    show VV mX7_addPhrase d s00 84 [some (.ref 11), some (.int v1), some (.int v2), some (.int v3), none, none] [] s2 (Qi K)
    refine v_bipush (v := (nI 22)) (q := 86) dX7_addPhrase_84 rfl (by decide) ?_
    refine v_bipush (v := (nI 16)) (q := 88) dX7_addPhrase_86 rfl (by decide) ?_
    refine v_aload_n (q := 89) dX7_addPhrase_88 rfl rfl ?_
    refine v_get (q := 92) dX7_addPhrase_89 rfl fl_7_7 rfl rfl ?_
    refine v_iconst (v := (nI 1)) (q := 93) dX7_addPhrase_92 rfl (by decide) ?_
    refine v_iald (q := 94) dX7_addPhrase_93 rfl (isI_d rfl) h.1 ?_
    have h := h.2
    refine v_imul (q := 95) dX7_addPhrase_94 rfl ?_
    refine v_iadd (q := 96) dX7_addPhrase_95 rfl ?_
    refine v_istore (q := 98) dX7_addPhrase_96 rfl (by decide) rfl ?_
    refine v_aload_n (q := 99) dX7_addPhrase_98 rfl rfl ?_
    refine v_callV (As := []) (n := 0) (q := 102) dX7_addPhrase_99 rfl lk_7_76 hd1 rfl rfl (Nat.le_of_ble_eq_true rfl) (CT.imp h (fun r s4 h => ?_))
    obtain ⟨rfl, h⟩ := h
    show VV mX7_addPhrase d s00 102 [some (.ref 11), some (.int v1), some (.int v2), some (.int v3), some (.int ((nI 22) + ((nI 16) * (s2.1 37 (nI 1).toNatClampNeg)))), none] [] s4 (Qi K)
    refine v_aload_n (q := 103) dX7_addPhrase_102 rfl rfl ?_
    refine v_get (q := 106) dX7_addPhrase_103 rfl fl_7_7 rfl rfl ?_
    refine v_iload (q := 108) dX7_addPhrase_106 rfl rfl ?_
    refine v_iconst (v := (nI 0)) (q := 109) dX7_addPhrase_108 rfl (by decide) ?_
    refine v_iadd (q := 110) dX7_addPhrase_109 rfl ?_
    refine v_iload_n (q := 111) dX7_addPhrase_110 rfl rfl ?_
    refine v_iast (q := 112) dX7_addPhrase_111 rfl (isI_d rfl) h.1 ?_
    have h := h.2
    refine v_aload_n (q := 113) dX7_addPhrase_112 rfl rfl ?_
    refine v_get (q := 116) dX7_addPhrase_113 rfl fl_7_7 rfl rfl ?_
    refine v_iload (q := 118) dX7_addPhrase_116 rfl rfl ?_
    refine v_iconst (v := (nI 1)) (q := 119) dX7_addPhrase_118 rfl (by decide) ?_
    refine v_iadd (q := 120) dX7_addPhrase_119 rfl ?_
    refine v_aload_n (q := 121) dX7_addPhrase_120 rfl rfl ?_
    refine v_get (q := 124) dX7_addPhrase_121 rfl fl_7_53 rfl rfl ?_
    refine v_iast (q := 125) dX7_addPhrase_124 rfl (isI_d rfl) h.1 ?_
    have h := h.2
    refine v_aload_n (q := 126) dX7_addPhrase_125 rfl rfl ?_
    refine v_get (q := 129) dX7_addPhrase_126 rfl fl_7_7 rfl rfl ?_
    refine v_iload (q := 131) dX7_addPhrase_129 rfl rfl ?_
    refine v_iconst (v := (nI 2)) (q := 132) dX7_addPhrase_131 rfl (by decide) ?_
    refine v_iadd (q := 133) dX7_addPhrase_132 rfl ?_
    refine v_iload_n (q := 134) dX7_addPhrase_133 rfl rfl ?_
    refine v_iast (q := 135) dX7_addPhrase_134 rfl (isI_d rfl) h.1 ?_
    have h := h.2
    refine v_aload_n (q := 136) dX7_addPhrase_135 rfl rfl ?_
    refine v_get (q := 139) dX7_addPhrase_136 rfl fl_7_7 rfl rfl ?_
    refine v_iload (q := 141) dX7_addPhrase_139 rfl rfl ?_
    refine v_iconst (v := (nI 3)) (q := 142) dX7_addPhrase_141 rfl (by decide) ?_
    refine v_iadd (q := 143) dX7_addPhrase_142 rfl ?_
    refine v_iload_n (q := 144) dX7_addPhrase_143 rfl rfl ?_
    refine v_iast (q := 145) dX7_addPhrase_144 rfl (isI_d rfl) h.1 ?_
    have h := h.2
    refine v_aload_n (q := 146) dX7_addPhrase_145 rfl rfl ?_
    refine v_get (q := 149) dX7_addPhrase_146 rfl fl_7_7 rfl rfl ?_
    refine v_iload (q := 151) dX7_addPhrase_149 rfl rfl ?_
    refine v_iconst (v := (nI 4)) (q := 152) dX7_addPhrase_151 rfl (by decide) ?_
    refine v_iadd (q := 153) dX7_addPhrase_152 rfl ?_
    refine v_iconst (v := (nI 1)) (q := 154) dX7_addPhrase_153 rfl (by decide) ?_
    refine v_iast (q := 155) dX7_addPhrase_154 rfl (isI_d rfl) h.1 ?_
    have h := h.2
    refine v_aload_n (q := 156) dX7_addPhrase_155 rfl rfl ?_
    refine v_get (q := 159) dX7_addPhrase_156 rfl fl_7_7 rfl rfl ?_
    refine v_iload (q := 161) dX7_addPhrase_159 rfl rfl ?_
    refine v_iconst (v := (nI 5)) (q := 162) dX7_addPhrase_161 rfl (by decide) ?_
    refine v_iadd (q := 163) dX7_addPhrase_162 rfl ?_
    refine v_iconst (v := (nI 0)) (q := 164) dX7_addPhrase_163 rfl (by decide) ?_
    refine v_iast (q := 165) dX7_addPhrase_164 rfl (isI_d rfl) h.1 ?_
    have h := h.2
    refine v_iconst (v := (nI 0)) (q := 166) dX7_addPhrase_165 rfl (by decide) ?_
    refine v_istore (q := 168) dX7_addPhrase_166 rfl (by decide) rfl ?_
    exact h
  · have h := h.2 (c)
    refine v_ldc (v := (-1000004)) (q := 79) dX7_addPhrase_77 rfl cn_7_79 ?_
    exact v_iret dX7_addPhrase_79 rfl ⟨_, rfl, h⟩
set_option maxRecDepth 20000 in
theorem bX7_addPhrase_168 {d : Nat} {σ : SS} {K : Int32 → SS → Prop} (v1 : Int32) (v2 : Int32) (v3 : Int32) (v4 : Int32) (v5 : Int32)   (h : (((σ.2.1 8) ≤ v5) → ((vp_in (nI 1) 3270) ∧ ((vp_in (nI 1) 3270) ∧ ((vp_in (nI 1) 3270) ∧ (K (((sA σ 37 (nI 1).toNatClampNeg ((σ.1 37 (nI 1).toNatClampNeg) + (nI 1))).1 37 (nI 1).toNatClampNeg) - (nI 1)) (sA σ 37 (nI 1).toNatClampNeg ((σ.1 37 (nI 1).toNatClampNeg) + (nI 1)))))))) ∧ ((¬ (σ.2.1 8) ≤ v5) → ((vp_in v5 10) ∧ ((vp_in ((v4 + (nI 6)) + v5) 3270) ∧ (VV mX7_addPhrase d s00 168 [some (.ref 11), some (.int v1), some (.int v2), some (.int v3), some (.int v4), some (.int (v5 + nI 1))] [] (sA σ 37 ((v4 + (nI 6)) + v5).toNatClampNeg (σ.1 38 v5.toNatClampNeg)) (Qi K)))))) : VV mX7_addPhrase d s00 168 [some (.ref 11), some (.int v1), some (.int v2), some (.int v3), some (.int v4), some (.int v5)] [] σ (Qi K) := by
  refine v_iload (q := 170) dX7_addPhrase_168 rfl rfl ?_
  refine v_aload_n (q := 171) dX7_addPhrase_170 rfl rfl ?_
  refine v_get (q := 174) dX7_addPhrase_171 rfl fl_7_53 rfl rfl ?_
  refine v_icmp_ge (t := 203) (q := 177) dX7_addPhrase_174 rfl (by decide) (fun c => ?_) (fun c => ?_)
  · have h := h.1 (c)
    refine v_aload_n (q := 204) dX7_addPhrase_203 rfl rfl ?_
    refine v_get (q := 207) dX7_addPhrase_204 rfl fl_7_7 rfl rfl ?_
    refine v_iconst (v := (nI 1)) (q := 208) dX7_addPhrase_207 rfl (by decide) ?_
    refine v_dup2 (q := 209) dX7_addPhrase_208 rfl rfl rfl ?_
    refine v_iald (q := 210) dX7_addPhrase_209 rfl (isI_d rfl) h.1 ?_
    have h := h.2
    refine v_iconst (v := (nI 1)) (q := 211) dX7_addPhrase_210 rfl (by decide) ?_
    refine v_iadd (q := 212) dX7_addPhrase_211 rfl ?_
    refine v_iast (q := 213) dX7_addPhrase_212 rfl (isI_d rfl) h.1 ?_
    have h := h.2
    refine v_aload_n (q := 214) dX7_addPhrase_213 rfl rfl ?_
    refine v_get (q := 217) dX7_addPhrase_214 rfl fl_7_7 rfl rfl ?_
    refine v_iconst (v := (nI 1)) (q := 218) dX7_addPhrase_217 rfl (by decide) ?_
    refine v_iald (q := 219) dX7_addPhrase_218 rfl (isI_d rfl) h.1 ?_
    have h := h.2
    refine v_iconst (v := (nI 1)) (q := 220) dX7_addPhrase_219 rfl (by decide) ?_
    refine v_isub (q := 221) dX7_addPhrase_220 rfl ?_
    exact v_iret dX7_addPhrase_221 rfl ⟨_, rfl, h⟩
  · have h := h.2 (c)
    refine v_aload_n (q := 178) dX7_addPhrase_177 rfl rfl ?_
    refine v_get (q := 181) dX7_addPhrase_178 rfl fl_7_7 rfl rfl ?_
    refine v_iload (q := 183) dX7_addPhrase_181 rfl rfl ?_
    refine v_bipush (v := (nI 6)) (q := 185) dX7_addPhrase_183 rfl (by decide) ?_
    refine v_iadd (q := 186) dX7_addPhrase_185 rfl ?_
    refine v_iload (q := 188) dX7_addPhrase_186 rfl rfl ?_
    refine v_iadd (q := 189) dX7_addPhrase_188 rfl ?_
    refine v_aload_n (q := 190) dX7_addPhrase_189 rfl rfl ?_
    refine v_get (q := 193) dX7_addPhrase_190 rfl fl_7_13 rfl rfl ?_
    refine v_iload (q := 195) dX7_addPhrase_193 rfl rfl ?_
    refine v_iald (q := 196) dX7_addPhrase_195 rfl (isI_d rfl) h.1 ?_
    have h := h.2
    refine v_iast (q := 197) dX7_addPhrase_196 rfl (isI_d rfl) h.1 ?_
    have h := h.2
    refine v_iinc (y := (v5 + nI 1)) (q := 200) dX7_addPhrase_197 rfl rfl (congrArg (fun z => v5 + z) (by decide)) (by decide) rfl ?_
    refine v_goto (q := 168) dX7_addPhrase_200 (by decide) ?_
    exact h
set_option maxRecDepth 20000 in
theorem bX7_phrase_0 {d : Nat} {σ : SS} {K : Int32 → SS → Prop} (p1 : Int32) (p2 : Int32)  (hd1 : 1 ≤ d) (h : CTi mX7_isPhrase (d - 1) [.ref 11, .int p1] σ (fun x1 s2 => ((¬ x1 = 0) → (CTi mX7_in (d - 1) [.int p2, .int (nI 0), .int (nI 6)] s2 (fun x3 s4 => ((¬ x3 = 0) → ((((nI 6) ≤ p2) → (CTi mX7_conflicts (d - 1) [.ref 11, .int p1] s4 (fun x5 s6 => K x5 s6))) ∧ ((¬ (nI 6) ≤ p2) → (CTi mX7_of (d - 1) [.ref 11, .int p1, .int p2] s4 (fun x7 s8 => K x7 s8))))) ∧ ((x3 = 0) → (K (-1000002) s4))))) ∧ ((x1 = 0) → (K (-1000001) s2)))) : VV mX7_phrase d s00 0 [some (.ref 11), some (.int p1), some (.int p2)] [] σ (Qi K) := by
  refine v_aload_n (q := 1) dX7_phrase_0 rfl rfl ?_
  refine v_iload_n (q := 2) dX7_phrase_1 rfl rfl ?_
  refine v_callV (As := [.int p1]) (n := 1) (q := 5) dX7_phrase_2 rfl lk_7_122 hd1 rfl rfl (Nat.le_of_ble_eq_true rfl) (CT.imp h (fun r s2 h => ?_))
  obtain ⟨x1, rfl, h⟩ := h
  show VV mX7_phrase d s00 5 [some (.ref 11), some (.int p1), some (.int p2)] [.int x1] s2 (Qi K)
  refine v_if_ne (t := 11) (q := 8) dX7_phrase_5 rfl (by decide) (fun c => ?_) (fun c => ?_)
  · have h := h.1 (c)
    refine v_iload_n (q := 12) dX7_phrase_11 rfl rfl ?_
    refine v_iconst (v := (nI 0)) (q := 13) dX7_phrase_12 rfl (by decide) ?_
    refine v_bipush (v := (nI 6)) (q := 15) dX7_phrase_13 rfl (by decide) ?_
    refine v_callS (As := [.int p2, .int (nI 0), .int (nI 6)]) (n := 3) (q := 18) dX7_phrase_15 rfl lk_7_45 hd1 rfl (Nat.le_of_ble_eq_true rfl) (CT.imp h (fun r s4 h => ?_))
    obtain ⟨x3, rfl, h⟩ := h
    show VV mX7_phrase d s00 18 [some (.ref 11), some (.int p1), some (.int p2)] [.int x3] s4 (Qi K)
    refine v_if_ne (t := 24) (q := 21) dX7_phrase_18 rfl (by decide) (fun c => ?_) (fun c => ?_)
    · have h := h.1 (c)
      refine v_iload_n (q := 25) dX7_phrase_24 rfl rfl ?_
      refine v_bipush (v := (nI 6)) (q := 27) dX7_phrase_25 rfl (by decide) ?_
      refine v_icmp_ge (t := 39) (q := 30) dX7_phrase_27 rfl (by decide) (fun c => ?_) (fun c => ?_)
      · have h := h.1 (c)
        refine v_aload_n (q := 40) dX7_phrase_39 rfl rfl ?_
        refine v_iload_n (q := 41) dX7_phrase_40 rfl rfl ?_
        refine v_callV (As := [.int p1]) (n := 1) (q := 44) dX7_phrase_41 rfl lk_7_103 hd1 rfl rfl (Nat.le_of_ble_eq_true rfl) (CT.imp h (fun r s6 h => ?_))
        obtain ⟨x5, rfl, h⟩ := h
        show VV mX7_phrase d s00 44 [some (.ref 11), some (.int p1), some (.int p2)] [.int x5] s6 (Qi K)
        exact v_iret dX7_phrase_44 rfl ⟨_, rfl, h⟩
      · have h := h.2 (c)
        refine v_aload_n (q := 31) dX7_phrase_30 rfl rfl ?_
        refine v_iload_n (q := 32) dX7_phrase_31 rfl rfl ?_
        refine v_iload_n (q := 33) dX7_phrase_32 rfl rfl ?_
        refine v_callV (As := [.int p1, .int p2]) (n := 2) (q := 36) dX7_phrase_33 rfl lk_7_49 hd1 rfl rfl (Nat.le_of_ble_eq_true rfl) (CT.imp h (fun r s8 h => ?_))
        obtain ⟨x7, rfl, h⟩ := h
        show VV mX7_phrase d s00 36 [some (.ref 11), some (.int p1), some (.int p2)] [.int x7] s8 (Qi K)
        refine v_goto (q := 44) dX7_phrase_36 (by decide) ?_
        exact v_iret dX7_phrase_44 rfl ⟨_, rfl, h⟩
    · have h := h.2 (c)
      refine v_ldc (v := (-1000002)) (q := 23) dX7_phrase_21 rfl cn_7_88 ?_
      exact v_iret dX7_phrase_23 rfl ⟨_, rfl, h⟩
  · have h := h.2 (c)
    refine v_ldc (v := (-1000001)) (q := 10) dX7_phrase_8 rfl cn_7_87 ?_
    exact v_iret dX7_phrase_10 rfl ⟨_, rfl, h⟩
theorem eX7_phrase {d : Nat} {σ : SS} {K : Int32 → SS → Prop} (p1 : Int32) (p2 : Int32)  (hd1 : 1 ≤ d) (h : CTi mX7_isPhrase (d - 1) [.ref 11, .int p1] σ (fun x1 s2 => ((¬ x1 = 0) → (CTi mX7_in (d - 1) [.int p2, .int (nI 0), .int (nI 6)] s2 (fun x3 s4 => ((¬ x3 = 0) → ((((nI 6) ≤ p2) → (CTi mX7_conflicts (d - 1) [.ref 11, .int p1] s4 (fun x5 s6 => K x5 s6))) ∧ ((¬ (nI 6) ≤ p2) → (CTi mX7_of (d - 1) [.ref 11, .int p1, .int p2] s4 (fun x7 s8 => K x7 s8))))) ∧ ((x3 = 0) → (K (-1000002) s4))))) ∧ ((x1 = 0) → (K (-1000001) s2)))) : CTi mX7_phrase d [.ref 11, .int p1, .int p2] σ K := CT_of (Q := (Qi K)) (by decide +kernel) rfl (by decide) (Nat.le_of_ble_eq_true rfl) rfl (bX7_phrase_0 p1 p2 hd1 h)
set_option maxRecDepth 20000 in
theorem bX7_word_0 {d : Nat} {σ : SS} {K : Int32 → SS → Prop} (p1 : Int32) (p2 : Int32)  (hd1 : 1 ≤ d) (h : CTi mX7_isPhrase (d - 1) [.ref 11, .int p1] σ (fun x1 s2 => ((¬ x1 = 0) → (((0 ≤ p2) → (CTi mX7_of (d - 1) [.ref 11, .int p1, .int (nI 1)] s2 (fun x3 s4 => ((x3 ≤ p2) → (K (-1000000) s4)) ∧ ((¬ x3 ≤ p2) → (CTi mX7_of (d - 1) [.ref 11, .int p1, .int ((nI 6) + p2)] s4 (fun x5 s6 => K x5 s6)))))) ∧ ((¬ 0 ≤ p2) → (K (-1000002) s2)))) ∧ ((x1 = 0) → (K (-1000001) s2)))) : VV mX7_word d s00 0 [some (.ref 11), some (.int p1), some (.int p2)] [] σ (Qi K) := by
  refine v_aload_n (q := 1) dX7_word_0 rfl rfl ?_
  refine v_iload_n (q := 2) dX7_word_1 rfl rfl ?_
  refine v_callV (As := [.int p1]) (n := 1) (q := 5) dX7_word_2 rfl lk_7_122 hd1 rfl rfl (Nat.le_of_ble_eq_true rfl) (CT.imp h (fun r s2 h => ?_))
  obtain ⟨x1, rfl, h⟩ := h
  show VV mX7_word d s00 5 [some (.ref 11), some (.int p1), some (.int p2)] [.int x1] s2 (Qi K)
  refine v_if_ne (t := 11) (q := 8) dX7_word_5 rfl (by decide) (fun c => ?_) (fun c => ?_)
  · have h := h.1 (c)
    refine v_iload_n (q := 12) dX7_word_11 rfl rfl ?_
    refine v_if_ge (t := 18) (q := 15) dX7_word_12 rfl (by decide) (fun c => ?_) (fun c => ?_)
    · have h := h.1 (c)
      refine v_iload_n (q := 19) dX7_word_18 rfl rfl ?_
      refine v_aload_n (q := 20) dX7_word_19 rfl rfl ?_
      refine v_iload_n (q := 21) dX7_word_20 rfl rfl ?_
      refine v_iconst (v := (nI 1)) (q := 22) dX7_word_21 rfl (by decide) ?_
      refine v_callV (As := [.int p1, .int (nI 1)]) (n := 2) (q := 25) dX7_word_22 rfl lk_7_49 hd1 rfl rfl (Nat.le_of_ble_eq_true rfl) (CT.imp h (fun r s4 h => ?_))
      obtain ⟨x3, rfl, h⟩ := h
      show VV mX7_word d s00 25 [some (.ref 11), some (.int p1), some (.int p2)] [.int x3, .int p2] s4 (Qi K)
      refine v_icmp_ge (t := 40) (q := 28) dX7_word_25 rfl (by decide) (fun c => ?_) (fun c => ?_)
      · have h := h.1 (c)
        refine v_ldc (v := (-1000000)) (q := 42) dX7_word_40 rfl cn_7_121 ?_
        exact v_iret dX7_word_42 rfl ⟨_, rfl, h⟩
      · have h := h.2 (c)
        refine v_aload_n (q := 29) dX7_word_28 rfl rfl ?_
        refine v_iload_n (q := 30) dX7_word_29 rfl rfl ?_
        refine v_bipush (v := (nI 6)) (q := 32) dX7_word_30 rfl (by decide) ?_
        refine v_iload_n (q := 33) dX7_word_32 rfl rfl ?_
        refine v_iadd (q := 34) dX7_word_33 rfl ?_
        refine v_callV (As := [.int p1, .int ((nI 6) + p2)]) (n := 2) (q := 37) dX7_word_34 rfl lk_7_49 hd1 rfl rfl (Nat.le_of_ble_eq_true rfl) (CT.imp h (fun r s6 h => ?_))
        obtain ⟨x5, rfl, h⟩ := h
        show VV mX7_word d s00 37 [some (.ref 11), some (.int p1), some (.int p2)] [.int x5] s6 (Qi K)
        refine v_goto (q := 42) dX7_word_37 (by decide) ?_
        exact v_iret dX7_word_42 rfl ⟨_, rfl, h⟩
    · have h := h.2 (c)
      refine v_ldc (v := (-1000002)) (q := 17) dX7_word_15 rfl cn_7_88 ?_
      exact v_iret dX7_word_17 rfl ⟨_, rfl, h⟩
  · have h := h.2 (c)
    refine v_ldc (v := (-1000001)) (q := 10) dX7_word_8 rfl cn_7_87 ?_
    exact v_iret dX7_word_10 rfl ⟨_, rfl, h⟩
theorem eX7_word {d : Nat} {σ : SS} {K : Int32 → SS → Prop} (p1 : Int32) (p2 : Int32)  (hd1 : 1 ≤ d) (h : CTi mX7_isPhrase (d - 1) [.ref 11, .int p1] σ (fun x1 s2 => ((¬ x1 = 0) → (((0 ≤ p2) → (CTi mX7_of (d - 1) [.ref 11, .int p1, .int (nI 1)] s2 (fun x3 s4 => ((x3 ≤ p2) → (K (-1000000) s4)) ∧ ((¬ x3 ≤ p2) → (CTi mX7_of (d - 1) [.ref 11, .int p1, .int ((nI 6) + p2)] s4 (fun x5 s6 => K x5 s6)))))) ∧ ((¬ 0 ≤ p2) → (K (-1000002) s2)))) ∧ ((x1 = 0) → (K (-1000001) s2)))) : CTi mX7_word d [.ref 11, .int p1, .int p2] σ K := CT_of (Q := (Qi K)) (by decide +kernel) rfl (by decide) (Nat.le_of_ble_eq_true rfl) rfl (bX7_word_0 p1 p2 hd1 h)
set_option maxRecDepth 20000 in
theorem bX7_score_0 {d : Nat} {σ : SS} {K : Int32 → SS → Prop} (p1 : Int32) (p2 : Int32)  (hd1 : 1 ≤ d) (h : CTi mX7_isPhrase (d - 1) [.ref 11, .int p1] σ (fun x1 s2 => ((x1 = 0) → (K (-1000001) s2)) ∧ ((¬ x1 = 0) → (CTi mX7_isPhrase (d - 1) [.ref 11, .int p2] s2 (fun x3 s4 => ((x3 = 0) → (K (-1000001) s4)) ∧ ((¬ x3 = 0) → (CTi mX7_scoreOf (d - 1) [.ref 11, .int p1, .int p2] s4 (fun x5 s6 => K x5 s6)))))))) : VV mX7_score d s00 0 [some (.ref 11), some (.int p1), some (.int p2)] [] σ (Qi K) := by
  refine v_aload_n (q := 1) dX7_score_0 rfl rfl ?_
  refine v_iload_n (q := 2) dX7_score_1 rfl rfl ?_
  refine v_callV (As := [.int p1]) (n := 1) (q := 5) dX7_score_2 rfl lk_7_122 hd1 rfl rfl (Nat.le_of_ble_eq_true rfl) (CT.imp h (fun r s2 h => ?_))
  obtain ⟨x1, rfl, h⟩ := h
  show VV mX7_score d s00 5 [some (.ref 11), some (.int p1), some (.int p2)] [.int x1] s2 (Qi K)
  refine v_if_eq (t := 25) (q := 8) dX7_score_5 rfl (by decide) (fun c => ?_) (fun c => ?_)
  · have h := h.1 (c)
    refine v_ldc (v := (-1000001)) (q := 27) dX7_score_25 rfl cn_7_87 ?_
    exact v_iret dX7_score_27 rfl ⟨_, rfl, h⟩
  · have h := h.2 (c)
    refine v_aload_n (q := 9) dX7_score_8 rfl rfl ?_
    refine v_iload_n (q := 10) dX7_score_9 rfl rfl ?_
    refine v_callV (As := [.int p2]) (n := 1) (q := 13) dX7_score_10 rfl lk_7_122 hd1 rfl rfl (Nat.le_of_ble_eq_true rfl) (CT.imp h (fun r s4 h => ?_))
    obtain ⟨x3, rfl, h⟩ := h
    show VV mX7_score d s00 13 [some (.ref 11), some (.int p1), some (.int p2)] [.int x3] s4 (Qi K)
    refine v_if_eq (t := 25) (q := 16) dX7_score_13 rfl (by decide) (fun c => ?_) (fun c => ?_)
    · have h := h.1 (c)
      refine v_ldc (v := (-1000001)) (q := 27) dX7_score_25 rfl cn_7_87 ?_
      exact v_iret dX7_score_27 rfl ⟨_, rfl, h⟩
    · have h := h.2 (c)
      refine v_aload_n (q := 17) dX7_score_16 rfl rfl ?_
      refine v_iload_n (q := 18) dX7_score_17 rfl rfl ?_
      refine v_iload_n (q := 19) dX7_score_18 rfl rfl ?_
      refine v_callV (As := [.int p1, .int p2]) (n := 2) (q := 22) dX7_score_19 rfl lk_7_93 hd1 rfl rfl (Nat.le_of_ble_eq_true rfl) (CT.imp h (fun r s6 h => ?_))
      obtain ⟨x5, rfl, h⟩ := h
      show VV mX7_score d s00 22 [some (.ref 11), some (.int p1), some (.int p2)] [.int x5] s6 (Qi K)
      refine v_goto (q := 27) dX7_score_22 (by decide) ?_
      exact v_iret dX7_score_27 rfl ⟨_, rfl, h⟩
theorem eX7_score {d : Nat} {σ : SS} {K : Int32 → SS → Prop} (p1 : Int32) (p2 : Int32)  (hd1 : 1 ≤ d) (h : CTi mX7_isPhrase (d - 1) [.ref 11, .int p1] σ (fun x1 s2 => ((x1 = 0) → (K (-1000001) s2)) ∧ ((¬ x1 = 0) → (CTi mX7_isPhrase (d - 1) [.ref 11, .int p2] s2 (fun x3 s4 => ((x3 = 0) → (K (-1000001) s4)) ∧ ((¬ x3 = 0) → (CTi mX7_scoreOf (d - 1) [.ref 11, .int p1, .int p2] s4 (fun x5 s6 => K x5 s6)))))))) : CTi mX7_score d [.ref 11, .int p1, .int p2] σ K := CT_of (Q := (Qi K)) (by decide +kernel) rfl (by decide) (Nat.le_of_ble_eq_true rfl) rfl (bX7_score_0 p1 p2 hd1 h)
set_option maxRecDepth 20000 in
theorem bX7_gives_0 {d : Nat} {σ : SS} {K : Int32 → SS → Prop} (p1 : Int32) (p2 : Int32)  (hd1 : 1 ≤ d) (h : CTi mX7_of (d - 1) [.ref 11, .int p1, .int (nI 4)] σ (fun x1 s2 => ((¬ x1 = (nI 1)) → (K (nI 0) s2)) ∧ ((x1 = (nI 1)) → (CTi mX7_of (d - 1) [.ref 11, .int p1, .int (nI 2)] s2 (fun x3 s4 => ((¬ x3 = p2) → (K (nI 0) s4)) ∧ ((x3 = p2) → (CTi mX7_textScore (d - 1) [.ref 11, .int p1] s4 (fun x5 s6 => ((¬ x5 = (nI 100)) → (K (nI 0) s6)) ∧ ((x5 = (nI 100)) → (K (nI 1) s6)))))))))) : VV mX7_gives d s00 0 [some (.ref 11), some (.int p1), some (.int p2)] [] σ (Qi K) := by
  refine v_aload_n (q := 1) dX7_gives_0 rfl rfl ?_
  refine v_iload_n (q := 2) dX7_gives_1 rfl rfl ?_
  refine v_iconst (v := (nI 4)) (q := 3) dX7_gives_2 rfl (by decide) ?_
  refine v_callV (As := [.int p1, .int (nI 4)]) (n := 2) (q := 6) dX7_gives_3 rfl lk_7_49 hd1 rfl rfl (Nat.le_of_ble_eq_true rfl) (CT.imp h (fun r s2 h => ?_))
  obtain ⟨x1, rfl, h⟩ := h
  show VV mX7_gives d s00 6 [some (.ref 11), some (.int p1), some (.int p2)] [.int x1] s2 (Qi K)
  refine v_iconst (v := (nI 1)) (q := 7) dX7_gives_6 rfl (by decide) ?_
  refine v_icmp_ne (t := 34) (q := 10) dX7_gives_7 rfl (by decide) (fun c => ?_) (fun c => ?_)
  · have h := h.1 (c)
    refine v_iconst (v := (nI 0)) (q := 35) dX7_gives_34 rfl (by decide) ?_
    exact v_zret dX7_gives_35 rfl (by decide) ⟨_, rfl, h⟩
  · have h := h.2 (c)
    refine v_aload_n (q := 11) dX7_gives_10 rfl rfl ?_
    refine v_iload_n (q := 12) dX7_gives_11 rfl rfl ?_
    refine v_iconst (v := (nI 2)) (q := 13) dX7_gives_12 rfl (by decide) ?_
    refine v_callV (As := [.int p1, .int (nI 2)]) (n := 2) (q := 16) dX7_gives_13 rfl lk_7_49 hd1 rfl rfl (Nat.le_of_ble_eq_true rfl) (CT.imp h (fun r s4 h => ?_))
    obtain ⟨x3, rfl, h⟩ := h
    show VV mX7_gives d s00 16 [some (.ref 11), some (.int p1), some (.int p2)] [.int x3] s4 (Qi K)
    refine v_iload_n (q := 17) dX7_gives_16 rfl rfl ?_
    refine v_icmp_ne (t := 34) (q := 20) dX7_gives_17 rfl (by decide) (fun c => ?_) (fun c => ?_)
    · have h := h.1 (c)
      refine v_iconst (v := (nI 0)) (q := 35) dX7_gives_34 rfl (by decide) ?_
      exact v_zret dX7_gives_35 rfl (by decide) ⟨_, rfl, h⟩
    · have h := h.2 (c)
      refine v_aload_n (q := 21) dX7_gives_20 rfl rfl ?_
      refine v_iload_n (q := 22) dX7_gives_21 rfl rfl ?_
      refine v_callV (As := [.int p1]) (n := 1) (q := 25) dX7_gives_22 rfl lk_7_129 hd1 rfl rfl (Nat.le_of_ble_eq_true rfl) (CT.imp h (fun r s6 h => ?_))
      obtain ⟨x5, rfl, h⟩ := h
      show VV mX7_gives d s00 25 [some (.ref 11), some (.int p1), some (.int p2)] [.int x5] s6 (Qi K)
      refine v_bipush (v := (nI 100)) (q := 27) dX7_gives_25 rfl (by decide) ?_
      refine v_icmp_ne (t := 34) (q := 30) dX7_gives_27 rfl (by decide) (fun c => ?_) (fun c => ?_)
      · have h := h.1 (c)
        refine v_iconst (v := (nI 0)) (q := 35) dX7_gives_34 rfl (by decide) ?_
        exact v_zret dX7_gives_35 rfl (by decide) ⟨_, rfl, h⟩
      · have h := h.2 (c)
        refine v_iconst (v := (nI 1)) (q := 31) dX7_gives_30 rfl (by decide) ?_
        refine v_goto (q := 35) dX7_gives_31 (by decide) ?_
        exact v_zret dX7_gives_35 rfl (by decide) ⟨_, rfl, h⟩
theorem eX7_gives {d : Nat} {σ : SS} {K : Int32 → SS → Prop} (p1 : Int32) (p2 : Int32)  (hd1 : 1 ≤ d) (h : CTi mX7_of (d - 1) [.ref 11, .int p1, .int (nI 4)] σ (fun x1 s2 => ((¬ x1 = (nI 1)) → (K (nI 0) s2)) ∧ ((x1 = (nI 1)) → (CTi mX7_of (d - 1) [.ref 11, .int p1, .int (nI 2)] s2 (fun x3 s4 => ((¬ x3 = p2) → (K (nI 0) s4)) ∧ ((x3 = p2) → (CTi mX7_textScore (d - 1) [.ref 11, .int p1] s4 (fun x5 s6 => ((¬ x5 = (nI 100)) → (K (nI 0) s6)) ∧ ((x5 = (nI 100)) → (K (nI 1) s6)))))))))) : CTi mX7_gives d [.ref 11, .int p1, .int p2] σ K := CT_of (Q := (Qi K)) (by decide +kernel) rfl (by decide) (Nat.le_of_ble_eq_true rfl) rfl (bX7_gives_0 p1 p2 hd1 h)
set_option maxRecDepth 20000 in
theorem bX7_agreed_0 {d : Nat} {σ : SS} {K : Int32 → SS → Prop}   (hd1 : 1 ≤ d) (h : CTi mX7_textFault (d - 1) [.ref 11] σ (fun x1 s2 => ((x1 = (-1000000)) → (VV mX7_agreed d s00 19 [some (.ref 11), some (.int (-1000000)), some (.int (nI 0)), some (.int (nI 0)), none, none, none, none, none] [] s2 (Qi K))) ∧ ((¬ x1 = (-1000000)) → (K (-1000003) s2)))) : VV mX7_agreed d s00 0 [some (.ref 11), none, none, none, none, none, none, none, none] [] σ (Qi K) := by
  refine v_aload_n (q := 1) dX7_agreed_0 rfl rfl ?_
  refine v_callV (As := []) (n := 0) (q := 4) dX7_agreed_1 rfl lk_7_125 hd1 rfl rfl (Nat.le_of_ble_eq_true rfl) (CT.imp h (fun r s2 h => ?_))
  obtain ⟨x1, rfl, h⟩ := h
  show VV mX7_agreed d s00 4 [some (.ref 11), none, none, none, none, none, none, none, none] [.int x1] s2 (Qi K)
  refine v_ldc (v := (-1000000)) (q := 6) dX7_agreed_4 rfl cn_7_121 ?_
  refine v_icmp_eq (t := 12) (q := 9) dX7_agreed_6 rfl (by decide) (fun c => ?_) (fun c => ?_)
  · have h := h.1 (c)
    refine v_ldc (v := (-1000000)) (q := 14) dX7_agreed_12 rfl cn_7_121 ?_
    refine v_istore_n (q := 15) dX7_agreed_14 rfl (by decide) rfl ?_
    refine v_iconst (v := (nI 0)) (q := 16) dX7_agreed_15 rfl (by decide) ?_
    refine v_istore_n (q := 17) dX7_agreed_16 rfl (by decide) rfl ?_
    refine v_iconst (v := (nI 0)) (q := 18) dX7_agreed_17 rfl (by decide) ?_
    refine v_istore_n (q := 19) dX7_agreed_18 rfl (by decide) rfl ?_
    exact h
  · have h := h.2 (c)
    refine v_ldc (v := (-1000003)) (q := 11) dX7_agreed_9 rfl cn_7_128 ?_
    exact v_iret dX7_agreed_11 rfl ⟨_, rfl, h⟩
theorem eX7_agreed {d : Nat} {σ : SS} {K : Int32 → SS → Prop}   (hd1 : 1 ≤ d) (h : CTi mX7_textFault (d - 1) [.ref 11] σ (fun x1 s2 => ((x1 = (-1000000)) → (VV mX7_agreed d s00 19 [some (.ref 11), some (.int (-1000000)), some (.int (nI 0)), some (.int (nI 0)), none, none, none, none, none] [] s2 (Qi K))) ∧ ((¬ x1 = (-1000000)) → (K (-1000003) s2)))) : CTi mX7_agreed d [.ref 11] σ K := CT_of (Q := (Qi K)) (by decide +kernel) rfl (by decide) (Nat.le_of_ble_eq_true rfl) rfl (bX7_agreed_0  hd1 h)
set_option maxRecDepth 20000 in
theorem bX7_agreed_19 {d : Nat} {σ : SS} {K : Int32 → SS → Prop} (v1 : Int32) (v2 : Int32) (v3 : Int32)  (hd1 : 1 ≤ d) (h : (vp_in (nI 1) 3270) ∧ ((((σ.1 37 (nI 1).toNatClampNeg) ≤ v3) → (K v1 σ)) ∧ ((¬ (σ.1 37 (nI 1).toNatClampNeg) ≤ v3) → (CTi mX7_of (d - 1) [.ref 11, .int v3, .int (nI 2)] σ (fun x1 s2 => VV mX7_agreed d s00 46 [some (.ref 11), some (.int v1), some (.int v2), some (.int v3), some (.int x1), some (.int (nI 0)), some (.int (nI 0)), some (.int (nI 0)), none] [] s2 (Qi K)))))) : VV mX7_agreed d s00 19 [some (.ref 11), some (.int v1), some (.int v2), some (.int v3), none, none, none, none, none] [] σ (Qi K) := by
  refine v_iload_n (q := 20) dX7_agreed_19 rfl rfl ?_
  refine v_aload_n (q := 21) dX7_agreed_20 rfl rfl ?_
  refine v_get (q := 24) dX7_agreed_21 rfl fl_7_7 rfl rfl ?_
  refine v_iconst (v := (nI 1)) (q := 25) dX7_agreed_24 rfl (by decide) ?_
  refine v_iald (q := 26) dX7_agreed_25 rfl (isI_d rfl) h.1 ?_
  have h := h.2
  refine v_icmp_ge (t := 169) (q := 29) dX7_agreed_26 rfl (by decide) (fun c => ?_) (fun c => ?_)
  · have h := h.1 (c)
    refine v_iload_n (q := 170) dX7_agreed_169 rfl rfl ?_
    exact v_iret dX7_agreed_170 rfl ⟨_, rfl, h⟩
  · have h := h.2 (c)
    refine v_aload_n (q := 30) dX7_agreed_29 rfl rfl ?_
    refine v_iload_n (q := 31) dX7_agreed_30 rfl rfl ?_
    refine v_iconst (v := (nI 2)) (q := 32) dX7_agreed_31 rfl (by decide) ?_
    refine v_callV (As := [.int v3, .int (nI 2)]) (n := 2) (q := 35) dX7_agreed_32 rfl lk_7_49 hd1 rfl rfl (Nat.le_of_ble_eq_true rfl) (CT.imp h (fun r s2 h => ?_))
    obtain ⟨x1, rfl, h⟩ := h
    show VV mX7_agreed d s00 35 [some (.ref 11), some (.int v1), some (.int v2), some (.int v3), none, none, none, none, none] [.int x1] s2 (Qi K)
    refine v_istore (q := 37) dX7_agreed_35 rfl (by decide) rfl ?_
    refine v_iconst (v := (nI 0)) (q := 38) dX7_agreed_37 rfl (by decide) ?_
    refine v_istore (q := 40) dX7_agreed_38 rfl (by decide) rfl ?_
    refine v_iconst (v := (nI 0)) (q := 41) dX7_agreed_40 rfl (by decide) ?_
    refine v_istore (q := 43) dX7_agreed_41 rfl (by decide) rfl ?_
    refine v_iconst (v := (nI 0)) (q := 44) dX7_agreed_43 rfl (by decide) ?_
    refine v_istore (q := 46) dX7_agreed_44 rfl (by decide) rfl ?_
    exact h
set_option maxRecDepth 20000 in
theorem bX7_agreed_46 {d : Nat} {σ : SS} {K : Int32 → SS → Prop} (v1 : Int32) (v2 : Int32) (v3 : Int32) (v4 : Int32) (v5 : Int32) (v6 : Int32) (v7 : Int32)  (hd1 : 1 ≤ d) (h : (vp_in (nI 1) 3270) ∧ ((((σ.1 37 (nI 1).toNatClampNeg) ≤ v7) → (((v2 < v6) → (VV mX7_agreed d s00 163 [some (.ref 11), some (.int v4), some (.int v6), some (.int v3), some (.int v4), some (.int v5), some (.int v6), some (.int v7), none] [] σ (Qi K))) ∧ ((¬ v2 < v6) → (((¬ v6 = v2) → (VV mX7_agreed d s00 163 [some (.ref 11), some (.int v1), some (.int v2), some (.int v3), some (.int v4), some (.int v5), some (.int v6), some (.int v7), none] [] σ (Qi K))) ∧ ((v6 = v2) → (((v6 ≤ 0) → (VV mX7_agreed d s00 163 [some (.ref 11), some (.int v1), some (.int v2), some (.int v3), some (.int v4), some (.int v5), some (.int v6), some (.int v7), none] [] σ (Qi K))) ∧ ((¬ v6 ≤ 0) → (((v1 ≤ v4) → (VV mX7_agreed d s00 163 [some (.ref 11), some (.int v1), some (.int v2), some (.int v3), some (.int v4), some (.int v5), some (.int v6), some (.int v7), none] [] σ (Qi K))) ∧ ((¬ v1 ≤ v4) → (VV mX7_agreed d s00 163 [some (.ref 11), some (.int v4), some (.int v6), some (.int v3), some (.int v4), some (.int v5), some (.int v6), some (.int v7), none] [] σ (Qi K))))))))))) ∧ ((¬ (σ.1 37 (nI 1).toNatClampNeg) ≤ v7) → (CTi mX7_gives (d - 1) [.ref 11, .int v7, .int v4] σ (fun x1 s2 => ((x1 = 0) → (VV mX7_agreed d s00 90 [some (.ref 11), some (.int v1), some (.int v2), some (.int v3), some (.int v4), some (.int v5), some (.int v6), some (.int v7), some (.int (nI 0))] [] s2 (Qi K))) ∧ ((¬ x1 = 0) → (CTi mX7_of (d - 1) [.ref 11, .int v7, .int (nI 0)] s2 (fun x3 s4 => ((¬ ((v5 >>> (x3 &&& 31)) &&& (nI 1)) = 0) → (VV mX7_agreed d s00 90 [some (.ref 11), some (.int v1), some (.int v2), some (.int v3), some (.int v4), some (.int v5), some (.int v6), some (.int v7), some (.int (nI 0))] [] s4 (Qi K))) ∧ ((((v5 >>> (x3 &&& 31)) &&& (nI 1)) = 0) → (VV mX7_agreed d s00 90 [some (.ref 11), some (.int v1), some (.int v2), some (.int v3), some (.int v4), some (.int v5), some (.int v6), some (.int v7), some (.int (nI 1))] [] s4 (Qi K))))))))))) : VV mX7_agreed d s00 46 [some (.ref 11), some (.int v1), some (.int v2), some (.int v3), some (.int v4), some (.int v5), some (.int v6), some (.int v7), none] [] σ (Qi K) := by
  refine v_iload (q := 48) dX7_agreed_46 rfl rfl ?_
  refine v_aload_n (q := 49) dX7_agreed_48 rfl rfl ?_
  refine v_get (q := 52) dX7_agreed_49 rfl fl_7_7 rfl rfl ?_
  refine v_iconst (v := (nI 1)) (q := 53) dX7_agreed_52 rfl (by decide) ?_
  refine v_iald (q := 54) dX7_agreed_53 rfl (isI_d rfl) h.1 ?_
  have h := h.2
  refine v_icmp_ge (t := 134) (q := 57) dX7_agreed_54 rfl (by decide) (fun c => ?_) (fun c => ?_)
  · have h := h.1 (c)
    refine v_iload (q := 136) dX7_agreed_134 rfl rfl ?_
    refine v_iload_n (q := 137) dX7_agreed_136 rfl rfl ?_
    refine v_icmp_gt (t := 157) (q := 140) dX7_agreed_137 rfl (by decide) (fun c => ?_) (fun c => ?_)
    · have h := h.1 (c)
      refine v_iload (q := 159) dX7_agreed_157 rfl rfl ?_
      refine v_istore_n (q := 160) dX7_agreed_159 rfl (by decide) rfl ?_
      refine v_iload (q := 162) dX7_agreed_160 rfl rfl ?_
      refine v_istore_n (q := 163) dX7_agreed_162 rfl (by decide) rfl ?_
      exact h
    · have h := h.2 (c)
      refine v_iload (q := 142) dX7_agreed_140 rfl rfl ?_
      refine v_iload_n (q := 143) dX7_agreed_142 rfl rfl ?_
      refine v_icmp_ne (t := 163) (q := 146) dX7_agreed_143 rfl (by decide) (fun c => ?_) (fun c => ?_)
      · have h := h.1 (c)
        exact h
      · have h := h.2 (c)
        refine v_iload (q := 148) dX7_agreed_146 rfl rfl ?_
        refine v_if_le (t := 163) (q := 151) dX7_agreed_148 rfl (by decide) (fun c => ?_) (fun c => ?_)
        · have h := h.1 (c)
          exact h
        · have h := h.2 (c)
          refine v_iload (q := 153) dX7_agreed_151 rfl rfl ?_
          refine v_iload_n (q := 154) dX7_agreed_153 rfl rfl ?_
          refine v_icmp_ge (t := 163) (q := 157) dX7_agreed_154 rfl (by decide) (fun c => ?_) (fun c => ?_)
          · have h := h.1 (c)
            exact h
          · have h := h.2 (c)
            refine v_iload (q := 159) dX7_agreed_157 rfl rfl ?_
            refine v_istore_n (q := 160) dX7_agreed_159 rfl (by decide) rfl ?_
            refine v_iload (q := 162) dX7_agreed_160 rfl rfl ?_
            refine v_istore_n (q := 163) dX7_agreed_162 rfl (by decide) rfl ?_
            exact h
  · have h := h.2 (c)
    refine v_aload_n (q := 58) dX7_agreed_57 rfl rfl ?_
    refine v_iload (q := 60) dX7_agreed_58 rfl rfl ?_
    refine v_iload (q := 62) dX7_agreed_60 rfl rfl ?_
    refine v_callV (As := [.int v7, .int v4]) (n := 2) (q := 65) dX7_agreed_62 rfl lk_7_132 hd1 rfl rfl (Nat.le_of_ble_eq_true rfl) (CT.imp h (fun r s2 h => ?_))
    obtain ⟨x1, rfl, h⟩ := h
    show VV mX7_agreed d s00 65 [some (.ref 11), some (.int v1), some (.int v2), some (.int v3), some (.int v4), some (.int v5), some (.int v6), some (.int v7), none] [.int x1] s2 (Qi K)
    refine v_if_eq (t := 87) (q := 68) dX7_agreed_65 rfl (by decide) (fun c => ?_) (fun c => ?_)
    · have h := h.1 (c)
      refine v_iconst (v := (nI 0)) (q := 88) dX7_agreed_87 rfl (by decide) ?_
      refine v_istore (q := 90) dX7_agreed_88 rfl (by decide) rfl ?_
      exact h
    · have h := h.2 (c)
      refine v_iload (q := 70) dX7_agreed_68 rfl rfl ?_
      refine v_aload_n (q := 71) dX7_agreed_70 rfl rfl ?_
      refine v_iload (q := 73) dX7_agreed_71 rfl rfl ?_
      refine v_iconst (v := (nI 0)) (q := 74) dX7_agreed_73 rfl (by decide) ?_
      refine v_callV (As := [.int v7, .int (nI 0)]) (n := 2) (q := 77) dX7_agreed_74 rfl lk_7_49 hd1 rfl rfl (Nat.le_of_ble_eq_true rfl) (CT.imp h (fun r s4 h => ?_))
      obtain ⟨x3, rfl, h⟩ := h
      show VV mX7_agreed d s00 77 [some (.ref 11), some (.int v1), some (.int v2), some (.int v3), some (.int v4), some (.int v5), some (.int v6), some (.int v7), none] [.int x3, .int v5] s4 (Qi K)
      refine v_ishr (q := 78) dX7_agreed_77 rfl ?_
      refine v_iconst (v := (nI 1)) (q := 79) dX7_agreed_78 rfl (by decide) ?_
      refine v_iand (q := 80) dX7_agreed_79 rfl ?_
      refine v_if_ne (t := 87) (q := 83) dX7_agreed_80 rfl (by decide) (fun c => ?_) (fun c => ?_)
      · have h := h.1 (c)
        refine v_iconst (v := (nI 0)) (q := 88) dX7_agreed_87 rfl (by decide) ?_
        refine v_istore (q := 90) dX7_agreed_88 rfl (by decide) rfl ?_
        exact h
      · have h := h.2 (c)
        refine v_iconst (v := (nI 1)) (q := 84) dX7_agreed_83 rfl (by decide) ?_
        refine v_goto (q := 88) dX7_agreed_84 (by decide) ?_
        refine v_istore (q := 90) dX7_agreed_88 rfl (by decide) rfl ?_
        exact h
set_option maxRecDepth 20000 in
theorem bX7_agreed_90 {d : Nat} {σ : SS} {K : Int32 → SS → Prop} (v1 : Int32) (v2 : Int32) (v3 : Int32) (v4 : Int32) (v5 : Int32) (v6 : Int32) (v7 : Int32) (v8 : Int32)  (hd1 : 1 ≤ d) (h : ((v8 = 0) → (((v8 = 0) → (VV mX7_agreed d s00 128 [some (.ref 11), some (.int v1), some (.int v2), some (.int v3), some (.int v4), some (.int (v5 ||| (nI 0))), some (.int (v6 + (nI 0))), some (.int v7), some (.int v8)] [] σ (Qi K))) ∧ ((¬ v8 = 0) → (VV mX7_agreed d s00 128 [some (.ref 11), some (.int v1), some (.int v2), some (.int v3), some (.int v4), some (.int (v5 ||| (nI 0))), some (.int (v6 + (nI 1))), some (.int v7), some (.int v8)] [] σ (Qi K))))) ∧ ((¬ v8 = 0) → (CTi mX7_of (d - 1) [.ref 11, .int v7, .int (nI 0)] σ (fun x1 s2 => ((v8 = 0) → (VV mX7_agreed d s00 128 [some (.ref 11), some (.int v1), some (.int v2), some (.int v3), some (.int v4), some (.int (v5 ||| ((nI 1) <<< (x1 &&& 31)))), some (.int (v6 + (nI 0))), some (.int v7), some (.int v8)] [] s2 (Qi K))) ∧ ((¬ v8 = 0) → (VV mX7_agreed d s00 128 [some (.ref 11), some (.int v1), some (.int v2), some (.int v3), some (.int v4), some (.int (v5 ||| ((nI 1) <<< (x1 &&& 31)))), some (.int (v6 + (nI 1))), some (.int v7), some (.int v8)] [] s2 (Qi K))))))) : VV mX7_agreed d s00 90 [some (.ref 11), some (.int v1), some (.int v2), some (.int v3), some (.int v4), some (.int v5), some (.int v6), some (.int v7), some (.int v8)] [] σ (Qi K) := by
  refine v_iload (q := 92) dX7_agreed_90 rfl rfl ?_
  refine v_iload (q := 94) dX7_agreed_92 rfl rfl ?_
  refine v_if_eq (t := 109) (q := 97) dX7_agreed_94 rfl (by decide) (fun c => ?_) (fun c => ?_)
  · have h := h.1 (c)
    refine v_iconst (v := (nI 0)) (q := 110) dX7_agreed_109 rfl (by decide) ?_
    refine v_ior (q := 111) dX7_agreed_110 rfl ?_
    refine v_istore (q := 113) dX7_agreed_111 rfl (by decide) rfl ?_
    refine v_iload (q := 115) dX7_agreed_113 rfl rfl ?_
    refine v_iload (q := 117) dX7_agreed_115 rfl rfl ?_
    refine v_if_eq (t := 124) (q := 120) dX7_agreed_117 rfl (by decide) (fun c => ?_) (fun c => ?_)
    · have h := h.1 (c)
      refine v_iconst (v := (nI 0)) (q := 125) dX7_agreed_124 rfl (by decide) ?_
      refine v_iadd (q := 126) dX7_agreed_125 rfl ?_
      refine v_istore (q := 128) dX7_agreed_126 rfl (by decide) rfl ?_
      exact h
    · have h := h.2 (c)
      refine v_iconst (v := (nI 1)) (q := 121) dX7_agreed_120 rfl (by decide) ?_
      refine v_goto (q := 125) dX7_agreed_121 (by decide) ?_
      refine v_iadd (q := 126) dX7_agreed_125 rfl ?_
      refine v_istore (q := 128) dX7_agreed_126 rfl (by decide) rfl ?_
      exact h
  · have h := h.2 (c)
    refine v_iconst (v := (nI 1)) (q := 98) dX7_agreed_97 rfl (by decide) ?_
    refine v_aload_n (q := 99) dX7_agreed_98 rfl rfl ?_
    refine v_iload (q := 101) dX7_agreed_99 rfl rfl ?_
    refine v_iconst (v := (nI 0)) (q := 102) dX7_agreed_101 rfl (by decide) ?_
    refine v_callV (As := [.int v7, .int (nI 0)]) (n := 2) (q := 105) dX7_agreed_102 rfl lk_7_49 hd1 rfl rfl (Nat.le_of_ble_eq_true rfl) (CT.imp h (fun r s2 h => ?_))
    obtain ⟨x1, rfl, h⟩ := h
    show VV mX7_agreed d s00 105 [some (.ref 11), some (.int v1), some (.int v2), some (.int v3), some (.int v4), some (.int v5), some (.int v6), some (.int v7), some (.int v8)] [.int x1, .int (nI 1), .int v5] s2 (Qi K)
    refine v_ishl (q := 106) dX7_agreed_105 rfl ?_
    refine v_goto (q := 110) dX7_agreed_106 (by decide) ?_
    refine v_ior (q := 111) dX7_agreed_110 rfl ?_
    refine v_istore (q := 113) dX7_agreed_111 rfl (by decide) rfl ?_
    refine v_iload (q := 115) dX7_agreed_113 rfl rfl ?_
    refine v_iload (q := 117) dX7_agreed_115 rfl rfl ?_
    refine v_if_eq (t := 124) (q := 120) dX7_agreed_117 rfl (by decide) (fun c => ?_) (fun c => ?_)
    · have h := h.1 (c)
      refine v_iconst (v := (nI 0)) (q := 125) dX7_agreed_124 rfl (by decide) ?_
      refine v_iadd (q := 126) dX7_agreed_125 rfl ?_
      refine v_istore (q := 128) dX7_agreed_126 rfl (by decide) rfl ?_
      exact h
    · have h := h.2 (c)
      refine v_iconst (v := (nI 1)) (q := 121) dX7_agreed_120 rfl (by decide) ?_
      refine v_goto (q := 125) dX7_agreed_121 (by decide) ?_
      refine v_iadd (q := 126) dX7_agreed_125 rfl ?_
      refine v_istore (q := 128) dX7_agreed_126 rfl (by decide) rfl ?_
      exact h
set_option maxRecDepth 20000 in
theorem bX7_agreed_128 {d : Nat} {σ : SS} {K : Int32 → SS → Prop} (v1 : Int32) (v2 : Int32) (v3 : Int32) (v4 : Int32) (v5 : Int32) (v6 : Int32) (v7 : Int32) (v8 : Int32)   (h : VV mX7_agreed d s00 46 [some (.ref 11), some (.int v1), some (.int v2), some (.int v3), some (.int v4), some (.int v5), some (.int v6), some (.int (v7 + nI 1)), none] [] σ (Qi K)) : VV mX7_agreed d s00 128 [some (.ref 11), some (.int v1), some (.int v2), some (.int v3), some (.int v4), some (.int v5), some (.int v6), some (.int v7), some (.int v8)] [] σ (Qi K) := by
  refine v_iinc (y := (v7 + nI 1)) (q := 131) dX7_agreed_128 rfl rfl (congrArg (fun z => v7 + z) (by decide)) (by decide) rfl ?_
  refine v_goto (q := 46) dX7_agreed_131 (by decide) ?_
  exact v_msk [true, true, true, true, true, true, true, true, false] h
set_option maxRecDepth 20000 in
theorem bX7_agreed_163 {d : Nat} {σ : SS} {K : Int32 → SS → Prop} (v1 : Int32) (v2 : Int32) (v3 : Int32) (v4 : Int32) (v5 : Int32) (v6 : Int32) (v7 : Int32)   (h : VV mX7_agreed d s00 19 [some (.ref 11), some (.int v1), some (.int v2), some (.int (v3 + nI 1)), none, none, none, none, none] [] σ (Qi K)) : VV mX7_agreed d s00 163 [some (.ref 11), some (.int v1), some (.int v2), some (.int v3), some (.int v4), some (.int v5), some (.int v6), some (.int v7), none] [] σ (Qi K) := by
  refine v_iinc (y := (v3 + nI 1)) (q := 166) dX7_agreed_163 rfl rfl (congrArg (fun z => v3 + z) (by decide)) (by decide) rfl ?_
  refine v_goto (q := 19) dX7_agreed_166 (by decide) ?_
  exact v_msk [true, true, true, true, false, false, false, false, false] h
set_option maxRecDepth 20000 in
theorem bX7_found_0 {d : Nat} {σ : SS} {K : Int32 → SS → Prop}    (h : VV mX7_found d s00 7 [some (.ref 11), some (.int (-1000000)), some (.int (nI 0)), some (.int (nI 0)), none, none] [] σ (Qi K)) : VV mX7_found d s00 0 [some (.ref 11), none, none, none, none, none] [] σ (Qi K) := by
  refine v_ldc (v := (-1000000)) (q := 2) dX7_found_0 rfl cn_7_121 ?_
  refine v_istore_n (q := 3) dX7_found_2 rfl (by decide) rfl ?_
  refine v_iconst (v := (nI 0)) (q := 4) dX7_found_3 rfl (by decide) ?_
  refine v_istore_n (q := 5) dX7_found_4 rfl (by decide) rfl ?_
  refine v_iconst (v := (nI 0)) (q := 6) dX7_found_5 rfl (by decide) ?_
  refine v_istore_n (q := 7) dX7_found_6 rfl (by decide) rfl ?_
  exact h
theorem eX7_found {d : Nat} {σ : SS} {K : Int32 → SS → Prop}    (h : VV mX7_found d s00 7 [some (.ref 11), some (.int (-1000000)), some (.int (nI 0)), some (.int (nI 0)), none, none] [] σ (Qi K)) : CTi mX7_found d [.ref 11] σ K := CT_of (Q := (Qi K)) (by decide +kernel) rfl (by decide) (Nat.le_of_ble_eq_true rfl) rfl (bX7_found_0   h)
set_option maxRecDepth 20000 in
theorem bX7_found_7 {d : Nat} {σ : SS} {K : Int32 → SS → Prop} (v1 : Int32) (v2 : Int32) (v3 : Int32)  (hd1 : 1 ≤ d) (h : (vp_in (nI 1) 3270) ∧ ((((σ.1 37 (nI 1).toNatClampNeg) ≤ v3) → (K v1 σ)) ∧ ((¬ (σ.1 37 (nI 1).toNatClampNeg) ≤ v3) → (CTi mX7_of (d - 1) [.ref 11, .int v3, .int (nI 4)] σ (fun x1 s2 => ((¬ x1 = (nI 1)) → (VV mX7_found d s00 38 [some (.ref 11), some (.int v1), some (.int v2), some (.int v3), some (.int (nI 0)), none] [] s2 (Qi K))) ∧ ((x1 = (nI 1)) → (CTi mX7_textScore (d - 1) [.ref 11, .int v3] s2 (fun x3 s4 => VV mX7_found d s00 38 [some (.ref 11), some (.int v1), some (.int v2), some (.int v3), some (.int x3), none] [] s4 (Qi K))))))))) : VV mX7_found d s00 7 [some (.ref 11), some (.int v1), some (.int v2), some (.int v3), none, none] [] σ (Qi K) := by
  refine v_iload_n (q := 8) dX7_found_7 rfl rfl ?_
  refine v_aload_n (q := 9) dX7_found_8 rfl rfl ?_
  refine v_get (q := 12) dX7_found_9 rfl fl_7_7 rfl rfl ?_
  refine v_iconst (v := (nI 1)) (q := 13) dX7_found_12 rfl (by decide) ?_
  refine v_iald (q := 14) dX7_found_13 rfl (isI_d rfl) h.1 ?_
  have h := h.2
  refine v_icmp_ge (t := 105) (q := 17) dX7_found_14 rfl (by decide) (fun c => ?_) (fun c => ?_)
  · have h := h.1 (c)
    refine v_iload_n (q := 106) dX7_found_105 rfl rfl ?_
    exact v_iret dX7_found_106 rfl ⟨_, rfl, h⟩
  · have h := h.2 (c)
    refine v_aload_n (q := 18) dX7_found_17 rfl rfl ?_
    refine v_iload_n (q := 19) dX7_found_18 rfl rfl ?_
    refine v_iconst (v := (nI 4)) (q := 20) dX7_found_19 rfl (by decide) ?_
    refine v_callV (As := [.int v3, .int (nI 4)]) (n := 2) (q := 23) dX7_found_20 rfl lk_7_49 hd1 rfl rfl (Nat.le_of_ble_eq_true rfl) (CT.imp h (fun r s2 h => ?_))
    obtain ⟨x1, rfl, h⟩ := h
    show VV mX7_found d s00 23 [some (.ref 11), some (.int v1), some (.int v2), some (.int v3), none, none] [.int x1] s2 (Qi K)
    refine v_iconst (v := (nI 1)) (q := 24) dX7_found_23 rfl (by decide) ?_
    refine v_icmp_ne (t := 35) (q := 27) dX7_found_24 rfl (by decide) (fun c => ?_) (fun c => ?_)
    · have h := h.1 (c)
      refine v_iconst (v := (nI 0)) (q := 36) dX7_found_35 rfl (by decide) ?_
      refine v_istore (q := 38) dX7_found_36 rfl (by decide) rfl ?_
      exact h
    · have h := h.2 (c)
      refine v_aload_n (q := 28) dX7_found_27 rfl rfl ?_
      refine v_iload_n (q := 29) dX7_found_28 rfl rfl ?_
      refine v_callV (As := [.int v3]) (n := 1) (q := 32) dX7_found_29 rfl lk_7_129 hd1 rfl rfl (Nat.le_of_ble_eq_true rfl) (CT.imp h (fun r s4 h => ?_))
      obtain ⟨x3, rfl, h⟩ := h
      show VV mX7_found d s00 32 [some (.ref 11), some (.int v1), some (.int v2), some (.int v3), none, none] [.int x3] s4 (Qi K)
      refine v_goto (q := 36) dX7_found_32 (by decide) ?_
      refine v_istore (q := 38) dX7_found_36 rfl (by decide) rfl ?_
      exact h
set_option maxRecDepth 20000 in
theorem bX7_found_38 {d : Nat} {σ : SS} {K : Int32 → SS → Prop} (v1 : Int32) (v2 : Int32) (v3 : Int32) (v4 : Int32)  (hd1 : 1 ≤ d) (h : ((v1 = (-1000000)) → (VV mX7_found d s00 78 [some (.ref 11), some (.int v1), some (.int v2), some (.int v3), some (.int v4), some (.int (nI 1))] [] σ (Qi K))) ∧ ((¬ v1 = (-1000000)) → (((v2 < v4) → (VV mX7_found d s00 78 [some (.ref 11), some (.int v1), some (.int v2), some (.int v3), some (.int v4), some (.int (nI 1))] [] σ (Qi K))) ∧ ((¬ v2 < v4) → (((¬ v4 = v2) → (VV mX7_found d s00 78 [some (.ref 11), some (.int v1), some (.int v2), some (.int v3), some (.int v4), some (.int (nI 0))] [] σ (Qi K))) ∧ ((v4 = v2) → (CTi mX7_of (d - 1) [.ref 11, .int v3, .int (nI 5)] σ (fun x1 s2 => CTi mX7_of (d - 1) [.ref 11, .int v1, .int (nI 5)] s2 (fun x3 s4 => ((x1 ≤ x3) → (VV mX7_found d s00 78 [some (.ref 11), some (.int v1), some (.int v2), some (.int v3), some (.int v4), some (.int (nI 0))] [] s4 (Qi K))) ∧ ((¬ x1 ≤ x3) → (VV mX7_found d s00 78 [some (.ref 11), some (.int v1), some (.int v2), some (.int v3), some (.int v4), some (.int (nI 1))] [] s4 (Qi K)))))))))))) : VV mX7_found d s00 38 [some (.ref 11), some (.int v1), some (.int v2), some (.int v3), some (.int v4), none] [] σ (Qi K) := by
  refine v_iload_n (q := 39) dX7_found_38 rfl rfl ?_
  refine v_ldc (v := (-1000000)) (q := 41) dX7_found_39 rfl cn_7_121 ?_
  refine v_icmp_eq (t := 71) (q := 44) dX7_found_41 rfl (by decide) (fun c => ?_) (fun c => ?_)
  · have h := h.1 (c)
    refine v_iconst (v := (nI 1)) (q := 72) dX7_found_71 rfl (by decide) ?_
    refine v_goto (q := 76) dX7_found_72 (by decide) ?_
    refine v_istore (q := 78) dX7_found_76 rfl (by decide) rfl ?_
    exact h
  · have h := h.2 (c)
    refine v_iload (q := 46) dX7_found_44 rfl rfl ?_
    refine v_iload_n (q := 47) dX7_found_46 rfl rfl ?_
    refine v_icmp_gt (t := 71) (q := 50) dX7_found_47 rfl (by decide) (fun c => ?_) (fun c => ?_)
    · have h := h.1 (c)
      refine v_iconst (v := (nI 1)) (q := 72) dX7_found_71 rfl (by decide) ?_
      refine v_goto (q := 76) dX7_found_72 (by decide) ?_
      refine v_istore (q := 78) dX7_found_76 rfl (by decide) rfl ?_
      exact h
    · have h := h.2 (c)
      refine v_iload (q := 52) dX7_found_50 rfl rfl ?_
      refine v_iload_n (q := 53) dX7_found_52 rfl rfl ?_
      refine v_icmp_ne (t := 75) (q := 56) dX7_found_53 rfl (by decide) (fun c => ?_) (fun c => ?_)
      · have h := h.1 (c)
        refine v_iconst (v := (nI 0)) (q := 76) dX7_found_75 rfl (by decide) ?_
        refine v_istore (q := 78) dX7_found_76 rfl (by decide) rfl ?_
        exact h
      · have h := h.2 (c)
        refine v_aload_n (q := 57) dX7_found_56 rfl rfl ?_
        refine v_iload_n (q := 58) dX7_found_57 rfl rfl ?_
        refine v_iconst (v := (nI 5)) (q := 59) dX7_found_58 rfl (by decide) ?_
        refine v_callV (As := [.int v3, .int (nI 5)]) (n := 2) (q := 62) dX7_found_59 rfl lk_7_49 hd1 rfl rfl (Nat.le_of_ble_eq_true rfl) (CT.imp h (fun r s2 h => ?_))
        obtain ⟨x1, rfl, h⟩ := h
        show VV mX7_found d s00 62 [some (.ref 11), some (.int v1), some (.int v2), some (.int v3), some (.int v4), none] [.int x1] s2 (Qi K)
        refine v_aload_n (q := 63) dX7_found_62 rfl rfl ?_
        refine v_iload_n (q := 64) dX7_found_63 rfl rfl ?_
        refine v_iconst (v := (nI 5)) (q := 65) dX7_found_64 rfl (by decide) ?_
        refine v_callV (As := [.int v1, .int (nI 5)]) (n := 2) (q := 68) dX7_found_65 rfl lk_7_49 hd1 rfl rfl (Nat.le_of_ble_eq_true rfl) (CT.imp h (fun r s4 h => ?_))
        obtain ⟨x3, rfl, h⟩ := h
        show VV mX7_found d s00 68 [some (.ref 11), some (.int v1), some (.int v2), some (.int v3), some (.int v4), none] [.int x3, .int x1] s4 (Qi K)
        refine v_icmp_le (t := 75) (q := 71) dX7_found_68 rfl (by decide) (fun c => ?_) (fun c => ?_)
        · have h := h.1 (c)
          refine v_iconst (v := (nI 0)) (q := 76) dX7_found_75 rfl (by decide) ?_
          refine v_istore (q := 78) dX7_found_76 rfl (by decide) rfl ?_
          exact h
        · have h := h.2 (c)
          refine v_iconst (v := (nI 1)) (q := 72) dX7_found_71 rfl (by decide) ?_
          refine v_goto (q := 76) dX7_found_72 (by decide) ?_
          refine v_istore (q := 78) dX7_found_76 rfl (by decide) rfl ?_
          exact h
set_option maxRecDepth 20000 in
theorem bX7_found_78 {d : Nat} {σ : SS} {K : Int32 → SS → Prop} (v1 : Int32) (v2 : Int32) (v3 : Int32) (v4 : Int32) (v5 : Int32)   (h : (vp_in (nI 5) 3270) ∧ (((v4 < (σ.1 37 (nI 5).toNatClampNeg)) → (VV mX7_found d s00 99 [some (.ref 11), some (.int v1), some (.int v2), some (.int v3), some (.int v4), some (.int v5)] [] σ (Qi K))) ∧ ((¬ v4 < (σ.1 37 (nI 5).toNatClampNeg)) → (((v5 = 0) → (VV mX7_found d s00 99 [some (.ref 11), some (.int v1), some (.int v2), some (.int v3), some (.int v4), some (.int v5)] [] σ (Qi K))) ∧ ((¬ v5 = 0) → (VV mX7_found d s00 99 [some (.ref 11), some (.int v3), some (.int v4), some (.int v3), some (.int v4), some (.int v5)] [] σ (Qi K))))))) : VV mX7_found d s00 78 [some (.ref 11), some (.int v1), some (.int v2), some (.int v3), some (.int v4), some (.int v5)] [] σ (Qi K) := by
  refine v_iload (q := 80) dX7_found_78 rfl rfl ?_
  refine v_aload_n (q := 81) dX7_found_80 rfl rfl ?_
  refine v_get (q := 84) dX7_found_81 rfl fl_7_7 rfl rfl ?_
  refine v_iconst (v := (nI 5)) (q := 85) dX7_found_84 rfl (by decide) ?_
  refine v_iald (q := 86) dX7_found_85 rfl (isI_d rfl) h.1 ?_
  have h := h.2
  refine v_icmp_lt (t := 99) (q := 89) dX7_found_86 rfl (by decide) (fun c => ?_) (fun c => ?_)
  · have h := h.1 (c)
    exact h
  · have h := h.2 (c)
    refine v_iload (q := 91) dX7_found_89 rfl rfl ?_
    refine v_if_eq (t := 99) (q := 94) dX7_found_91 rfl (by decide) (fun c => ?_) (fun c => ?_)
    · have h := h.1 (c)
      exact h
    · have h := h.2 (c)
      refine v_iload_n (q := 95) dX7_found_94 rfl rfl ?_
      refine v_istore_n (q := 96) dX7_found_95 rfl (by decide) rfl ?_
      refine v_iload (q := 98) dX7_found_96 rfl rfl ?_
      refine v_istore_n (q := 99) dX7_found_98 rfl (by decide) rfl ?_
      exact h
set_option maxRecDepth 20000 in
theorem bX7_found_99 {d : Nat} {σ : SS} {K : Int32 → SS → Prop} (v1 : Int32) (v2 : Int32) (v3 : Int32) (v4 : Int32) (v5 : Int32)   (h : VV mX7_found d s00 7 [some (.ref 11), some (.int v1), some (.int v2), some (.int (v3 + nI 1)), none, none] [] σ (Qi K)) : VV mX7_found d s00 99 [some (.ref 11), some (.int v1), some (.int v2), some (.int v3), some (.int v4), some (.int v5)] [] σ (Qi K) := by
  refine v_iinc (y := (v3 + nI 1)) (q := 102) dX7_found_99 rfl rfl (congrArg (fun z => v3 + z) (by decide)) (by decide) rfl ?_
  refine v_goto (q := 7) dX7_found_102 (by decide) ?_
  exact v_msk [true, true, true, true, false, false] h
set_option maxRecDepth 20000 in
theorem bX7_match_0 {d : Nat} {σ : SS} {K : Int32 → SS → Prop}   (hd1 : 1 ≤ d) (h : CTi mX7_textFault (d - 1) [.ref 11] σ (fun x1 s2 => ((¬ x1 = (-1000000)) → (K (-1000003) s2)) ∧ ((x1 = (-1000000)) → (CTi mX7_found (d - 1) [.ref 11] s2 (fun x3 s4 => K x3 s4))))) : VV mX7_match d s00 0 [some (.ref 11)] [] σ (Qi K) := by
  refine v_aload_n (q := 1) dX7_match_0 rfl rfl ?_
  refine v_callV (As := []) (n := 0) (q := 4) dX7_match_1 rfl lk_7_125 hd1 rfl rfl (Nat.le_of_ble_eq_true rfl) (CT.imp h (fun r s2 h => ?_))
  obtain ⟨x1, rfl, h⟩ := h
  show VV mX7_match d s00 4 [some (.ref 11)] [.int x1] s2 (Qi K)
  refine v_ldc (v := (-1000000)) (q := 6) dX7_match_4 rfl cn_7_121 ?_
  refine v_icmp_ne (t := 16) (q := 9) dX7_match_6 rfl (by decide) (fun c => ?_) (fun c => ?_)
  · have h := h.1 (c)
    refine v_ldc (v := (-1000003)) (q := 18) dX7_match_16 rfl cn_7_128 ?_
    exact v_iret dX7_match_18 rfl ⟨_, rfl, h⟩
  · have h := h.2 (c)
    refine v_aload_n (q := 10) dX7_match_9 rfl rfl ?_
    refine v_callV (As := []) (n := 0) (q := 13) dX7_match_10 rfl lk_7_135 hd1 rfl rfl (Nat.le_of_ble_eq_true rfl) (CT.imp h (fun r s4 h => ?_))
    obtain ⟨x3, rfl, h⟩ := h
    show VV mX7_match d s00 13 [some (.ref 11)] [.int x3] s4 (Qi K)
    refine v_goto (q := 18) dX7_match_13 (by decide) ?_
    exact v_iret dX7_match_18 rfl ⟨_, rfl, h⟩
theorem eX7_match {d : Nat} {σ : SS} {K : Int32 → SS → Prop}   (hd1 : 1 ≤ d) (h : CTi mX7_textFault (d - 1) [.ref 11] σ (fun x1 s2 => ((¬ x1 = (-1000000)) → (K (-1000003) s2)) ∧ ((x1 = (-1000000)) → (CTi mX7_found (d - 1) [.ref 11] s2 (fun x3 s4 => K x3 s4))))) : CTi mX7_match d [.ref 11] σ K := CT_of (Q := (Qi K)) (by decide +kernel) rfl (by decide) (Nat.le_of_ble_eq_true rfl) rfl (bX7_match_0  hd1 h)
set_option maxRecDepth 20000 in
theorem bX7_alike_0 {d : Nat} {σ : SS} {K : Int32 → SS → Prop} (p1 : Int32)  (hd1 : 1 ≤ d) (h : CTi mX7_isPhrase (d - 1) [.ref 11, .int p1] σ (fun x1 s2 => ((¬ x1 = 0) → (CTi mX7_textFault (d - 1) [.ref 11] s2 (fun x3 s4 => ((¬ x3 = (-1000000)) → (K (-1000003) s4)) ∧ ((x3 = (-1000000)) → (CTi mX7_textScore (d - 1) [.ref 11, .int p1] s4 (fun x5 s6 => K x5 s6)))))) ∧ ((x1 = 0) → (K (-1000001) s2)))) : VV mX7_alike d s00 0 [some (.ref 11), some (.int p1)] [] σ (Qi K) := by
  refine v_aload_n (q := 1) dX7_alike_0 rfl rfl ?_
  refine v_iload_n (q := 2) dX7_alike_1 rfl rfl ?_
  refine v_callV (As := [.int p1]) (n := 1) (q := 5) dX7_alike_2 rfl lk_7_122 hd1 rfl rfl (Nat.le_of_ble_eq_true rfl) (CT.imp h (fun r s2 h => ?_))
  obtain ⟨x1, rfl, h⟩ := h
  show VV mX7_alike d s00 5 [some (.ref 11), some (.int p1)] [.int x1] s2 (Qi K)
  refine v_if_ne (t := 11) (q := 8) dX7_alike_5 rfl (by decide) (fun c => ?_) (fun c => ?_)
  · have h := h.1 (c)
    refine v_aload_n (q := 12) dX7_alike_11 rfl rfl ?_
    refine v_callV (As := []) (n := 0) (q := 15) dX7_alike_12 rfl lk_7_125 hd1 rfl rfl (Nat.le_of_ble_eq_true rfl) (CT.imp h (fun r s4 h => ?_))
    obtain ⟨x3, rfl, h⟩ := h
    show VV mX7_alike d s00 15 [some (.ref 11), some (.int p1)] [.int x3] s4 (Qi K)
    refine v_ldc (v := (-1000000)) (q := 17) dX7_alike_15 rfl cn_7_121 ?_
    refine v_icmp_ne (t := 28) (q := 20) dX7_alike_17 rfl (by decide) (fun c => ?_) (fun c => ?_)
    · have h := h.1 (c)
      refine v_ldc (v := (-1000003)) (q := 30) dX7_alike_28 rfl cn_7_128 ?_
      exact v_iret dX7_alike_30 rfl ⟨_, rfl, h⟩
    · have h := h.2 (c)
      refine v_aload_n (q := 21) dX7_alike_20 rfl rfl ?_
      refine v_iload_n (q := 22) dX7_alike_21 rfl rfl ?_
      refine v_callV (As := [.int p1]) (n := 1) (q := 25) dX7_alike_22 rfl lk_7_129 hd1 rfl rfl (Nat.le_of_ble_eq_true rfl) (CT.imp h (fun r s6 h => ?_))
      obtain ⟨x5, rfl, h⟩ := h
      show VV mX7_alike d s00 25 [some (.ref 11), some (.int p1)] [.int x5] s6 (Qi K)
      refine v_goto (q := 30) dX7_alike_25 (by decide) ?_
      exact v_iret dX7_alike_30 rfl ⟨_, rfl, h⟩
  · have h := h.2 (c)
    refine v_ldc (v := (-1000001)) (q := 10) dX7_alike_8 rfl cn_7_87 ?_
    exact v_iret dX7_alike_10 rfl ⟨_, rfl, h⟩
theorem eX7_alike {d : Nat} {σ : SS} {K : Int32 → SS → Prop} (p1 : Int32)  (hd1 : 1 ≤ d) (h : CTi mX7_isPhrase (d - 1) [.ref 11, .int p1] σ (fun x1 s2 => ((¬ x1 = 0) → (CTi mX7_textFault (d - 1) [.ref 11] s2 (fun x3 s4 => ((¬ x3 = (-1000000)) → (K (-1000003) s4)) ∧ ((x3 = (-1000000)) → (CTi mX7_textScore (d - 1) [.ref 11, .int p1] s4 (fun x5 s6 => K x5 s6)))))) ∧ ((x1 = 0) → (K (-1000001) s2)))) : CTi mX7_alike d [.ref 11, .int p1] σ K := CT_of (Q := (Qi K)) (by decide +kernel) rfl (by decide) (Nat.le_of_ble_eq_true rfl) rfl (bX7_alike_0 p1 hd1 h)
set_option maxRecDepth 20000 in
theorem bX7_feeOf_0 {d : Nat} {σ : SS} {K : Int32 → SS → Prop} (p1 : Int32) (p2 : Int32) (p3 : Int32)  (hd1 : 1 ≤ d) (h : CTi mX7_of (d - 1) [.ref 11, .int p1, .int (nI 0)] σ (fun x1 s2 => ((¬ x1 = p3) → (CTi mX7_of (d - 1) [.ref 11, .int p1, .int (nI 0)] s2 (fun x3 s4 => CTi mX7_price (d - 1) [.ref 11, .int x3] s4 (fun x5 s6 => K ((x5 * p2) / (nI 100)) s6)))) ∧ ((x1 = p3) → (K (nI 0) s2)))) : VV mX7_feeOf d s00 0 [some (.ref 11), some (.int p1), some (.int p2), some (.int p3)] [] σ (Qi K) := by
  refine v_aload_n (q := 1) dX7_feeOf_0 rfl rfl ?_
  refine v_iload_n (q := 2) dX7_feeOf_1 rfl rfl ?_
  refine v_iconst (v := (nI 0)) (q := 3) dX7_feeOf_2 rfl (by decide) ?_
  refine v_callV (As := [.int p1, .int (nI 0)]) (n := 2) (q := 6) dX7_feeOf_3 rfl lk_7_49 hd1 rfl rfl (Nat.le_of_ble_eq_true rfl) (CT.imp h (fun r s2 h => ?_))
  obtain ⟨x1, rfl, h⟩ := h
  show VV mX7_feeOf d s00 6 [some (.ref 11), some (.int p1), some (.int p2), some (.int p3)] [.int x1] s2 (Qi K)
  refine v_iload_n (q := 7) dX7_feeOf_6 rfl rfl ?_
  refine v_icmp_ne (t := 14) (q := 10) dX7_feeOf_7 rfl (by decide) (fun c => ?_) (fun c => ?_)
  · have h := h.1 (c)
    refine v_aload_n (q := 15) dX7_feeOf_14 rfl rfl ?_
    refine v_aload_n (q := 16) dX7_feeOf_15 rfl rfl ?_
    refine v_iload_n (q := 17) dX7_feeOf_16 rfl rfl ?_
    refine v_iconst (v := (nI 0)) (q := 18) dX7_feeOf_17 rfl (by decide) ?_
    refine v_callV (As := [.int p1, .int (nI 0)]) (n := 2) (q := 21) dX7_feeOf_18 rfl lk_7_49 hd1 rfl rfl (Nat.le_of_ble_eq_true rfl) (CT.imp h (fun r s4 h => ?_))
    obtain ⟨x3, rfl, h⟩ := h
    show VV mX7_feeOf d s00 21 [some (.ref 11), some (.int p1), some (.int p2), some (.int p3)] [.int x3, .ref 11] s4 (Qi K)
    refine v_callV (As := [.int x3]) (n := 1) (q := 24) dX7_feeOf_21 rfl lk_7_89 hd1 rfl rfl (Nat.le_of_ble_eq_true rfl) (CT.imp h (fun r s6 h => ?_))
    obtain ⟨x5, rfl, h⟩ := h
    show VV mX7_feeOf d s00 24 [some (.ref 11), some (.int p1), some (.int p2), some (.int p3)] [.int x5] s6 (Qi K)
    refine v_iload_n (q := 25) dX7_feeOf_24 rfl rfl ?_
    refine v_imul (q := 26) dX7_feeOf_25 rfl ?_
    refine v_bipush (v := (nI 100)) (q := 28) dX7_feeOf_26 rfl (by decide) ?_
    refine v_idiv (q := 29) dX7_feeOf_28 rfl (by decide) ?_
    exact v_iret dX7_feeOf_29 rfl ⟨_, rfl, h⟩
  · have h := h.2 (c)
    refine v_iconst (v := (nI 0)) (q := 11) dX7_feeOf_10 rfl (by decide) ?_
    refine v_goto (q := 29) dX7_feeOf_11 (by decide) ?_
    exact v_iret dX7_feeOf_29 rfl ⟨_, rfl, h⟩
theorem eX7_feeOf {d : Nat} {σ : SS} {K : Int32 → SS → Prop} (p1 : Int32) (p2 : Int32) (p3 : Int32)  (hd1 : 1 ≤ d) (h : CTi mX7_of (d - 1) [.ref 11, .int p1, .int (nI 0)] σ (fun x1 s2 => ((¬ x1 = p3) → (CTi mX7_of (d - 1) [.ref 11, .int p1, .int (nI 0)] s2 (fun x3 s4 => CTi mX7_price (d - 1) [.ref 11, .int x3] s4 (fun x5 s6 => K ((x5 * p2) / (nI 100)) s6)))) ∧ ((x1 = p3) → (K (nI 0) s2)))) : CTi mX7_feeOf d [.ref 11, .int p1, .int p2, .int p3] σ K := CT_of (Q := (Qi K)) (by decide +kernel) rfl (by decide) (Nat.le_of_ble_eq_true rfl) rfl (bX7_feeOf_0 p1 p2 p3 hd1 h)
set_option maxRecDepth 20000 in
theorem bX7_fee_0 {d : Nat} {σ : SS} {K : Int32 → SS → Prop} (p1 : Int32)  (hd1 : 1 ≤ d) (h : CTi mX7_isMember (d - 1) [.ref 11, .int p1] σ (fun x1 s2 => ((¬ x1 = 0) → (CTi mX7_textFault (d - 1) [.ref 11] s2 (fun x3 s4 => ((x3 = (-1000000)) → (CTi mX7_found (d - 1) [.ref 11] s4 (fun x5 s6 => ((¬ x5 = (-1000000)) → (CTi mX7_textScore (d - 1) [.ref 11, .int x5] s6 (fun x7 s8 => CTi mX7_feeOf (d - 1) [.ref 11, .int x5, .int x7, .int p1] s8 (fun x9 s10 => K x9 s10)))) ∧ ((x5 = (-1000000)) → (K (-1000000) s6))))) ∧ ((¬ x3 = (-1000000)) → (K (-1000003) s4))))) ∧ ((x1 = 0) → (K (-1000001) s2)))) : VV mX7_fee d s00 0 [some (.ref 11), some (.int p1), none] [] σ (Qi K) := by
  refine v_aload_n (q := 1) dX7_fee_0 rfl rfl ?_
  refine v_iload_n (q := 2) dX7_fee_1 rfl rfl ?_
  refine v_callV (As := [.int p1]) (n := 1) (q := 5) dX7_fee_2 rfl lk_7_83 hd1 rfl rfl (Nat.le_of_ble_eq_true rfl) (CT.imp h (fun r s2 h => ?_))
  obtain ⟨x1, rfl, h⟩ := h
  show VV mX7_fee d s00 5 [some (.ref 11), some (.int p1), none] [.int x1] s2 (Qi K)
  refine v_if_ne (t := 11) (q := 8) dX7_fee_5 rfl (by decide) (fun c => ?_) (fun c => ?_)
  · have h := h.1 (c)
    refine v_aload_n (q := 12) dX7_fee_11 rfl rfl ?_
    refine v_callV (As := []) (n := 0) (q := 15) dX7_fee_12 rfl lk_7_125 hd1 rfl rfl (Nat.le_of_ble_eq_true rfl) (CT.imp h (fun r s4 h => ?_))
    obtain ⟨x3, rfl, h⟩ := h
    show VV mX7_fee d s00 15 [some (.ref 11), some (.int p1), none] [.int x3] s4 (Qi K)
    refine v_ldc (v := (-1000000)) (q := 17) dX7_fee_15 rfl cn_7_121 ?_
    refine v_icmp_eq (t := 23) (q := 20) dX7_fee_17 rfl (by decide) (fun c => ?_) (fun c => ?_)
    · have h := h.1 (c)
      refine v_aload_n (q := 24) dX7_fee_23 rfl rfl ?_
      refine v_callV (As := []) (n := 0) (q := 27) dX7_fee_24 rfl lk_7_135 hd1 rfl rfl (Nat.le_of_ble_eq_true rfl) (CT.imp h (fun r s6 h => ?_))
      obtain ⟨x5, rfl, h⟩ := h
      show VV mX7_fee d s00 27 [some (.ref 11), some (.int p1), none] [.int x5] s6 (Qi K)
      refine v_istore_n (q := 28) dX7_fee_27 rfl (by decide) rfl ?_
      refine v_iload_n (q := 29) dX7_fee_28 rfl rfl ?_
      refine v_ldc (v := (-1000000)) (q := 31) dX7_fee_29 rfl cn_7_121 ?_
      refine v_icmp_ne (t := 39) (q := 34) dX7_fee_31 rfl (by decide) (fun c => ?_) (fun c => ?_)
      · have h := h.1 (c)
        refine v_aload_n (q := 40) dX7_fee_39 rfl rfl ?_
        refine v_iload_n (q := 41) dX7_fee_40 rfl rfl ?_
        refine v_aload_n (q := 42) dX7_fee_41 rfl rfl ?_
        refine v_iload_n (q := 43) dX7_fee_42 rfl rfl ?_
        refine v_callV (As := [.int x5]) (n := 1) (q := 46) dX7_fee_43 rfl lk_7_129 hd1 rfl rfl (Nat.le_of_ble_eq_true rfl) (CT.imp h (fun r s8 h => ?_))
        obtain ⟨x7, rfl, h⟩ := h
        show VV mX7_fee d s00 46 [some (.ref 11), some (.int p1), some (.int x5)] [.int x7, .int x5, .ref 11] s8 (Qi K)
        refine v_iload_n (q := 47) dX7_fee_46 rfl rfl ?_
        refine v_callV (As := [.int x5, .int x7, .int p1]) (n := 3) (q := 50) dX7_fee_47 rfl lk_7_138 hd1 rfl rfl (Nat.le_of_ble_eq_true rfl) (CT.imp h (fun r s10 h => ?_))
        obtain ⟨x9, rfl, h⟩ := h
        show VV mX7_fee d s00 50 [some (.ref 11), some (.int p1), some (.int x5)] [.int x9] s10 (Qi K)
        exact v_iret dX7_fee_50 rfl ⟨_, rfl, h⟩
      · have h := h.2 (c)
        refine v_ldc (v := (-1000000)) (q := 36) dX7_fee_34 rfl cn_7_121 ?_
        refine v_goto (q := 50) dX7_fee_36 (by decide) ?_
        exact v_iret dX7_fee_50 rfl ⟨_, rfl, h⟩
    · have h := h.2 (c)
      refine v_ldc (v := (-1000003)) (q := 22) dX7_fee_20 rfl cn_7_128 ?_
      exact v_iret dX7_fee_22 rfl ⟨_, rfl, h⟩
  · have h := h.2 (c)
    refine v_ldc (v := (-1000001)) (q := 10) dX7_fee_8 rfl cn_7_87 ?_
    exact v_iret dX7_fee_10 rfl ⟨_, rfl, h⟩
theorem eX7_fee {d : Nat} {σ : SS} {K : Int32 → SS → Prop} (p1 : Int32)  (hd1 : 1 ≤ d) (h : CTi mX7_isMember (d - 1) [.ref 11, .int p1] σ (fun x1 s2 => ((¬ x1 = 0) → (CTi mX7_textFault (d - 1) [.ref 11] s2 (fun x3 s4 => ((x3 = (-1000000)) → (CTi mX7_found (d - 1) [.ref 11] s4 (fun x5 s6 => ((¬ x5 = (-1000000)) → (CTi mX7_textScore (d - 1) [.ref 11, .int x5] s6 (fun x7 s8 => CTi mX7_feeOf (d - 1) [.ref 11, .int x5, .int x7, .int p1] s8 (fun x9 s10 => K x9 s10)))) ∧ ((x5 = (-1000000)) → (K (-1000000) s6))))) ∧ ((¬ x3 = (-1000000)) → (K (-1000003) s4))))) ∧ ((x1 = 0) → (K (-1000001) s2)))) : CTi mX7_fee d [.ref 11, .int p1] σ K := CT_of (Q := (Qi K)) (by decide +kernel) rfl (by decide) (Nat.le_of_ble_eq_true rfl) rfl (bX7_fee_0 p1 hd1 h)
set_option maxRecDepth 20000 in
theorem bX7_use_0 {d : Nat} {σ : SS} {K : Int32 → SS → Prop} (p1 : Int32)  (hd1 : 1 ≤ d) (h : CTi mX7_isMember (d - 1) [.ref 11, .int p1] σ (fun x1 s2 => ((¬ x1 = 0) → (CTi mX7_textFault (d - 1) [.ref 11] s2 (fun x3 s4 => ((x3 = (-1000000)) → ((vp_in (nI 2) 3270) ∧ (((¬ (s4.1 37 (nI 2).toNatClampNeg) = (nI 24)) → (CTv mX7_records (d - 1) [.ref 11] s4 (fun s6 => CTi mX7_found (d - 1) [.ref 11] s6 (fun x7 s8 => ((¬ x7 = (-1000000)) → (CTi mX7_textScore (d - 1) [.ref 11, .int x7] s8 (fun x9 s10 => CTi mX7_feeOf (d - 1) [.ref 11, .int x7, .int x9, .int p1] s10 (fun x11 s12 => (vp_in (nI 2) 3270) ∧ ((vp_in (nI 6) 3270) ∧ ((vp_in ((nI 342) + ((nI 13) * (s12.1 37 (nI 2).toNatClampNeg))) 3270) ∧ ((vp_in (((nI 342) + ((nI 13) * (s12.1 37 (nI 2).toNatClampNeg))) + (nI 1)) 3270) ∧ ((vp_in (((nI 342) + ((nI 13) * (s12.1 37 (nI 2).toNatClampNeg))) + (nI 2)) 3270) ∧ ((vp_in (((nI 342) + ((nI 13) * (s12.1 37 (nI 2).toNatClampNeg))) + (nI 3)) 3270) ∧ ((vp_in (nI 3) 3270) ∧ ((vp_in (((nI 342) + ((nI 13) * (s12.1 37 (nI 2).toNatClampNeg))) + (nI 4)) 3270) ∧ ((vp_in (((nI 342) + ((nI 13) * (s12.1 37 (nI 2).toNatClampNeg))) + (nI 5)) 3270) ∧ ((vp_in (((nI 342) + ((nI 13) * (s12.1 37 (nI 2).toNatClampNeg))) + (nI 6)) 3270) ∧ (VV mX7_use d s00 179 [some (.ref 11), some (.int p1), some (.int x7), some (.int x9), some (.int x11), some (.int ((nI 342) + ((nI 13) * (s12.1 37 (nI 2).toNatClampNeg)))), some (.int ((x11 * (s12.1 37 (nI 6).toNatClampNeg)) / (nI 100))), some (.int (nI 0)), none, none] [] (sA (sA (sA (sA (sA (sA (sA s12 37 ((nI 342) + ((nI 13) * (s12.1 37 (nI 2).toNatClampNeg))).toNatClampNeg p1) 37 (((nI 342) + ((nI 13) * (s12.1 37 (nI 2).toNatClampNeg))) + (nI 1)).toNatClampNeg x7) 37 (((nI 342) + ((nI 13) * (s12.1 37 (nI 2).toNatClampNeg))) + (nI 2)).toNatClampNeg x9) 37 (((nI 342) + ((nI 13) * (s12.1 37 (nI 2).toNatClampNeg))) + (nI 3)).toNatClampNeg x11) 37 (((nI 342) + ((nI 13) * (s12.1 37 (nI 2).toNatClampNeg))) + (nI 4)).toNatClampNeg ((sA (sA (sA (sA s12 37 ((nI 342) + ((nI 13) * (s12.1 37 (nI 2).toNatClampNeg))).toNatClampNeg p1) 37 (((nI 342) + ((nI 13) * (s12.1 37 (nI 2).toNatClampNeg))) + (nI 1)).toNatClampNeg x7) 37 (((nI 342) + ((nI 13) * (s12.1 37 (nI 2).toNatClampNeg))) + (nI 2)).toNatClampNeg x9) 37 (((nI 342) + ((nI 13) * (s12.1 37 (nI 2).toNatClampNeg))) + (nI 3)).toNatClampNeg x11).1 37 (nI 3).toNatClampNeg)) 37 (((nI 342) + ((nI 13) * (s12.1 37 (nI 2).toNatClampNeg))) + (nI 5)).toNatClampNeg (nI 0)) 37 (((nI 342) + ((nI 13) * (s12.1 37 (nI 2).toNatClampNeg))) + (nI 6)).toNatClampNeg ((x11 * (s12.1 37 (nI 6).toNatClampNeg)) / (nI 100))) (Qi K))))))))))))))) ∧ ((x7 = (-1000000)) → (K (-1000000) s8)))))) ∧ (((s4.1 37 (nI 2).toNatClampNeg) = (nI 24)) → (K (-1000004) s4))))) ∧ ((¬ x3 = (-1000000)) → (K (-1000003) s4))))) ∧ ((x1 = 0) → (K (-1000001) s2)))) : VV mX7_use d s00 0 [some (.ref 11), some (.int p1), none, none, none, none, none, none, none, none] [] σ (Qi K) := by
  refine v_aload_n (q := 1) dX7_use_0 rfl rfl ?_
  refine v_iload_n (q := 2) dX7_use_1 rfl rfl ?_
  refine v_callV (As := [.int p1]) (n := 1) (q := 5) dX7_use_2 rfl lk_7_83 hd1 rfl rfl (Nat.le_of_ble_eq_true rfl) (CT.imp h (fun r s2 h => ?_))
  obtain ⟨x1, rfl, h⟩ := h
  show VV mX7_use d s00 5 [some (.ref 11), some (.int p1), none, none, none, none, none, none, none, none] [.int x1] s2 (Qi K)
  refine v_if_ne (t := 11) (q := 8) dX7_use_5 rfl (by decide) (fun c => ?_) (fun c => ?_)
  · have h := h.1 (c)
    refine v_aload_n (q := 12) dX7_use_11 rfl rfl ?_
    refine v_callV (As := []) (n := 0) (q := 15) dX7_use_12 rfl lk_7_125 hd1 rfl rfl (Nat.le_of_ble_eq_true rfl) (CT.imp h (fun r s4 h => ?_))
    obtain ⟨x3, rfl, h⟩ := h
    show VV mX7_use d s00 15 [some (.ref 11), some (.int p1), none, none, none, none, none, none, none, none] [.int x3] s4 (Qi K)
    refine v_ldc (v := (-1000000)) (q := 17) dX7_use_15 rfl cn_7_121 ?_
    refine v_icmp_eq (t := 23) (q := 20) dX7_use_17 rfl (by decide) (fun c => ?_) (fun c => ?_)
    · have h := h.1 (c)
      refine v_aload_n (q := 24) dX7_use_23 rfl rfl ?_
      refine v_get (q := 27) dX7_use_24 rfl fl_7_7 rfl rfl ?_
      refine v_iconst (v := (nI 2)) (q := 28) dX7_use_27 rfl (by decide) ?_
      refine v_iald (q := 29) dX7_use_28 rfl (isI_d rfl) h.1 ?_
      have h := h.2
      refine v_bipush (v := (nI 24)) (q := 31) dX7_use_29 rfl (by decide) ?_
      refine v_icmp_ne (t := 37) (q := 34) dX7_use_31 rfl (by decide) (fun c => ?_) (fun c => ?_)
      · have h := h.1 (c)
        refine v_aload_n (q := 38) dX7_use_37 rfl rfl ?_
        refine v_callV (As := []) (n := 0) (q := 41) dX7_use_38 rfl lk_7_80 hd1 rfl rfl (Nat.le_of_ble_eq_true rfl) (CT.imp h (fun r s6 h => ?_))
        obtain ⟨rfl, h⟩ := h
        show VV mX7_use d s00 41 [some (.ref 11), some (.int p1), none, none, none, none, none, none, none, none] [] s6 (Qi K)
        refine v_aload_n (q := 42) dX7_use_41 rfl rfl ?_
        refine v_callV (As := []) (n := 0) (q := 45) dX7_use_42 rfl lk_7_135 hd1 rfl rfl (Nat.le_of_ble_eq_true rfl) (CT.imp h (fun r s8 h => ?_))
        obtain ⟨x7, rfl, h⟩ := h
        show VV mX7_use d s00 45 [some (.ref 11), some (.int p1), none, none, none, none, none, none, none, none] [.int x7] s8 (Qi K)
        refine v_istore_n (q := 46) dX7_use_45 rfl (by decide) rfl ?_
        refine v_iload_n (q := 47) dX7_use_46 rfl rfl ?_
        refine v_ldc (v := (-1000000)) (q := 49) dX7_use_47 rfl cn_7_121 ?_
        refine v_icmp_ne (t := 55) (q := 52) dX7_use_49 rfl (by decide) (fun c => ?_) (fun c => ?_)
        · have h := h.1 (c)
          refine v_aload_n (q := 56) dX7_use_55 rfl rfl ?_
          refine v_iload_n (q := 57) dX7_use_56 rfl rfl ?_
          refine v_callV (As := [.int x7]) (n := 1) (q := 60) dX7_use_57 rfl lk_7_129 hd1 rfl rfl (Nat.le_of_ble_eq_true rfl) (CT.imp h (fun r s10 h => ?_))
          obtain ⟨x9, rfl, h⟩ := h
          show VV mX7_use d s00 60 [some (.ref 11), some (.int p1), some (.int x7), none, none, none, none, none, none, none] [.int x9] s10 (Qi K)
          refine v_istore_n (q := 61) dX7_use_60 rfl (by decide) rfl ?_
          refine v_aload_n (q := 62) dX7_use_61 rfl rfl ?_
          refine v_iload_n (q := 63) dX7_use_62 rfl rfl ?_
          refine v_iload_n (q := 64) dX7_use_63 rfl rfl ?_
          refine v_iload_n (q := 65) dX7_use_64 rfl rfl ?_
          refine v_callV (As := [.int x7, .int x9, .int p1]) (n := 3) (q := 68) dX7_use_65 rfl lk_7_138 hd1 rfl rfl (Nat.le_of_ble_eq_true rfl) (CT.imp h (fun r s12 h => ?_))
          obtain ⟨x11, rfl, h⟩ := h
          show VV mX7_use d s00 68 [some (.ref 11), some (.int p1), some (.int x7), some (.int x9), none, none, none, none, none, none] [.int x11] s12 (Qi K)
          refine v_istore (q := 70) dX7_use_68 rfl (by decide) rfl ?_
          refine v_sipush (v := (nI 342)) (q := 73) dX7_use_70 rfl (by decide) ?_
          refine v_bipush (v := (nI 13)) (q := 75) dX7_use_73 rfl (by decide) ?_
          refine v_aload_n (q := 76) dX7_use_75 rfl rfl ?_
          refine v_get (q := 79) dX7_use_76 rfl fl_7_7 rfl rfl ?_
          refine v_iconst (v := (nI 2)) (q := 80) dX7_use_79 rfl (by decide) ?_
          refine v_iald (q := 81) dX7_use_80 rfl (isI_d rfl) h.1 ?_
          have h := h.2
          refine v_imul (q := 82) dX7_use_81 rfl ?_
          refine v_iadd (q := 83) dX7_use_82 rfl ?_
          refine v_istore (q := 85) dX7_use_83 rfl (by decide) rfl ?_
          refine v_iload (q := 87) dX7_use_85 rfl rfl ?_
          refine v_aload_n (q := 88) dX7_use_87 rfl rfl ?_
          refine v_get (q := 91) dX7_use_88 rfl fl_7_7 rfl rfl ?_
          refine v_bipush (v := (nI 6)) (q := 93) dX7_use_91 rfl (by decide) ?_
          refine v_iald (q := 94) dX7_use_93 rfl (isI_d rfl) h.1 ?_
          have h := h.2
          refine v_imul (q := 95) dX7_use_94 rfl ?_
          refine v_bipush (v := (nI 100)) (q := 97) dX7_use_95 rfl (by decide) ?_
          refine v_idiv (q := 98) dX7_use_97 rfl (by decide) ?_
          refine v_istore (q := 100) dX7_use_98 rfl (by decide) rfl ?_
          refine v_aload_n (q := 101) dX7_use_100 rfl rfl ?_
          refine v_get (q := 104) dX7_use_101 rfl fl_7_7 rfl rfl ?_
          refine v_iload (q := 106) dX7_use_104 rfl rfl ?_
          refine v_iload_n (q := 107) dX7_use_106 rfl rfl ?_
          refine v_iast (q := 108) dX7_use_107 rfl (isI_d rfl) h.1 ?_
          have h := h.2
          refine v_aload_n (q := 109) dX7_use_108 rfl rfl ?_
          refine v_get (q := 112) dX7_use_109 rfl fl_7_7 rfl rfl ?_
          refine v_iload (q := 114) dX7_use_112 rfl rfl ?_
          refine v_iconst (v := (nI 1)) (q := 115) dX7_use_114 rfl (by decide) ?_
          refine v_iadd (q := 116) dX7_use_115 rfl ?_
          refine v_iload_n (q := 117) dX7_use_116 rfl rfl ?_
          refine v_iast (q := 118) dX7_use_117 rfl (isI_d rfl) h.1 ?_
          have h := h.2
          refine v_aload_n (q := 119) dX7_use_118 rfl rfl ?_
          refine v_get (q := 122) dX7_use_119 rfl fl_7_7 rfl rfl ?_
          refine v_iload (q := 124) dX7_use_122 rfl rfl ?_
          refine v_iconst (v := (nI 2)) (q := 125) dX7_use_124 rfl (by decide) ?_
          refine v_iadd (q := 126) dX7_use_125 rfl ?_
          refine v_iload_n (q := 127) dX7_use_126 rfl rfl ?_
          refine v_iast (q := 128) dX7_use_127 rfl (isI_d rfl) h.1 ?_
          have h := h.2
          refine v_aload_n (q := 129) dX7_use_128 rfl rfl ?_
          refine v_get (q := 132) dX7_use_129 rfl fl_7_7 rfl rfl ?_
          refine v_iload (q := 134) dX7_use_132 rfl rfl ?_
          refine v_iconst (v := (nI 3)) (q := 135) dX7_use_134 rfl (by decide) ?_
          refine v_iadd (q := 136) dX7_use_135 rfl ?_
          refine v_iload (q := 138) dX7_use_136 rfl rfl ?_
          refine v_iast (q := 139) dX7_use_138 rfl (isI_d rfl) h.1 ?_
          have h := h.2
          refine v_aload_n (q := 140) dX7_use_139 rfl rfl ?_
          refine v_get (q := 143) dX7_use_140 rfl fl_7_7 rfl rfl ?_
          refine v_iload (q := 145) dX7_use_143 rfl rfl ?_
          refine v_iconst (v := (nI 4)) (q := 146) dX7_use_145 rfl (by decide) ?_
          refine v_iadd (q := 147) dX7_use_146 rfl ?_
          refine v_aload_n (q := 148) dX7_use_147 rfl rfl ?_
          refine v_get (q := 151) dX7_use_148 rfl fl_7_7 rfl rfl ?_
          refine v_iconst (v := (nI 3)) (q := 152) dX7_use_151 rfl (by decide) ?_
          refine v_iald (q := 153) dX7_use_152 rfl (isI_d rfl) h.1 ?_
          have h := h.2
          refine v_iast (q := 154) dX7_use_153 rfl (isI_d rfl) h.1 ?_
          have h := h.2
          refine v_aload_n (q := 155) dX7_use_154 rfl rfl ?_
          refine v_get (q := 158) dX7_use_155 rfl fl_7_7 rfl rfl ?_
          refine v_iload (q := 160) dX7_use_158 rfl rfl ?_
          refine v_iconst (v := (nI 5)) (q := 161) dX7_use_160 rfl (by decide) ?_
          refine v_iadd (q := 162) dX7_use_161 rfl ?_
          refine v_iconst (v := (nI 0)) (q := 163) dX7_use_162 rfl (by decide) ?_
          refine v_iast (q := 164) dX7_use_163 rfl (isI_d rfl) h.1 ?_
          have h := h.2
          refine v_aload_n (q := 165) dX7_use_164 rfl rfl ?_
          refine v_get (q := 168) dX7_use_165 rfl fl_7_7 rfl rfl ?_
          refine v_iload (q := 170) dX7_use_168 rfl rfl ?_
          refine v_bipush (v := (nI 6)) (q := 172) dX7_use_170 rfl (by decide) ?_
          refine v_iadd (q := 173) dX7_use_172 rfl ?_
          refine v_iload (q := 175) dX7_use_173 rfl rfl ?_
          refine v_iast (q := 176) dX7_use_175 rfl (isI_d rfl) h.1 ?_
          have h := h.2
          refine v_iconst (v := (nI 0)) (q := 177) dX7_use_176 rfl (by decide) ?_
          refine v_istore (q := 179) dX7_use_177 rfl (by decide) rfl ?_
          exact h
        · have h := h.2 (c)
          refine v_ldc (v := (-1000000)) (q := 54) dX7_use_52 rfl cn_7_121 ?_
          exact v_iret dX7_use_54 rfl ⟨_, rfl, h⟩
      · have h := h.2 (c)
        refine v_ldc (v := (-1000004)) (q := 36) dX7_use_34 rfl cn_7_79 ?_
        exact v_iret dX7_use_36 rfl ⟨_, rfl, h⟩
    · have h := h.2 (c)
      refine v_ldc (v := (-1000003)) (q := 22) dX7_use_20 rfl cn_7_128 ?_
      exact v_iret dX7_use_22 rfl ⟨_, rfl, h⟩
  · have h := h.2 (c)
    refine v_ldc (v := (-1000001)) (q := 10) dX7_use_8 rfl cn_7_87 ?_
    exact v_iret dX7_use_10 rfl ⟨_, rfl, h⟩
theorem eX7_use {d : Nat} {σ : SS} {K : Int32 → SS → Prop} (p1 : Int32)  (hd1 : 1 ≤ d) (h : CTi mX7_isMember (d - 1) [.ref 11, .int p1] σ (fun x1 s2 => ((¬ x1 = 0) → (CTi mX7_textFault (d - 1) [.ref 11] s2 (fun x3 s4 => ((x3 = (-1000000)) → ((vp_in (nI 2) 3270) ∧ (((¬ (s4.1 37 (nI 2).toNatClampNeg) = (nI 24)) → (CTv mX7_records (d - 1) [.ref 11] s4 (fun s6 => CTi mX7_found (d - 1) [.ref 11] s6 (fun x7 s8 => ((¬ x7 = (-1000000)) → (CTi mX7_textScore (d - 1) [.ref 11, .int x7] s8 (fun x9 s10 => CTi mX7_feeOf (d - 1) [.ref 11, .int x7, .int x9, .int p1] s10 (fun x11 s12 => (vp_in (nI 2) 3270) ∧ ((vp_in (nI 6) 3270) ∧ ((vp_in ((nI 342) + ((nI 13) * (s12.1 37 (nI 2).toNatClampNeg))) 3270) ∧ ((vp_in (((nI 342) + ((nI 13) * (s12.1 37 (nI 2).toNatClampNeg))) + (nI 1)) 3270) ∧ ((vp_in (((nI 342) + ((nI 13) * (s12.1 37 (nI 2).toNatClampNeg))) + (nI 2)) 3270) ∧ ((vp_in (((nI 342) + ((nI 13) * (s12.1 37 (nI 2).toNatClampNeg))) + (nI 3)) 3270) ∧ ((vp_in (nI 3) 3270) ∧ ((vp_in (((nI 342) + ((nI 13) * (s12.1 37 (nI 2).toNatClampNeg))) + (nI 4)) 3270) ∧ ((vp_in (((nI 342) + ((nI 13) * (s12.1 37 (nI 2).toNatClampNeg))) + (nI 5)) 3270) ∧ ((vp_in (((nI 342) + ((nI 13) * (s12.1 37 (nI 2).toNatClampNeg))) + (nI 6)) 3270) ∧ (VV mX7_use d s00 179 [some (.ref 11), some (.int p1), some (.int x7), some (.int x9), some (.int x11), some (.int ((nI 342) + ((nI 13) * (s12.1 37 (nI 2).toNatClampNeg)))), some (.int ((x11 * (s12.1 37 (nI 6).toNatClampNeg)) / (nI 100))), some (.int (nI 0)), none, none] [] (sA (sA (sA (sA (sA (sA (sA s12 37 ((nI 342) + ((nI 13) * (s12.1 37 (nI 2).toNatClampNeg))).toNatClampNeg p1) 37 (((nI 342) + ((nI 13) * (s12.1 37 (nI 2).toNatClampNeg))) + (nI 1)).toNatClampNeg x7) 37 (((nI 342) + ((nI 13) * (s12.1 37 (nI 2).toNatClampNeg))) + (nI 2)).toNatClampNeg x9) 37 (((nI 342) + ((nI 13) * (s12.1 37 (nI 2).toNatClampNeg))) + (nI 3)).toNatClampNeg x11) 37 (((nI 342) + ((nI 13) * (s12.1 37 (nI 2).toNatClampNeg))) + (nI 4)).toNatClampNeg ((sA (sA (sA (sA s12 37 ((nI 342) + ((nI 13) * (s12.1 37 (nI 2).toNatClampNeg))).toNatClampNeg p1) 37 (((nI 342) + ((nI 13) * (s12.1 37 (nI 2).toNatClampNeg))) + (nI 1)).toNatClampNeg x7) 37 (((nI 342) + ((nI 13) * (s12.1 37 (nI 2).toNatClampNeg))) + (nI 2)).toNatClampNeg x9) 37 (((nI 342) + ((nI 13) * (s12.1 37 (nI 2).toNatClampNeg))) + (nI 3)).toNatClampNeg x11).1 37 (nI 3).toNatClampNeg)) 37 (((nI 342) + ((nI 13) * (s12.1 37 (nI 2).toNatClampNeg))) + (nI 5)).toNatClampNeg (nI 0)) 37 (((nI 342) + ((nI 13) * (s12.1 37 (nI 2).toNatClampNeg))) + (nI 6)).toNatClampNeg ((x11 * (s12.1 37 (nI 6).toNatClampNeg)) / (nI 100))) (Qi K))))))))))))))) ∧ ((x7 = (-1000000)) → (K (-1000000) s8)))))) ∧ (((s4.1 37 (nI 2).toNatClampNeg) = (nI 24)) → (K (-1000004) s4))))) ∧ ((¬ x3 = (-1000000)) → (K (-1000003) s4))))) ∧ ((x1 = 0) → (K (-1000001) s2)))) : CTi mX7_use d [.ref 11, .int p1] σ K := CT_of (Q := (Qi K)) (by decide +kernel) rfl (by decide) (Nat.le_of_ble_eq_true rfl) rfl (bX7_use_0 p1 hd1 h)
set_option maxRecDepth 20000 in
theorem bX7_use_179 {d : Nat} {σ : SS} {K : Int32 → SS → Prop} (v1 : Int32) (v2 : Int32) (v3 : Int32) (v4 : Int32) (v5 : Int32) (v6 : Int32) (v7 : Int32)   (h : (((nI 6) ≤ v7) → (VV mX7_use d s00 216 [some (.ref 11), some (.int v1), some (.int v2), some (.int v3), some (.int v4), some (.int v5), some (.int v6), some (.int (v4 - v6)), some (.int v2), none] [] σ (Qi K))) ∧ ((¬ (nI 6) ≤ v7) → ((vp_in ((v5 + (nI 7)) + v7) 3270) ∧ (VV mX7_use d s00 179 [some (.ref 11), some (.int v1), some (.int v2), some (.int v3), some (.int v4), some (.int v5), some (.int v6), some (.int (v7 + nI 1)), none, none] [] (sA σ 37 ((v5 + (nI 7)) + v7).toNatClampNeg (nI 0)) (Qi K))))) : VV mX7_use d s00 179 [some (.ref 11), some (.int v1), some (.int v2), some (.int v3), some (.int v4), some (.int v5), some (.int v6), some (.int v7), none, none] [] σ (Qi K) := by
  refine v_iload (q := 181) dX7_use_179 rfl rfl ?_
  refine v_bipush (v := (nI 6)) (q := 183) dX7_use_181 rfl (by decide) ?_
  refine v_icmp_ge (t := 206) (q := 186) dX7_use_183 rfl (by decide) (fun c => ?_) (fun c => ?_)
  · have h := h.1 (c)
    refine v_iload (q := 208) dX7_use_206 rfl rfl ?_
    refine v_iload (q := 210) dX7_use_208 rfl rfl ?_
    refine v_isub (q := 211) dX7_use_210 rfl ?_
    refine v_istore (q := 213) dX7_use_211 rfl (by decide) rfl ?_
    refine v_iload_n (q := 214) dX7_use_213 rfl rfl ?_
    refine v_istore (q := 216) dX7_use_214 rfl (by decide) rfl ?_
    exact h
  · have h := h.2 (c)
    refine v_aload_n (q := 187) dX7_use_186 rfl rfl ?_
    refine v_get (q := 190) dX7_use_187 rfl fl_7_7 rfl rfl ?_
    refine v_iload (q := 192) dX7_use_190 rfl rfl ?_
    refine v_bipush (v := (nI 7)) (q := 194) dX7_use_192 rfl (by decide) ?_
    refine v_iadd (q := 195) dX7_use_194 rfl ?_
    refine v_iload (q := 197) dX7_use_195 rfl rfl ?_
    refine v_iadd (q := 198) dX7_use_197 rfl ?_
    refine v_iconst (v := (nI 0)) (q := 199) dX7_use_198 rfl (by decide) ?_
    refine v_iast (q := 200) dX7_use_199 rfl (isI_d rfl) h.1 ?_
    have h := h.2
    refine v_iinc (y := (v7 + nI 1)) (q := 203) dX7_use_200 rfl rfl (congrArg (fun z => v7 + z) (by decide)) (by decide) rfl ?_
    refine v_goto (q := 179) dX7_use_203 (by decide) ?_
    exact h
set_option maxRecDepth 20000 in
theorem bX7_use_216 {d : Nat} {σ : SS} {K : Int32 → SS → Prop} (v1 : Int32) (v2 : Int32) (v3 : Int32) (v4 : Int32) (v5 : Int32) (v6 : Int32) (v7 : Int32) (v8 : Int32)  (hd1 : 1 ≤ d) (h : ((v8 = (-1000000)) → (CTv mX7_pays (d - 1) [.ref 11, .int v1, .int (-v4)] σ (fun s2 => (vp_in (nI 4) 3270) ∧ ((vp_in (nI 4) 3270) ∧ (VV mX7_use d s00 318 [some (.ref 11), some (.int v1), some (.int v2), some (.int v3), some (.int v4), some (.int v5), some (.int v6), some (.int v7), some (.int v8), some (.int (nI 0))] [] (sA s2 37 (nI 4).toNatClampNeg ((s2.1 37 (nI 4).toNatClampNeg) + v6)) (Qi K)))))) ∧ ((¬ v8 = (-1000000)) → (CTi mX7_of (d - 1) [.ref 11, .int v8, .int (nI 3)] σ (fun x3 s4 => ((¬ x3 = (-1000000)) → ((vp_in (nI 7) 3270) ∧ (CTi mX7_of (d - 1) [.ref 11, .int v8, .int (nI 0)] s4 (fun x5 s6 => (vp_in ((v5 + (nI 7)) + x5) 3270) ∧ ((vp_in ((v5 + (nI 7)) + x5) 3270) ∧ (CTi mX7_of (d - 1) [.ref 11, .int v8, .int (nI 3)] (sA s6 37 ((v5 + (nI 7)) + x5).toNatClampNeg ((s6.1 37 ((v5 + (nI 7)) + x5).toNatClampNeg) + (v7 - ((v7 * (s4.1 37 (nI 7).toNatClampNeg)) / (nI 100))))) (fun x7 s8 => VV mX7_use d s00 216 [some (.ref 11), some (.int v1), some (.int v2), some (.int v3), some (.int v4), some (.int v5), some (.int v6), some (.int ((v7 * (s4.1 37 (nI 7).toNatClampNeg)) / (nI 100))), some (.int x7), none] [] s8 (Qi K)))))))) ∧ ((x3 = (-1000000)) → (CTi mX7_of (d - 1) [.ref 11, .int v8, .int (nI 0)] s4 (fun x9 s10 => (vp_in ((v5 + (nI 7)) + x9) 3270) ∧ ((vp_in ((v5 + (nI 7)) + x9) 3270) ∧ (CTi mX7_of (d - 1) [.ref 11, .int v8, .int (nI 3)] (sA s10 37 ((v5 + (nI 7)) + x9).toNatClampNeg ((s10.1 37 ((v5 + (nI 7)) + x9).toNatClampNeg) + (v7 - (nI 0)))) (fun x11 s12 => VV mX7_use d s00 216 [some (.ref 11), some (.int v1), some (.int v2), some (.int v3), some (.int v4), some (.int v5), some (.int v6), some (.int (nI 0)), some (.int x11), none] [] s12 (Qi K))))))))))) : VV mX7_use d s00 216 [some (.ref 11), some (.int v1), some (.int v2), some (.int v3), some (.int v4), some (.int v5), some (.int v6), some (.int v7), some (.int v8), none] [] σ (Qi K) := by
  refine v_iload (q := 218) dX7_use_216 rfl rfl ?_
  refine v_ldc (v := (-1000000)) (q := 220) dX7_use_218 rfl cn_7_121 ?_
  refine v_icmp_eq (t := 296) (q := 223) dX7_use_220 rfl (by decide) (fun c => ?_) (fun c => ?_)
  · have h := h.1 (c)
    refine v_aload_n (q := 297) dX7_use_296 rfl rfl ?_
    refine v_iload_n (q := 298) dX7_use_297 rfl rfl ?_
    refine v_iload (q := 300) dX7_use_298 rfl rfl ?_
    refine v_ineg (q := 301) dX7_use_300 rfl ?_
    refine v_callV (As := [.int v1, .int (-v4)]) (n := 2) (q := 304) dX7_use_301 rfl lk_7_142 hd1 rfl rfl (Nat.le_of_ble_eq_true rfl) (CT.imp h (fun r s2 h => ?_))
    obtain ⟨rfl, h⟩ := h
    show VV mX7_use d s00 304 [some (.ref 11), some (.int v1), some (.int v2), some (.int v3), some (.int v4), some (.int v5), some (.int v6), some (.int v7), some (.int v8), none] [] s2 (Qi K)
    refine v_aload_n (q := 305) dX7_use_304 rfl rfl ?_
    refine v_get (q := 308) dX7_use_305 rfl fl_7_7 rfl rfl ?_
    refine v_iconst (v := (nI 4)) (q := 309) dX7_use_308 rfl (by decide) ?_
    refine v_dup2 (q := 310) dX7_use_309 rfl rfl rfl ?_
    refine v_iald (q := 311) dX7_use_310 rfl (isI_d rfl) h.1 ?_
    have h := h.2
    refine v_iload (q := 313) dX7_use_311 rfl rfl ?_
    refine v_iadd (q := 314) dX7_use_313 rfl ?_
    refine v_iast (q := 315) dX7_use_314 rfl (isI_d rfl) h.1 ?_
    have h := h.2
    refine v_iconst (v := (nI 0)) (q := 316) dX7_use_315 rfl (by decide) ?_
    refine v_istore (q := 318) dX7_use_316 rfl (by decide) rfl ?_
    exact h
  · have h := h.2 (c)
    refine v_aload_n (q := 224) dX7_use_223 rfl rfl ?_
    refine v_iload (q := 226) dX7_use_224 rfl rfl ?_
    refine v_iconst (v := (nI 3)) (q := 227) dX7_use_226 rfl (by decide) ?_
    refine v_callV (As := [.int v8, .int (nI 3)]) (n := 2) (q := 230) dX7_use_227 rfl lk_7_49 hd1 rfl rfl (Nat.le_of_ble_eq_true rfl) (CT.imp h (fun r s4 h => ?_))
    obtain ⟨x3, rfl, h⟩ := h
    show VV mX7_use d s00 230 [some (.ref 11), some (.int v1), some (.int v2), some (.int v3), some (.int v4), some (.int v5), some (.int v6), some (.int v7), some (.int v8), none] [.int x3] s4 (Qi K)
    refine v_ldc (v := (-1000000)) (q := 232) dX7_use_230 rfl cn_7_121 ?_
    refine v_icmp_ne (t := 239) (q := 235) dX7_use_232 rfl (by decide) (fun c => ?_) (fun c => ?_)
    · have h := h.1 (c)
      refine v_iload (q := 241) dX7_use_239 rfl rfl ?_
      refine v_aload_n (q := 242) dX7_use_241 rfl rfl ?_
      refine v_get (q := 245) dX7_use_242 rfl fl_7_7 rfl rfl ?_
      refine v_bipush (v := (nI 7)) (q := 247) dX7_use_245 rfl (by decide) ?_
      refine v_iald (q := 248) dX7_use_247 rfl (isI_d rfl) h.1 ?_
      have h := h.2
      refine v_imul (q := 249) dX7_use_248 rfl ?_
      refine v_bipush (v := (nI 100)) (q := 251) dX7_use_249 rfl (by decide) ?_
      refine v_idiv (q := 252) dX7_use_251 rfl (by decide) ?_
      refine v_istore (q := 254) dX7_use_252 rfl (by decide) rfl ?_
      refine v_aload_n (q := 255) dX7_use_254 rfl rfl ?_
      refine v_get (q := 258) dX7_use_255 rfl fl_7_7 rfl rfl ?_
      refine v_iload (q := 260) dX7_use_258 rfl rfl ?_
      refine v_bipush (v := (nI 7)) (q := 262) dX7_use_260 rfl (by decide) ?_
      refine v_iadd (q := 263) dX7_use_262 rfl ?_
      refine v_aload_n (q := 264) dX7_use_263 rfl rfl ?_
      refine v_iload (q := 266) dX7_use_264 rfl rfl ?_
      refine v_iconst (v := (nI 0)) (q := 267) dX7_use_266 rfl (by decide) ?_
      refine v_callV (As := [.int v8, .int (nI 0)]) (n := 2) (q := 270) dX7_use_267 rfl lk_7_49 hd1 rfl rfl (Nat.le_of_ble_eq_true rfl) (CT.imp h (fun r s6 h => ?_))
      obtain ⟨x5, rfl, h⟩ := h
      show VV mX7_use d s00 270 [some (.ref 11), some (.int v1), some (.int v2), some (.int v3), some (.int v4), some (.int v5), some (.int v6), some (.int v7), some (.int v8), some (.int ((v7 * (s4.1 37 (nI 7).toNatClampNeg)) / (nI 100)))] [.int x5, .int (v5 + (nI 7)), .ref 37] s6 (Qi K)
      refine v_iadd (q := 271) dX7_use_270 rfl ?_
      refine v_dup2 (q := 272) dX7_use_271 rfl rfl rfl ?_
      refine v_iald (q := 273) dX7_use_272 rfl (isI_d rfl) h.1 ?_
      have h := h.2
      refine v_iload (q := 275) dX7_use_273 rfl rfl ?_
      refine v_iload (q := 277) dX7_use_275 rfl rfl ?_
      refine v_isub (q := 278) dX7_use_277 rfl ?_
      refine v_iadd (q := 279) dX7_use_278 rfl ?_
      refine v_iast (q := 280) dX7_use_279 rfl (isI_d rfl) h.1 ?_
      have h := h.2
      refine v_iload (q := 282) dX7_use_280 rfl rfl ?_
      refine v_istore (q := 284) dX7_use_282 rfl (by decide) rfl ?_
      refine v_aload_n (q := 285) dX7_use_284 rfl rfl ?_
      refine v_iload (q := 287) dX7_use_285 rfl rfl ?_
      refine v_iconst (v := (nI 3)) (q := 288) dX7_use_287 rfl (by decide) ?_
      refine v_callV (As := [.int v8, .int (nI 3)]) (n := 2) (q := 291) dX7_use_288 rfl lk_7_49 hd1 rfl rfl (Nat.le_of_ble_eq_true rfl) (CT.imp h (fun r s8 h => ?_))
      obtain ⟨x7, rfl, h⟩ := h
      show VV mX7_use d s00 291 [some (.ref 11), some (.int v1), some (.int v2), some (.int v3), some (.int v4), some (.int v5), some (.int v6), some (.int ((v7 * (s4.1 37 (nI 7).toNatClampNeg)) / (nI 100))), some (.int v8), some (.int ((v7 * (s4.1 37 (nI 7).toNatClampNeg)) / (nI 100)))] [.int x7] s8 (Qi K)
      refine v_istore (q := 293) dX7_use_291 rfl (by decide) rfl ?_
      refine v_goto (q := 216) dX7_use_293 (by decide) ?_
      exact v_msk [true, true, true, true, true, true, true, true, true, false] h
    · have h := h.2 (c)
      refine v_iconst (v := (nI 0)) (q := 236) dX7_use_235 rfl (by decide) ?_
      refine v_goto (q := 252) dX7_use_236 (by decide) ?_
      refine v_istore (q := 254) dX7_use_252 rfl (by decide) rfl ?_
      refine v_aload_n (q := 255) dX7_use_254 rfl rfl ?_
      refine v_get (q := 258) dX7_use_255 rfl fl_7_7 rfl rfl ?_
      refine v_iload (q := 260) dX7_use_258 rfl rfl ?_
      refine v_bipush (v := (nI 7)) (q := 262) dX7_use_260 rfl (by decide) ?_
      refine v_iadd (q := 263) dX7_use_262 rfl ?_
      refine v_aload_n (q := 264) dX7_use_263 rfl rfl ?_
      refine v_iload (q := 266) dX7_use_264 rfl rfl ?_
      refine v_iconst (v := (nI 0)) (q := 267) dX7_use_266 rfl (by decide) ?_
      refine v_callV (As := [.int v8, .int (nI 0)]) (n := 2) (q := 270) dX7_use_267 rfl lk_7_49 hd1 rfl rfl (Nat.le_of_ble_eq_true rfl) (CT.imp h (fun r s10 h => ?_))
      obtain ⟨x9, rfl, h⟩ := h
      show VV mX7_use d s00 270 [some (.ref 11), some (.int v1), some (.int v2), some (.int v3), some (.int v4), some (.int v5), some (.int v6), some (.int v7), some (.int v8), some (.int (nI 0))] [.int x9, .int (v5 + (nI 7)), .ref 37] s10 (Qi K)
      refine v_iadd (q := 271) dX7_use_270 rfl ?_
      refine v_dup2 (q := 272) dX7_use_271 rfl rfl rfl ?_
      refine v_iald (q := 273) dX7_use_272 rfl (isI_d rfl) h.1 ?_
      have h := h.2
      refine v_iload (q := 275) dX7_use_273 rfl rfl ?_
      refine v_iload (q := 277) dX7_use_275 rfl rfl ?_
      refine v_isub (q := 278) dX7_use_277 rfl ?_
      refine v_iadd (q := 279) dX7_use_278 rfl ?_
      refine v_iast (q := 280) dX7_use_279 rfl (isI_d rfl) h.1 ?_
      have h := h.2
      refine v_iload (q := 282) dX7_use_280 rfl rfl ?_
      refine v_istore (q := 284) dX7_use_282 rfl (by decide) rfl ?_
      refine v_aload_n (q := 285) dX7_use_284 rfl rfl ?_
      refine v_iload (q := 287) dX7_use_285 rfl rfl ?_
      refine v_iconst (v := (nI 3)) (q := 288) dX7_use_287 rfl (by decide) ?_
      refine v_callV (As := [.int v8, .int (nI 3)]) (n := 2) (q := 291) dX7_use_288 rfl lk_7_49 hd1 rfl rfl (Nat.le_of_ble_eq_true rfl) (CT.imp h (fun r s12 h => ?_))
      obtain ⟨x11, rfl, h⟩ := h
      show VV mX7_use d s00 291 [some (.ref 11), some (.int v1), some (.int v2), some (.int v3), some (.int v4), some (.int v5), some (.int v6), some (.int (nI 0)), some (.int v8), some (.int (nI 0))] [.int x11] s12 (Qi K)
      refine v_istore (q := 293) dX7_use_291 rfl (by decide) rfl ?_
      refine v_goto (q := 216) dX7_use_293 (by decide) ?_
      exact v_msk [true, true, true, true, true, true, true, true, true, false] h
set_option maxRecDepth 20000 in
theorem bX7_use_318 {d : Nat} {σ : SS} {K : Int32 → SS → Prop} (v1 : Int32) (v2 : Int32) (v3 : Int32) (v4 : Int32) (v5 : Int32) (v6 : Int32) (v7 : Int32) (v8 : Int32) (v9 : Int32)  (hd1 : 1 ≤ d) (h : (vp_in (nI 0) 3270) ∧ ((((σ.1 37 (nI 0).toNatClampNeg) ≤ v9) → ((vp_in (((nI 22) + ((nI 16) * v2)) + (nI 5)) 3270) ∧ ((vp_in (((nI 22) + ((nI 16) * v2)) + (nI 5)) 3270) ∧ ((vp_in (nI 2) 3270) ∧ ((vp_in (nI 2) 3270) ∧ ((vp_in (nI 2) 3270) ∧ (K (((sA (sA σ 37 (((nI 22) + ((nI 16) * v2)) + (nI 5)).toNatClampNeg ((σ.1 37 (((nI 22) + ((nI 16) * v2)) + (nI 5)).toNatClampNeg) + (nI 1))) 37 (nI 2).toNatClampNeg (((sA σ 37 (((nI 22) + ((nI 16) * v2)) + (nI 5)).toNatClampNeg ((σ.1 37 (((nI 22) + ((nI 16) * v2)) + (nI 5)).toNatClampNeg) + (nI 1))).1 37 (nI 2).toNatClampNeg) + (nI 1))).1 37 (nI 2).toNatClampNeg) - (nI 1)) (sA (sA σ 37 (((nI 22) + ((nI 16) * v2)) + (nI 5)).toNatClampNeg ((σ.1 37 (((nI 22) + ((nI 16) * v2)) + (nI 5)).toNatClampNeg) + (nI 1))) 37 (nI 2).toNatClampNeg (((sA σ 37 (((nI 22) + ((nI 16) * v2)) + (nI 5)).toNatClampNeg ((σ.1 37 (((nI 22) + ((nI 16) * v2)) + (nI 5)).toNatClampNeg) + (nI 1))).1 37 (nI 2).toNatClampNeg) + (nI 1)))))))))) ∧ ((¬ (σ.1 37 (nI 0).toNatClampNeg) ≤ v9) → ((vp_in ((v5 + (nI 7)) + v9) 3270) ∧ (CTv mX7_pays (d - 1) [.ref 11, .int v9, .int (σ.1 37 ((v5 + (nI 7)) + v9).toNatClampNeg)] σ (fun s2 => VV mX7_use d s00 318 [some (.ref 11), some (.int v1), some (.int v2), some (.int v3), some (.int v4), some (.int v5), some (.int v6), some (.int v7), some (.int v8), some (.int (v9 + nI 1))] [] s2 (Qi K))))))) : VV mX7_use d s00 318 [some (.ref 11), some (.int v1), some (.int v2), some (.int v3), some (.int v4), some (.int v5), some (.int v6), some (.int v7), some (.int v8), some (.int v9)] [] σ (Qi K) := by
  refine v_iload (q := 320) dX7_use_318 rfl rfl ?_
  refine v_aload_n (q := 321) dX7_use_320 rfl rfl ?_
  refine v_get (q := 324) dX7_use_321 rfl fl_7_7 rfl rfl ?_
  refine v_iconst (v := (nI 0)) (q := 325) dX7_use_324 rfl (by decide) ?_
  refine v_iald (q := 326) dX7_use_325 rfl (isI_d rfl) h.1 ?_
  have h := h.2
  refine v_icmp_ge (t := 354) (q := 329) dX7_use_326 rfl (by decide) (fun c => ?_) (fun c => ?_)
  · have h := h.1 (c)
    refine v_aload_n (q := 355) dX7_use_354 rfl rfl ?_
    refine v_get (q := 358) dX7_use_355 rfl fl_7_7 rfl rfl ?_
    refine v_bipush (v := (nI 22)) (q := 360) dX7_use_358 rfl (by decide) ?_
    refine v_bipush (v := (nI 16)) (q := 362) dX7_use_360 rfl (by decide) ?_
    refine v_iload_n (q := 363) dX7_use_362 rfl rfl ?_
    refine v_imul (q := 364) dX7_use_363 rfl ?_
    refine v_iadd (q := 365) dX7_use_364 rfl ?_
    refine v_iconst (v := (nI 5)) (q := 366) dX7_use_365 rfl (by decide) ?_
    refine v_iadd (q := 367) dX7_use_366 rfl ?_
    refine v_dup2 (q := 368) dX7_use_367 rfl rfl rfl ?_
    refine v_iald (q := 369) dX7_use_368 rfl (isI_d rfl) h.1 ?_
    have h := h.2
    refine v_iconst (v := (nI 1)) (q := 370) dX7_use_369 rfl (by decide) ?_
    refine v_iadd (q := 371) dX7_use_370 rfl ?_
    refine v_iast (q := 372) dX7_use_371 rfl (isI_d rfl) h.1 ?_
    have h := h.2
    refine v_aload_n (q := 373) dX7_use_372 rfl rfl ?_
    refine v_get (q := 376) dX7_use_373 rfl fl_7_7 rfl rfl ?_
    refine v_iconst (v := (nI 2)) (q := 377) dX7_use_376 rfl (by decide) ?_
    refine v_dup2 (q := 378) dX7_use_377 rfl rfl rfl ?_
    refine v_iald (q := 379) dX7_use_378 rfl (isI_d rfl) h.1 ?_
    have h := h.2
    refine v_iconst (v := (nI 1)) (q := 380) dX7_use_379 rfl (by decide) ?_
    refine v_iadd (q := 381) dX7_use_380 rfl ?_
    refine v_iast (q := 382) dX7_use_381 rfl (isI_d rfl) h.1 ?_
    have h := h.2
    refine v_aload_n (q := 383) dX7_use_382 rfl rfl ?_
    refine v_get (q := 386) dX7_use_383 rfl fl_7_7 rfl rfl ?_
    refine v_iconst (v := (nI 2)) (q := 387) dX7_use_386 rfl (by decide) ?_
    refine v_iald (q := 388) dX7_use_387 rfl (isI_d rfl) h.1 ?_
    have h := h.2
    refine v_iconst (v := (nI 1)) (q := 389) dX7_use_388 rfl (by decide) ?_
    refine v_isub (q := 390) dX7_use_389 rfl ?_
    exact v_iret dX7_use_390 rfl ⟨_, rfl, h⟩
  · have h := h.2 (c)
    refine v_aload_n (q := 330) dX7_use_329 rfl rfl ?_
    refine v_iload (q := 332) dX7_use_330 rfl rfl ?_
    refine v_aload_n (q := 333) dX7_use_332 rfl rfl ?_
    refine v_get (q := 336) dX7_use_333 rfl fl_7_7 rfl rfl ?_
    refine v_iload (q := 338) dX7_use_336 rfl rfl ?_
    refine v_bipush (v := (nI 7)) (q := 340) dX7_use_338 rfl (by decide) ?_
    refine v_iadd (q := 341) dX7_use_340 rfl ?_
    refine v_iload (q := 343) dX7_use_341 rfl rfl ?_
    refine v_iadd (q := 344) dX7_use_343 rfl ?_
    refine v_iald (q := 345) dX7_use_344 rfl (isI_d rfl) h.1 ?_
    have h := h.2
    refine v_callV (As := [.int v9, .int (σ.1 37 ((v5 + (nI 7)) + v9).toNatClampNeg)]) (n := 2) (q := 348) dX7_use_345 rfl lk_7_142 hd1 rfl rfl (Nat.le_of_ble_eq_true rfl) (CT.imp h (fun r s2 h => ?_))
    obtain ⟨rfl, h⟩ := h
    show VV mX7_use d s00 348 [some (.ref 11), some (.int v1), some (.int v2), some (.int v3), some (.int v4), some (.int v5), some (.int v6), some (.int v7), some (.int v8), some (.int v9)] [] s2 (Qi K)
    refine v_iinc (y := (v9 + nI 1)) (q := 351) dX7_use_348 rfl rfl (congrArg (fun z => v9 + z) (by decide)) (by decide) rfl ?_
    refine v_goto (q := 318) dX7_use_351 (by decide) ?_
    exact h
set_option maxRecDepth 20000 in
theorem bX7_note_0 {d : Nat} {σ : SS} {K : Int32 → SS → Prop} (p1 : Int32) (p2 : Int32)  (hd1 : 1 ≤ d) (h : (vp_in (nI 2) 3270) ∧ (CTi mX7_in (d - 1) [.int p1, .int (nI 0), .int ((σ.1 37 (nI 2).toNatClampNeg) - (nI 1))] σ (fun x1 s2 => ((¬ x1 = 0) → (CTi mX7_in (d - 1) [.int p2, .int (nI 0), .int (nI 12)] s2 (fun x3 s4 => ((x3 = 0) → (K (-1000002) s4)) ∧ ((¬ x3 = 0) → (CTi mX7_ofNote (d - 1) [.ref 11, .int p1, .int p2] s4 (fun x5 s6 => K x5 s6)))))) ∧ ((x1 = 0) → (K (-1000001) s2))))) : VV mX7_note d s00 0 [some (.ref 11), some (.int p1), some (.int p2)] [] σ (Qi K) := by
  refine v_iload_n (q := 1) dX7_note_0 rfl rfl ?_
  refine v_iconst (v := (nI 0)) (q := 2) dX7_note_1 rfl (by decide) ?_
  refine v_aload_n (q := 3) dX7_note_2 rfl rfl ?_
  refine v_get (q := 6) dX7_note_3 rfl fl_7_7 rfl rfl ?_
  refine v_iconst (v := (nI 2)) (q := 7) dX7_note_6 rfl (by decide) ?_
  refine v_iald (q := 8) dX7_note_7 rfl (isI_d rfl) h.1 ?_
  have h := h.2
  refine v_iconst (v := (nI 1)) (q := 9) dX7_note_8 rfl (by decide) ?_
  refine v_isub (q := 10) dX7_note_9 rfl ?_
  refine v_callS (As := [.int p1, .int (nI 0), .int ((σ.1 37 (nI 2).toNatClampNeg) - (nI 1))]) (n := 3) (q := 13) dX7_note_10 rfl lk_7_45 hd1 rfl (Nat.le_of_ble_eq_true rfl) (CT.imp h (fun r s2 h => ?_))
  obtain ⟨x1, rfl, h⟩ := h
  show VV mX7_note d s00 13 [some (.ref 11), some (.int p1), some (.int p2)] [.int x1] s2 (Qi K)
  refine v_if_ne (t := 19) (q := 16) dX7_note_13 rfl (by decide) (fun c => ?_) (fun c => ?_)
  · have h := h.1 (c)
    refine v_iload_n (q := 20) dX7_note_19 rfl rfl ?_
    refine v_iconst (v := (nI 0)) (q := 21) dX7_note_20 rfl (by decide) ?_
    refine v_bipush (v := (nI 12)) (q := 23) dX7_note_21 rfl (by decide) ?_
    refine v_callS (As := [.int p2, .int (nI 0), .int (nI 12)]) (n := 3) (q := 26) dX7_note_23 rfl lk_7_45 hd1 rfl (Nat.le_of_ble_eq_true rfl) (CT.imp h (fun r s4 h => ?_))
    obtain ⟨x3, rfl, h⟩ := h
    show VV mX7_note d s00 26 [some (.ref 11), some (.int p1), some (.int p2)] [.int x3] s4 (Qi K)
    refine v_if_eq (t := 38) (q := 29) dX7_note_26 rfl (by decide) (fun c => ?_) (fun c => ?_)
    · have h := h.1 (c)
      refine v_ldc (v := (-1000002)) (q := 40) dX7_note_38 rfl cn_7_88 ?_
      exact v_iret dX7_note_40 rfl ⟨_, rfl, h⟩
    · have h := h.2 (c)
      refine v_aload_n (q := 30) dX7_note_29 rfl rfl ?_
      refine v_iload_n (q := 31) dX7_note_30 rfl rfl ?_
      refine v_iload_n (q := 32) dX7_note_31 rfl rfl ?_
      refine v_callV (As := [.int p1, .int p2]) (n := 2) (q := 35) dX7_note_32 rfl lk_7_100 hd1 rfl rfl (Nat.le_of_ble_eq_true rfl) (CT.imp h (fun r s6 h => ?_))
      obtain ⟨x5, rfl, h⟩ := h
      show VV mX7_note d s00 35 [some (.ref 11), some (.int p1), some (.int p2)] [.int x5] s6 (Qi K)
      refine v_goto (q := 40) dX7_note_35 (by decide) ?_
      exact v_iret dX7_note_40 rfl ⟨_, rfl, h⟩
  · have h := h.2 (c)
    refine v_ldc (v := (-1000001)) (q := 18) dX7_note_16 rfl cn_7_87 ?_
    exact v_iret dX7_note_18 rfl ⟨_, rfl, h⟩
theorem eX7_note {d : Nat} {σ : SS} {K : Int32 → SS → Prop} (p1 : Int32) (p2 : Int32)  (hd1 : 1 ≤ d) (h : (vp_in (nI 2) 3270) ∧ (CTi mX7_in (d - 1) [.int p1, .int (nI 0), .int ((σ.1 37 (nI 2).toNatClampNeg) - (nI 1))] σ (fun x1 s2 => ((¬ x1 = 0) → (CTi mX7_in (d - 1) [.int p2, .int (nI 0), .int (nI 12)] s2 (fun x3 s4 => ((x3 = 0) → (K (-1000002) s4)) ∧ ((¬ x3 = 0) → (CTi mX7_ofNote (d - 1) [.ref 11, .int p1, .int p2] s4 (fun x5 s6 => K x5 s6)))))) ∧ ((x1 = 0) → (K (-1000001) s2))))) : CTi mX7_note d [.ref 11, .int p1, .int p2] σ K := CT_of (Q := (Qi K)) (by decide +kernel) rfl (by decide) (Nat.le_of_ble_eq_true rfl) rfl (bX7_note_0 p1 p2 hd1 h)
set_option maxRecDepth 20000 in
theorem bX7_ends_0 {d : Nat} {σ : SS} {K : Int32 → SS → Prop} (p1 : Int32)   (h : VV mX7_ends d s00 2 [some (.ref 11), some (.int p1), some (.int (nI 0)), none, none] [] σ (Qi K)) : VV mX7_ends d s00 0 [some (.ref 11), some (.int p1), none, none, none] [] σ (Qi K) := by
  refine v_iconst (v := (nI 0)) (q := 1) dX7_ends_0 rfl (by decide) ?_
  refine v_istore_n (q := 2) dX7_ends_1 rfl (by decide) rfl ?_
  exact h
theorem eX7_ends {d : Nat} {σ : SS} {K : Int32 → SS → Prop} (p1 : Int32)   (h : VV mX7_ends d s00 2 [some (.ref 11), some (.int p1), some (.int (nI 0)), none, none] [] σ (Qi K)) : CTi mX7_ends d [.ref 11, .int p1] σ K := CT_of (Q := (Qi K)) (by decide +kernel) rfl (by decide) (Nat.le_of_ble_eq_true rfl) rfl (bX7_ends_0 p1  h)
set_option maxRecDepth 20000 in
theorem bX7_ends_2 {d : Nat} {σ : SS} {K : Int32 → SS → Prop} (v1 : Int32) (v2 : Int32)   (h : (((nI 20) ≤ v2) → (VV mX7_ends d s00 34 [some (.ref 11), some (.int v1), some (.int (nI 1)), some (.int (nI 0)), none] [] σ (Qi K))) ∧ ((¬ (nI 20) ≤ v2) → (((¬ v2 = v1) → ((vp_in v2 20) ∧ (VV mX7_ends d s00 2 [some (.ref 11), some (.int v1), some (.int (v2 + nI 1)), none, none] [] (sA σ 41 v2.toNatClampNeg (nI 0)) (Qi K)))) ∧ ((v2 = v1) → ((vp_in v2 20) ∧ (VV mX7_ends d s00 2 [some (.ref 11), some (.int v1), some (.int (v2 + nI 1)), none, none] [] (sA σ 41 v2.toNatClampNeg (nI 1)) (Qi K))))))) : VV mX7_ends d s00 2 [some (.ref 11), some (.int v1), some (.int v2), none, none] [] σ (Qi K) := by
  refine v_iload_n (q := 3) dX7_ends_2 rfl rfl ?_
  refine v_bipush (v := (nI 20)) (q := 5) dX7_ends_3 rfl (by decide) ?_
  refine v_icmp_ge (t := 30) (q := 8) dX7_ends_5 rfl (by decide) (fun c => ?_) (fun c => ?_)
  · have h := h.1 (c)
    refine v_iconst (v := (nI 1)) (q := 31) dX7_ends_30 rfl (by decide) ?_
    refine v_istore_n (q := 32) dX7_ends_31 rfl (by decide) rfl ?_
    refine v_iconst (v := (nI 0)) (q := 33) dX7_ends_32 rfl (by decide) ?_
    refine v_istore_n (q := 34) dX7_ends_33 rfl (by decide) rfl ?_
    exact h
  · have h := h.2 (c)
    refine v_aload_n (q := 9) dX7_ends_8 rfl rfl ?_
    refine v_get (q := 12) dX7_ends_9 rfl fl_7_22 rfl rfl ?_
    refine v_iload_n (q := 13) dX7_ends_12 rfl rfl ?_
    refine v_iload_n (q := 14) dX7_ends_13 rfl rfl ?_
    refine v_iload_n (q := 15) dX7_ends_14 rfl rfl ?_
    refine v_icmp_ne (t := 22) (q := 18) dX7_ends_15 rfl (by decide) (fun c => ?_) (fun c => ?_)
    · have h := h.1 (c)
      refine v_iconst (v := (nI 0)) (q := 23) dX7_ends_22 rfl (by decide) ?_
      refine v_iast (q := 24) dX7_ends_23 rfl (isI_d rfl) h.1 ?_
      have h := h.2
      refine v_iinc (y := (v2 + nI 1)) (q := 27) dX7_ends_24 rfl rfl (congrArg (fun z => v2 + z) (by decide)) (by decide) rfl ?_
      refine v_goto (q := 2) dX7_ends_27 (by decide) ?_
      exact h
    · have h := h.2 (c)
      refine v_iconst (v := (nI 1)) (q := 19) dX7_ends_18 rfl (by decide) ?_
      refine v_goto (q := 23) dX7_ends_19 (by decide) ?_
      refine v_iast (q := 24) dX7_ends_23 rfl (isI_d rfl) h.1 ?_
      have h := h.2
      refine v_iinc (y := (v2 + nI 1)) (q := 27) dX7_ends_24 rfl rfl (congrArg (fun z => v2 + z) (by decide)) (by decide) rfl ?_
      refine v_goto (q := 2) dX7_ends_27 (by decide) ?_
      exact h
set_option maxRecDepth 20000 in
theorem bX7_ends_34 {d : Nat} {σ : SS} {K : Int32 → SS → Prop} (v1 : Int32) (v2 : Int32) (v3 : Int32)  (hd1 : 1 ≤ d) (h : (vp_in (nI 1) 3270) ∧ ((((σ.1 37 (nI 1).toNatClampNeg) ≤ v3) → (K v2 σ)) ∧ ((¬ (σ.1 37 (nI 1).toNatClampNeg) ≤ v3) → (CTi mX7_of (d - 1) [.ref 11, .int v3, .int (nI 3)] σ (fun x1 s2 => ((v3 = v1) → (VV mX7_ends d s00 34 [some (.ref 11), some (.int v1), some (.int v2), some (.int (v3 + nI 1)), none] [] s2 (Qi K))) ∧ ((¬ v3 = v1) → (CTi mX7_of (d - 1) [.ref 11, .int v3, .int (nI 4)] s2 (fun x3 s4 => ((¬ x3 = (nI 1)) → (VV mX7_ends d s00 34 [some (.ref 11), some (.int v1), some (.int v2), some (.int (v3 + nI 1)), none] [] s4 (Qi K))) ∧ ((x3 = (nI 1)) → (((x1 = (-1000000)) → (VV mX7_ends d s00 34 [some (.ref 11), some (.int v1), some (.int v2), some (.int (v3 + nI 1)), none] [] s4 (Qi K))) ∧ ((¬ x1 = (-1000000)) → ((vp_in x1 20) ∧ (((¬ (s4.1 41 x1.toNatClampNeg) = (nI 1)) → (VV mX7_ends d s00 34 [some (.ref 11), some (.int v1), some (.int v2), some (.int (v3 + nI 1)), none] [] s4 (Qi K))) ∧ (((s4.1 41 x1.toNatClampNeg) = (nI 1)) → (CTi mX7_scoreOf (d - 1) [.ref 11, .int v3, .int x1] s4 (fun x5 s6 => (vp_in (nI 9) 3270) ∧ (((x5 < (s6.1 37 (nI 9).toNatClampNeg)) → ((vp_in v3 20) ∧ ((vp_in v3 20) ∧ (((¬ ((sA s6 41 v3.toNatClampNeg (nI 2)).1 41 v3.toNatClampNeg) = (nI 1)) → (VV mX7_ends d s00 34 [some (.ref 11), some (.int v1), some (.int (v2 + (nI 0))), some (.int (v3 + nI 1)), none] [] (sA s6 41 v3.toNatClampNeg (nI 2)) (Qi K))) ∧ ((((sA s6 41 v3.toNatClampNeg (nI 2)).1 41 v3.toNatClampNeg) = (nI 1)) → (VV mX7_ends d s00 34 [some (.ref 11), some (.int v1), some (.int (v2 + (nI 1))), some (.int (v3 + nI 1)), none] [] (sA s6 41 v3.toNatClampNeg (nI 2)) (Qi K))))))) ∧ ((¬ x5 < (s6.1 37 (nI 9).toNatClampNeg)) → ((vp_in v3 20) ∧ ((vp_in v3 20) ∧ (((¬ ((sA s6 41 v3.toNatClampNeg (nI 1)).1 41 v3.toNatClampNeg) = (nI 1)) → (VV mX7_ends d s00 34 [some (.ref 11), some (.int v1), some (.int (v2 + (nI 0))), some (.int (v3 + nI 1)), none] [] (sA s6 41 v3.toNatClampNeg (nI 1)) (Qi K))) ∧ ((((sA s6 41 v3.toNatClampNeg (nI 1)).1 41 v3.toNatClampNeg) = (nI 1)) → (VV mX7_ends d s00 34 [some (.ref 11), some (.int v1), some (.int (v2 + (nI 1))), some (.int (v3 + nI 1)), none] [] (sA s6 41 v3.toNatClampNeg (nI 1)) (Qi K)))))))))))))))))))))))) : VV mX7_ends d s00 34 [some (.ref 11), some (.int v1), some (.int v2), some (.int v3), none] [] σ (Qi K) := by
  refine v_iload_n (q := 35) dX7_ends_34 rfl rfl ?_
  refine v_aload_n (q := 36) dX7_ends_35 rfl rfl ?_
  refine v_get (q := 39) dX7_ends_36 rfl fl_7_7 rfl rfl ?_
  refine v_iconst (v := (nI 1)) (q := 40) dX7_ends_39 rfl (by decide) ?_
  refine v_iald (q := 41) dX7_ends_40 rfl (isI_d rfl) h.1 ?_
  have h := h.2
  refine v_icmp_ge (t := 137) (q := 44) dX7_ends_41 rfl (by decide) (fun c => ?_) (fun c => ?_)
  · have h := h.1 (c)
    refine v_iload_n (q := 138) dX7_ends_137 rfl rfl ?_
    exact v_iret dX7_ends_138 rfl ⟨_, rfl, h⟩
  · have h := h.2 (c)
    refine v_aload_n (q := 45) dX7_ends_44 rfl rfl ?_
    refine v_iload_n (q := 46) dX7_ends_45 rfl rfl ?_
    refine v_iconst (v := (nI 3)) (q := 47) dX7_ends_46 rfl (by decide) ?_
    refine v_callV (As := [.int v3, .int (nI 3)]) (n := 2) (q := 50) dX7_ends_47 rfl lk_7_49 hd1 rfl rfl (Nat.le_of_ble_eq_true rfl) (CT.imp h (fun r s2 h => ?_))
    obtain ⟨x1, rfl, h⟩ := h
    show VV mX7_ends d s00 50 [some (.ref 11), some (.int v1), some (.int v2), some (.int v3), none] [.int x1] s2 (Qi K)
    refine v_istore (q := 52) dX7_ends_50 rfl (by decide) rfl ?_
    refine v_iload_n (q := 53) dX7_ends_52 rfl rfl ?_
    refine v_iload_n (q := 54) dX7_ends_53 rfl rfl ?_
    refine v_icmp_eq (t := 131) (q := 57) dX7_ends_54 rfl (by decide) (fun c => ?_) (fun c => ?_)
    · have h := h.1 (c)
      refine v_iinc (y := (v3 + nI 1)) (q := 134) dX7_ends_131 rfl rfl (congrArg (fun z => v3 + z) (by decide)) (by decide) rfl ?_
      refine v_goto (q := 34) dX7_ends_134 (by decide) ?_
      exact v_msk [true, true, true, true, false] h
    · have h := h.2 (c)
      refine v_aload_n (q := 58) dX7_ends_57 rfl rfl ?_
      refine v_iload_n (q := 59) dX7_ends_58 rfl rfl ?_
      refine v_iconst (v := (nI 4)) (q := 60) dX7_ends_59 rfl (by decide) ?_
      refine v_callV (As := [.int v3, .int (nI 4)]) (n := 2) (q := 63) dX7_ends_60 rfl lk_7_49 hd1 rfl rfl (Nat.le_of_ble_eq_true rfl) (CT.imp h (fun r s4 h => ?_))
      obtain ⟨x3, rfl, h⟩ := h
      show VV mX7_ends d s00 63 [some (.ref 11), some (.int v1), some (.int v2), some (.int v3), some (.int x1)] [.int x3] s4 (Qi K)
      refine v_iconst (v := (nI 1)) (q := 64) dX7_ends_63 rfl (by decide) ?_
      refine v_icmp_ne (t := 131) (q := 67) dX7_ends_64 rfl (by decide) (fun c => ?_) (fun c => ?_)
      · have h := h.1 (c)
        refine v_iinc (y := (v3 + nI 1)) (q := 134) dX7_ends_131 rfl rfl (congrArg (fun z => v3 + z) (by decide)) (by decide) rfl ?_
        refine v_goto (q := 34) dX7_ends_134 (by decide) ?_
        exact v_msk [true, true, true, true, false] h
      · have h := h.2 (c)
        refine v_iload (q := 69) dX7_ends_67 rfl rfl ?_
        refine v_ldc (v := (-1000000)) (q := 71) dX7_ends_69 rfl cn_7_121 ?_
        refine v_icmp_eq (t := 131) (q := 74) dX7_ends_71 rfl (by decide) (fun c => ?_) (fun c => ?_)
        · have h := h.1 (c)
          refine v_iinc (y := (v3 + nI 1)) (q := 134) dX7_ends_131 rfl rfl (congrArg (fun z => v3 + z) (by decide)) (by decide) rfl ?_
          refine v_goto (q := 34) dX7_ends_134 (by decide) ?_
          exact v_msk [true, true, true, true, false] h
        · have h := h.2 (c)
          refine v_aload_n (q := 75) dX7_ends_74 rfl rfl ?_
          refine v_get (q := 78) dX7_ends_75 rfl fl_7_22 rfl rfl ?_
          refine v_iload (q := 80) dX7_ends_78 rfl rfl ?_
          refine v_iald (q := 81) dX7_ends_80 rfl (isI_d rfl) h.1 ?_
          have h := h.2
          refine v_iconst (v := (nI 1)) (q := 82) dX7_ends_81 rfl (by decide) ?_
          refine v_icmp_ne (t := 131) (q := 85) dX7_ends_82 rfl (by decide) (fun c => ?_) (fun c => ?_)
          · have h := h.1 (c)
            refine v_iinc (y := (v3 + nI 1)) (q := 134) dX7_ends_131 rfl rfl (congrArg (fun z => v3 + z) (by decide)) (by decide) rfl ?_
            refine v_goto (q := 34) dX7_ends_134 (by decide) ?_
            exact v_msk [true, true, true, true, false] h
          · have h := h.2 (c)
            refine v_aload_n (q := 86) dX7_ends_85 rfl rfl ?_
            refine v_get (q := 89) dX7_ends_86 rfl fl_7_22 rfl rfl ?_
            refine v_iload_n (q := 90) dX7_ends_89 rfl rfl ?_
            refine v_aload_n (q := 91) dX7_ends_90 rfl rfl ?_
            refine v_iload_n (q := 92) dX7_ends_91 rfl rfl ?_
            refine v_iload (q := 94) dX7_ends_92 rfl rfl ?_
            refine v_callV (As := [.int v3, .int x1]) (n := 2) (q := 97) dX7_ends_94 rfl lk_7_93 hd1 rfl rfl (Nat.le_of_ble_eq_true rfl) (CT.imp h (fun r s6 h => ?_))
            obtain ⟨x5, rfl, h⟩ := h
            show VV mX7_ends d s00 97 [some (.ref 11), some (.int v1), some (.int v2), some (.int v3), some (.int x1)] [.int x5, .int v3, .ref 41] s6 (Qi K)
            refine v_aload_n (q := 98) dX7_ends_97 rfl rfl ?_
            refine v_get (q := 101) dX7_ends_98 rfl fl_7_7 rfl rfl ?_
            refine v_bipush (v := (nI 9)) (q := 103) dX7_ends_101 rfl (by decide) ?_
            refine v_iald (q := 104) dX7_ends_103 rfl (isI_d rfl) h.1 ?_
            have h := h.2
            refine v_icmp_lt (t := 111) (q := 107) dX7_ends_104 rfl (by decide) (fun c => ?_) (fun c => ?_)
            · have h := h.1 (c)
              refine v_iconst (v := (nI 2)) (q := 112) dX7_ends_111 rfl (by decide) ?_
              refine v_iast (q := 113) dX7_ends_112 rfl (isI_d rfl) h.1 ?_
              have h := h.2
              refine v_iload_n (q := 114) dX7_ends_113 rfl rfl ?_
              refine v_aload_n (q := 115) dX7_ends_114 rfl rfl ?_
              refine v_get (q := 118) dX7_ends_115 rfl fl_7_22 rfl rfl ?_
              refine v_iload_n (q := 119) dX7_ends_118 rfl rfl ?_
              refine v_iald (q := 120) dX7_ends_119 rfl (isI_d rfl) h.1 ?_
              have h := h.2
              refine v_iconst (v := (nI 1)) (q := 121) dX7_ends_120 rfl (by decide) ?_
              refine v_icmp_ne (t := 128) (q := 124) dX7_ends_121 rfl (by decide) (fun c => ?_) (fun c => ?_)
              · have h := h.1 (c)
                refine v_iconst (v := (nI 0)) (q := 129) dX7_ends_128 rfl (by decide) ?_
                refine v_iadd (q := 130) dX7_ends_129 rfl ?_
                refine v_istore_n (q := 131) dX7_ends_130 rfl (by decide) rfl ?_
                refine v_iinc (y := (v3 + nI 1)) (q := 134) dX7_ends_131 rfl rfl (congrArg (fun z => v3 + z) (by decide)) (by decide) rfl ?_
                refine v_goto (q := 34) dX7_ends_134 (by decide) ?_
                exact v_msk [true, true, true, true, false] h
              · have h := h.2 (c)
                refine v_iconst (v := (nI 1)) (q := 125) dX7_ends_124 rfl (by decide) ?_
                refine v_goto (q := 129) dX7_ends_125 (by decide) ?_
                refine v_iadd (q := 130) dX7_ends_129 rfl ?_
                refine v_istore_n (q := 131) dX7_ends_130 rfl (by decide) rfl ?_
                refine v_iinc (y := (v3 + nI 1)) (q := 134) dX7_ends_131 rfl rfl (congrArg (fun z => v3 + z) (by decide)) (by decide) rfl ?_
                refine v_goto (q := 34) dX7_ends_134 (by decide) ?_
                exact v_msk [true, true, true, true, false] h
            · have h := h.2 (c)
              refine v_iconst (v := (nI 1)) (q := 108) dX7_ends_107 rfl (by decide) ?_
              refine v_goto (q := 112) dX7_ends_108 (by decide) ?_
              refine v_iast (q := 113) dX7_ends_112 rfl (isI_d rfl) h.1 ?_
              have h := h.2
              refine v_iload_n (q := 114) dX7_ends_113 rfl rfl ?_
              refine v_aload_n (q := 115) dX7_ends_114 rfl rfl ?_
              refine v_get (q := 118) dX7_ends_115 rfl fl_7_22 rfl rfl ?_
              refine v_iload_n (q := 119) dX7_ends_118 rfl rfl ?_
              refine v_iald (q := 120) dX7_ends_119 rfl (isI_d rfl) h.1 ?_
              have h := h.2
              refine v_iconst (v := (nI 1)) (q := 121) dX7_ends_120 rfl (by decide) ?_
              refine v_icmp_ne (t := 128) (q := 124) dX7_ends_121 rfl (by decide) (fun c => ?_) (fun c => ?_)
              · have h := h.1 (c)
                refine v_iconst (v := (nI 0)) (q := 129) dX7_ends_128 rfl (by decide) ?_
                refine v_iadd (q := 130) dX7_ends_129 rfl ?_
                refine v_istore_n (q := 131) dX7_ends_130 rfl (by decide) rfl ?_
                refine v_iinc (y := (v3 + nI 1)) (q := 134) dX7_ends_131 rfl rfl (congrArg (fun z => v3 + z) (by decide)) (by decide) rfl ?_
                refine v_goto (q := 34) dX7_ends_134 (by decide) ?_
                exact v_msk [true, true, true, true, false] h
              · have h := h.2 (c)
                refine v_iconst (v := (nI 1)) (q := 125) dX7_ends_124 rfl (by decide) ?_
                refine v_goto (q := 129) dX7_ends_125 (by decide) ?_
                refine v_iadd (q := 130) dX7_ends_129 rfl ?_
                refine v_istore_n (q := 131) dX7_ends_130 rfl (by decide) rfl ?_
                refine v_iinc (y := (v3 + nI 1)) (q := 134) dX7_ends_131 rfl rfl (congrArg (fun z => v3 + z) (by decide)) (by decide) rfl ?_
                refine v_goto (q := 34) dX7_ends_134 (by decide) ?_
                exact v_msk [true, true, true, true, false] h
set_option maxRecDepth 20000 in
theorem bX7_goesBack_0 {d : Nat} {σ : SS} {K : Int32 → SS → Prop} (p1 : Int32)  (hd1 : 1 ≤ d) (h : CTi mX7_ofNote (d - 1) [.ref 11, .int p1, .int (nI 5)] σ (fun x1 s2 => ((¬ x1 = 0) → (K (nI 0) s2)) ∧ ((x1 = 0) → (CTi mX7_ofNote (d - 1) [.ref 11, .int p1, .int (nI 1)] s2 (fun x3 s4 => (vp_in x3 20) ∧ (((¬ (s4.1 41 x3.toNatClampNeg) = (nI 1)) → (K (nI 0) s4)) ∧ (((s4.1 41 x3.toNatClampNeg) = (nI 1)) → (CTi mX7_ofNote (d - 1) [.ref 11, .int p1, .int (nI 4)] s4 (fun x5 s6 => (vp_in (nI 3) 3270) ∧ ((vp_in (nI 8) 3270) ∧ (((x5 < ((s6.1 37 (nI 3).toNatClampNeg) - (s6.1 37 (nI 8).toNatClampNeg))) → (K (nI 0) s6)) ∧ ((¬ x5 < ((s6.1 37 (nI 3).toNatClampNeg) - (s6.1 37 (nI 8).toNatClampNeg))) → (K (nI 1) s6))))))))))))) : VV mX7_goesBack d s00 0 [some (.ref 11), some (.int p1)] [] σ (Qi K) := by
  refine v_aload_n (q := 1) dX7_goesBack_0 rfl rfl ?_
  refine v_iload_n (q := 2) dX7_goesBack_1 rfl rfl ?_
  refine v_iconst (v := (nI 5)) (q := 3) dX7_goesBack_2 rfl (by decide) ?_
  refine v_callV (As := [.int p1, .int (nI 5)]) (n := 2) (q := 6) dX7_goesBack_3 rfl lk_7_100 hd1 rfl rfl (Nat.le_of_ble_eq_true rfl) (CT.imp h (fun r s2 h => ?_))
  obtain ⟨x1, rfl, h⟩ := h
  show VV mX7_goesBack d s00 6 [some (.ref 11), some (.int p1)] [.int x1] s2 (Qi K)
  refine v_if_ne (t := 51) (q := 9) dX7_goesBack_6 rfl (by decide) (fun c => ?_) (fun c => ?_)
  · have h := h.1 (c)
    refine v_iconst (v := (nI 0)) (q := 52) dX7_goesBack_51 rfl (by decide) ?_
    exact v_zret dX7_goesBack_52 rfl (by decide) ⟨_, rfl, h⟩
  · have h := h.2 (c)
    refine v_aload_n (q := 10) dX7_goesBack_9 rfl rfl ?_
    refine v_get (q := 13) dX7_goesBack_10 rfl fl_7_22 rfl rfl ?_
    refine v_aload_n (q := 14) dX7_goesBack_13 rfl rfl ?_
    refine v_iload_n (q := 15) dX7_goesBack_14 rfl rfl ?_
    refine v_iconst (v := (nI 1)) (q := 16) dX7_goesBack_15 rfl (by decide) ?_
    refine v_callV (As := [.int p1, .int (nI 1)]) (n := 2) (q := 19) dX7_goesBack_16 rfl lk_7_100 hd1 rfl rfl (Nat.le_of_ble_eq_true rfl) (CT.imp h (fun r s4 h => ?_))
    obtain ⟨x3, rfl, h⟩ := h
    show VV mX7_goesBack d s00 19 [some (.ref 11), some (.int p1)] [.int x3, .ref 41] s4 (Qi K)
    refine v_iald (q := 20) dX7_goesBack_19 rfl (isI_d rfl) h.1 ?_
    have h := h.2
    refine v_iconst (v := (nI 1)) (q := 21) dX7_goesBack_20 rfl (by decide) ?_
    refine v_icmp_ne (t := 51) (q := 24) dX7_goesBack_21 rfl (by decide) (fun c => ?_) (fun c => ?_)
    · have h := h.1 (c)
      refine v_iconst (v := (nI 0)) (q := 52) dX7_goesBack_51 rfl (by decide) ?_
      exact v_zret dX7_goesBack_52 rfl (by decide) ⟨_, rfl, h⟩
    · have h := h.2 (c)
      refine v_aload_n (q := 25) dX7_goesBack_24 rfl rfl ?_
      refine v_iload_n (q := 26) dX7_goesBack_25 rfl rfl ?_
      refine v_iconst (v := (nI 4)) (q := 27) dX7_goesBack_26 rfl (by decide) ?_
      refine v_callV (As := [.int p1, .int (nI 4)]) (n := 2) (q := 30) dX7_goesBack_27 rfl lk_7_100 hd1 rfl rfl (Nat.le_of_ble_eq_true rfl) (CT.imp h (fun r s6 h => ?_))
      obtain ⟨x5, rfl, h⟩ := h
      show VV mX7_goesBack d s00 30 [some (.ref 11), some (.int p1)] [.int x5] s6 (Qi K)
      refine v_aload_n (q := 31) dX7_goesBack_30 rfl rfl ?_
      refine v_get (q := 34) dX7_goesBack_31 rfl fl_7_7 rfl rfl ?_
      refine v_iconst (v := (nI 3)) (q := 35) dX7_goesBack_34 rfl (by decide) ?_
      refine v_iald (q := 36) dX7_goesBack_35 rfl (isI_d rfl) h.1 ?_
      have h := h.2
      refine v_aload_n (q := 37) dX7_goesBack_36 rfl rfl ?_
      refine v_get (q := 40) dX7_goesBack_37 rfl fl_7_7 rfl rfl ?_
      refine v_bipush (v := (nI 8)) (q := 42) dX7_goesBack_40 rfl (by decide) ?_
      refine v_iald (q := 43) dX7_goesBack_42 rfl (isI_d rfl) h.1 ?_
      have h := h.2
      refine v_isub (q := 44) dX7_goesBack_43 rfl ?_
      refine v_icmp_lt (t := 51) (q := 47) dX7_goesBack_44 rfl (by decide) (fun c => ?_) (fun c => ?_)
      · have h := h.1 (c)
        refine v_iconst (v := (nI 0)) (q := 52) dX7_goesBack_51 rfl (by decide) ?_
        exact v_zret dX7_goesBack_52 rfl (by decide) ⟨_, rfl, h⟩
      · have h := h.2 (c)
        refine v_iconst (v := (nI 1)) (q := 48) dX7_goesBack_47 rfl (by decide) ?_
        refine v_goto (q := 52) dX7_goesBack_48 (by decide) ?_
        exact v_zret dX7_goesBack_52 rfl (by decide) ⟨_, rfl, h⟩
theorem eX7_goesBack {d : Nat} {σ : SS} {K : Int32 → SS → Prop} (p1 : Int32)  (hd1 : 1 ≤ d) (h : CTi mX7_ofNote (d - 1) [.ref 11, .int p1, .int (nI 5)] σ (fun x1 s2 => ((¬ x1 = 0) → (K (nI 0) s2)) ∧ ((x1 = 0) → (CTi mX7_ofNote (d - 1) [.ref 11, .int p1, .int (nI 1)] s2 (fun x3 s4 => (vp_in x3 20) ∧ (((¬ (s4.1 41 x3.toNatClampNeg) = (nI 1)) → (K (nI 0) s4)) ∧ (((s4.1 41 x3.toNatClampNeg) = (nI 1)) → (CTi mX7_ofNote (d - 1) [.ref 11, .int p1, .int (nI 4)] s4 (fun x5 s6 => (vp_in (nI 3) 3270) ∧ ((vp_in (nI 8) 3270) ∧ (((x5 < ((s6.1 37 (nI 3).toNatClampNeg) - (s6.1 37 (nI 8).toNatClampNeg))) → (K (nI 0) s6)) ∧ ((¬ x5 < ((s6.1 37 (nI 3).toNatClampNeg) - (s6.1 37 (nI 8).toNatClampNeg))) → (K (nI 1) s6))))))))))))) : CTi mX7_goesBack d [.ref 11, .int p1] σ K := CT_of (Q := (Qi K)) (by decide +kernel) rfl (by decide) (Nat.le_of_ble_eq_true rfl) rfl (bX7_goesBack_0 p1 hd1 h)
set_option maxRecDepth 20000 in
theorem bX7_retract_0 {d : Nat} {σ : SS} {K : Int32 → SS → Prop} (p1 : Int32)  (hd1 : 1 ≤ d) (h : CTi mX7_isPhrase (d - 1) [.ref 11, .int p1] σ (fun x1 s2 => ((¬ x1 = 0) → (CTi mX7_of (d - 1) [.ref 11, .int p1, .int (nI 4)] s2 (fun x3 s4 => ((¬ x3 = 0) → (CTv mX7_records (d - 1) [.ref 11] s4 (fun s6 => CTi mX7_ends (d - 1) [.ref 11, .int p1] s6 (fun x7 s8 => VV mX7_retract d s00 35 [some (.ref 11), some (.int p1), some (.int x7), some (.int (nI 0)), none] [] s8 (Qi K))))) ∧ ((x3 = 0) → (K (-1000003) s4))))) ∧ ((x1 = 0) → (K (-1000001) s2)))) : VV mX7_retract d s00 0 [some (.ref 11), some (.int p1), none, none, none] [] σ (Qi K) := by
  refine v_aload_n (q := 1) dX7_retract_0 rfl rfl ?_
  refine v_iload_n (q := 2) dX7_retract_1 rfl rfl ?_
  refine v_callV (As := [.int p1]) (n := 1) (q := 5) dX7_retract_2 rfl lk_7_122 hd1 rfl rfl (Nat.le_of_ble_eq_true rfl) (CT.imp h (fun r s2 h => ?_))
  obtain ⟨x1, rfl, h⟩ := h
  show VV mX7_retract d s00 5 [some (.ref 11), some (.int p1), none, none, none] [.int x1] s2 (Qi K)
  refine v_if_ne (t := 11) (q := 8) dX7_retract_5 rfl (by decide) (fun c => ?_) (fun c => ?_)
  · have h := h.1 (c)
    refine v_aload_n (q := 12) dX7_retract_11 rfl rfl ?_
    refine v_iload_n (q := 13) dX7_retract_12 rfl rfl ?_
    refine v_iconst (v := (nI 4)) (q := 14) dX7_retract_13 rfl (by decide) ?_
    refine v_callV (As := [.int p1, .int (nI 4)]) (n := 2) (q := 17) dX7_retract_14 rfl lk_7_49 hd1 rfl rfl (Nat.le_of_ble_eq_true rfl) (CT.imp h (fun r s4 h => ?_))
    obtain ⟨x3, rfl, h⟩ := h
    show VV mX7_retract d s00 17 [some (.ref 11), some (.int p1), none, none, none] [.int x3] s4 (Qi K)
    refine v_if_ne (t := 23) (q := 20) dX7_retract_17 rfl (by decide) (fun c => ?_) (fun c => ?_)
    · have h := h.1 (c)
      refine v_aload_n (q := 24) dX7_retract_23 rfl rfl ?_
      refine v_callV (As := []) (n := 0) (q := 27) dX7_retract_24 rfl lk_7_80 hd1 rfl rfl (Nat.le_of_ble_eq_true rfl) (CT.imp h (fun r s6 h => ?_))
      obtain ⟨rfl, h⟩ := h
      show VV mX7_retract d s00 27 [some (.ref 11), some (.int p1), none, none, none] [] s6 (Qi K)
      refine v_aload_n (q := 28) dX7_retract_27 rfl rfl ?_
      refine v_iload_n (q := 29) dX7_retract_28 rfl rfl ?_
      refine v_callV (As := [.int p1]) (n := 1) (q := 32) dX7_retract_29 rfl lk_7_145 hd1 rfl rfl (Nat.le_of_ble_eq_true rfl) (CT.imp h (fun r s8 h => ?_))
      obtain ⟨x7, rfl, h⟩ := h
      show VV mX7_retract d s00 32 [some (.ref 11), some (.int p1), none, none, none] [.int x7] s8 (Qi K)
      refine v_istore_n (q := 33) dX7_retract_32 rfl (by decide) rfl ?_
      refine v_iconst (v := (nI 0)) (q := 34) dX7_retract_33 rfl (by decide) ?_
      refine v_istore_n (q := 35) dX7_retract_34 rfl (by decide) rfl ?_
      exact h
    · have h := h.2 (c)
      refine v_ldc (v := (-1000003)) (q := 22) dX7_retract_20 rfl cn_7_128 ?_
      exact v_iret dX7_retract_22 rfl ⟨_, rfl, h⟩
  · have h := h.2 (c)
    refine v_ldc (v := (-1000001)) (q := 10) dX7_retract_8 rfl cn_7_87 ?_
    exact v_iret dX7_retract_10 rfl ⟨_, rfl, h⟩
theorem eX7_retract {d : Nat} {σ : SS} {K : Int32 → SS → Prop} (p1 : Int32)  (hd1 : 1 ≤ d) (h : CTi mX7_isPhrase (d - 1) [.ref 11, .int p1] σ (fun x1 s2 => ((¬ x1 = 0) → (CTi mX7_of (d - 1) [.ref 11, .int p1, .int (nI 4)] s2 (fun x3 s4 => ((¬ x3 = 0) → (CTv mX7_records (d - 1) [.ref 11] s4 (fun s6 => CTi mX7_ends (d - 1) [.ref 11, .int p1] s6 (fun x7 s8 => VV mX7_retract d s00 35 [some (.ref 11), some (.int p1), some (.int x7), some (.int (nI 0)), none] [] s8 (Qi K))))) ∧ ((x3 = 0) → (K (-1000003) s4))))) ∧ ((x1 = 0) → (K (-1000001) s2)))) : CTi mX7_retract d [.ref 11, .int p1] σ K := CT_of (Q := (Qi K)) (by decide +kernel) rfl (by decide) (Nat.le_of_ble_eq_true rfl) rfl (bX7_retract_0 p1 hd1 h)
set_option maxRecDepth 20000 in
theorem bX7_retract_35 {d : Nat} {σ : SS} {K : Int32 → SS → Prop} (v1 : Int32) (v2 : Int32) (v3 : Int32)  (hd1 : 1 ≤ d) (h : (vp_in (nI 1) 3270) ∧ ((((σ.1 37 (nI 1).toNatClampNeg) ≤ v3) → (VV mX7_retract d s00 122 [some (.ref 11), some (.int v1), some (.int v2), some (.int (nI 0)), none] [] σ (Qi K))) ∧ ((¬ (σ.1 37 (nI 1).toNatClampNeg) ≤ v3) → ((vp_in v3 20) ∧ (((¬ (σ.1 41 v3.toNatClampNeg) = (nI 1)) → (CTi mX7_of (d - 1) [.ref 11, .int v3, .int (nI 4)] σ (fun x1 s2 => (vp_in (((nI 22) + ((nI 16) * v3)) + (nI 4)) 3270) ∧ ((vp_in v3 20) ∧ (((¬ ((sA s2 37 (((nI 22) + ((nI 16) * v3)) + (nI 4)).toNatClampNeg x1).1 41 v3.toNatClampNeg) = (nI 2)) → (CTi mX7_of (d - 1) [.ref 11, .int v3, .int (nI 3)] (sA s2 37 (((nI 22) + ((nI 16) * v3)) + (nI 4)).toNatClampNeg x1) (fun x3 s4 => (vp_in (((nI 22) + ((nI 16) * v3)) + (nI 3)) 3270) ∧ (VV mX7_retract d s00 35 [some (.ref 11), some (.int v1), some (.int v2), some (.int (v3 + nI 1)), none] [] (sA s4 37 (((nI 22) + ((nI 16) * v3)) + (nI 3)).toNatClampNeg x3) (Qi K))))) ∧ ((((sA s2 37 (((nI 22) + ((nI 16) * v3)) + (nI 4)).toNatClampNeg x1).1 41 v3.toNatClampNeg) = (nI 2)) → ((vp_in (((nI 22) + ((nI 16) * v3)) + (nI 3)) 3270) ∧ (VV mX7_retract d s00 35 [some (.ref 11), some (.int v1), some (.int v2), some (.int (v3 + nI 1)), none] [] (sA (sA s2 37 (((nI 22) + ((nI 16) * v3)) + (nI 4)).toNatClampNeg x1) 37 (((nI 22) + ((nI 16) * v3)) + (nI 3)).toNatClampNeg (-1000000)) (Qi K))))))))) ∧ (((σ.1 41 v3.toNatClampNeg) = (nI 1)) → ((vp_in (((nI 22) + ((nI 16) * v3)) + (nI 4)) 3270) ∧ ((vp_in v3 20) ∧ (((¬ ((sA σ 37 (((nI 22) + ((nI 16) * v3)) + (nI 4)).toNatClampNeg (nI 0)).1 41 v3.toNatClampNeg) = (nI 2)) → (CTi mX7_of (d - 1) [.ref 11, .int v3, .int (nI 3)] (sA σ 37 (((nI 22) + ((nI 16) * v3)) + (nI 4)).toNatClampNeg (nI 0)) (fun x5 s6 => (vp_in (((nI 22) + ((nI 16) * v3)) + (nI 3)) 3270) ∧ (VV mX7_retract d s00 35 [some (.ref 11), some (.int v1), some (.int v2), some (.int (v3 + nI 1)), none] [] (sA s6 37 (((nI 22) + ((nI 16) * v3)) + (nI 3)).toNatClampNeg x5) (Qi K))))) ∧ ((((sA σ 37 (((nI 22) + ((nI 16) * v3)) + (nI 4)).toNatClampNeg (nI 0)).1 41 v3.toNatClampNeg) = (nI 2)) → ((vp_in (((nI 22) + ((nI 16) * v3)) + (nI 3)) 3270) ∧ (VV mX7_retract d s00 35 [some (.ref 11), some (.int v1), some (.int v2), some (.int (v3 + nI 1)), none] [] (sA (sA σ 37 (((nI 22) + ((nI 16) * v3)) + (nI 4)).toNatClampNeg (nI 0)) 37 (((nI 22) + ((nI 16) * v3)) + (nI 3)).toNatClampNeg (-1000000)) (Qi K))))))))))))) : VV mX7_retract d s00 35 [some (.ref 11), some (.int v1), some (.int v2), some (.int v3), none] [] σ (Qi K) := by
  refine v_iload_n (q := 36) dX7_retract_35 rfl rfl ?_
  refine v_aload_n (q := 37) dX7_retract_36 rfl rfl ?_
  refine v_get (q := 40) dX7_retract_37 rfl fl_7_7 rfl rfl ?_
  refine v_iconst (v := (nI 1)) (q := 41) dX7_retract_40 rfl (by decide) ?_
  refine v_iald (q := 42) dX7_retract_41 rfl (isI_d rfl) h.1 ?_
  have h := h.2
  refine v_icmp_ge (t := 120) (q := 45) dX7_retract_42 rfl (by decide) (fun c => ?_) (fun c => ?_)
  · have h := h.1 (c)
    refine v_iconst (v := (nI 0)) (q := 121) dX7_retract_120 rfl (by decide) ?_
    refine v_istore_n (q := 122) dX7_retract_121 rfl (by decide) rfl ?_
    exact h
  · have h := h.2 (c)
    refine v_aload_n (q := 46) dX7_retract_45 rfl rfl ?_
    refine v_get (q := 49) dX7_retract_46 rfl fl_7_7 rfl rfl ?_
    refine v_bipush (v := (nI 22)) (q := 51) dX7_retract_49 rfl (by decide) ?_
    refine v_bipush (v := (nI 16)) (q := 53) dX7_retract_51 rfl (by decide) ?_
    refine v_iload_n (q := 54) dX7_retract_53 rfl rfl ?_
    refine v_imul (q := 55) dX7_retract_54 rfl ?_
    refine v_iadd (q := 56) dX7_retract_55 rfl ?_
    refine v_iconst (v := (nI 4)) (q := 57) dX7_retract_56 rfl (by decide) ?_
    refine v_iadd (q := 58) dX7_retract_57 rfl ?_
    refine v_aload_n (q := 59) dX7_retract_58 rfl rfl ?_
    refine v_get (q := 62) dX7_retract_59 rfl fl_7_22 rfl rfl ?_
    refine v_iload_n (q := 63) dX7_retract_62 rfl rfl ?_
    refine v_iald (q := 64) dX7_retract_63 rfl (isI_d rfl) h.1 ?_
    have h := h.2
    refine v_iconst (v := (nI 1)) (q := 65) dX7_retract_64 rfl (by decide) ?_
    refine v_icmp_ne (t := 72) (q := 68) dX7_retract_65 rfl (by decide) (fun c => ?_) (fun c => ?_)
    · have h := h.1 (c)
      refine v_aload_n (q := 73) dX7_retract_72 rfl rfl ?_
      refine v_iload_n (q := 74) dX7_retract_73 rfl rfl ?_
      refine v_iconst (v := (nI 4)) (q := 75) dX7_retract_74 rfl (by decide) ?_
      refine v_callV (As := [.int v3, .int (nI 4)]) (n := 2) (q := 78) dX7_retract_75 rfl lk_7_49 hd1 rfl rfl (Nat.le_of_ble_eq_true rfl) (CT.imp h (fun r s2 h => ?_))
      obtain ⟨x1, rfl, h⟩ := h
      show VV mX7_retract d s00 78 [some (.ref 11), some (.int v1), some (.int v2), some (.int v3), none] [.int x1, .int (((nI 22) + ((nI 16) * v3)) + (nI 4)), .ref 37] s2 (Qi K)
      refine v_iast (q := 79) dX7_retract_78 rfl (isI_d rfl) h.1 ?_
      have h := h.2
      refine v_aload_n (q := 80) dX7_retract_79 rfl rfl ?_
      refine v_get (q := 83) dX7_retract_80 rfl fl_7_7 rfl rfl ?_
      refine v_bipush (v := (nI 22)) (q := 85) dX7_retract_83 rfl (by decide) ?_
      refine v_bipush (v := (nI 16)) (q := 87) dX7_retract_85 rfl (by decide) ?_
      refine v_iload_n (q := 88) dX7_retract_87 rfl rfl ?_
      refine v_imul (q := 89) dX7_retract_88 rfl ?_
      refine v_iadd (q := 90) dX7_retract_89 rfl ?_
      refine v_iconst (v := (nI 3)) (q := 91) dX7_retract_90 rfl (by decide) ?_
      refine v_iadd (q := 92) dX7_retract_91 rfl ?_
      refine v_aload_n (q := 93) dX7_retract_92 rfl rfl ?_
      refine v_get (q := 96) dX7_retract_93 rfl fl_7_22 rfl rfl ?_
      refine v_iload_n (q := 97) dX7_retract_96 rfl rfl ?_
      refine v_iald (q := 98) dX7_retract_97 rfl (isI_d rfl) h.1 ?_
      have h := h.2
      refine v_iconst (v := (nI 2)) (q := 99) dX7_retract_98 rfl (by decide) ?_
      refine v_icmp_ne (t := 107) (q := 102) dX7_retract_99 rfl (by decide) (fun c => ?_) (fun c => ?_)
      · have h := h.1 (c)
        refine v_aload_n (q := 108) dX7_retract_107 rfl rfl ?_
        refine v_iload_n (q := 109) dX7_retract_108 rfl rfl ?_
        refine v_iconst (v := (nI 3)) (q := 110) dX7_retract_109 rfl (by decide) ?_
        refine v_callV (As := [.int v3, .int (nI 3)]) (n := 2) (q := 113) dX7_retract_110 rfl lk_7_49 hd1 rfl rfl (Nat.le_of_ble_eq_true rfl) (CT.imp h (fun r s4 h => ?_))
        obtain ⟨x3, rfl, h⟩ := h
        show VV mX7_retract d s00 113 [some (.ref 11), some (.int v1), some (.int v2), some (.int v3), none] [.int x3, .int (((nI 22) + ((nI 16) * v3)) + (nI 3)), .ref 37] s4 (Qi K)
        refine v_iast (q := 114) dX7_retract_113 rfl (isI_d rfl) h.1 ?_
        have h := h.2
        refine v_iinc (y := (v3 + nI 1)) (q := 117) dX7_retract_114 rfl rfl (congrArg (fun z => v3 + z) (by decide)) (by decide) rfl ?_
        refine v_goto (q := 35) dX7_retract_117 (by decide) ?_
        exact h
      · have h := h.2 (c)
        refine v_ldc (v := (-1000000)) (q := 104) dX7_retract_102 rfl cn_7_121 ?_
        refine v_goto (q := 113) dX7_retract_104 (by decide) ?_
        refine v_iast (q := 114) dX7_retract_113 rfl (isI_d rfl) h.1 ?_
        have h := h.2
        refine v_iinc (y := (v3 + nI 1)) (q := 117) dX7_retract_114 rfl rfl (congrArg (fun z => v3 + z) (by decide)) (by decide) rfl ?_
        refine v_goto (q := 35) dX7_retract_117 (by decide) ?_
        exact h
    · have h := h.2 (c)
      refine v_iconst (v := (nI 0)) (q := 69) dX7_retract_68 rfl (by decide) ?_
      refine v_goto (q := 78) dX7_retract_69 (by decide) ?_
      refine v_iast (q := 79) dX7_retract_78 rfl (isI_d rfl) h.1 ?_
      have h := h.2
      refine v_aload_n (q := 80) dX7_retract_79 rfl rfl ?_
      refine v_get (q := 83) dX7_retract_80 rfl fl_7_7 rfl rfl ?_
      refine v_bipush (v := (nI 22)) (q := 85) dX7_retract_83 rfl (by decide) ?_
      refine v_bipush (v := (nI 16)) (q := 87) dX7_retract_85 rfl (by decide) ?_
      refine v_iload_n (q := 88) dX7_retract_87 rfl rfl ?_
      refine v_imul (q := 89) dX7_retract_88 rfl ?_
      refine v_iadd (q := 90) dX7_retract_89 rfl ?_
      refine v_iconst (v := (nI 3)) (q := 91) dX7_retract_90 rfl (by decide) ?_
      refine v_iadd (q := 92) dX7_retract_91 rfl ?_
      refine v_aload_n (q := 93) dX7_retract_92 rfl rfl ?_
      refine v_get (q := 96) dX7_retract_93 rfl fl_7_22 rfl rfl ?_
      refine v_iload_n (q := 97) dX7_retract_96 rfl rfl ?_
      refine v_iald (q := 98) dX7_retract_97 rfl (isI_d rfl) h.1 ?_
      have h := h.2
      refine v_iconst (v := (nI 2)) (q := 99) dX7_retract_98 rfl (by decide) ?_
      refine v_icmp_ne (t := 107) (q := 102) dX7_retract_99 rfl (by decide) (fun c => ?_) (fun c => ?_)
      · have h := h.1 (c)
        refine v_aload_n (q := 108) dX7_retract_107 rfl rfl ?_
        refine v_iload_n (q := 109) dX7_retract_108 rfl rfl ?_
        refine v_iconst (v := (nI 3)) (q := 110) dX7_retract_109 rfl (by decide) ?_
        refine v_callV (As := [.int v3, .int (nI 3)]) (n := 2) (q := 113) dX7_retract_110 rfl lk_7_49 hd1 rfl rfl (Nat.le_of_ble_eq_true rfl) (CT.imp h (fun r s6 h => ?_))
        obtain ⟨x5, rfl, h⟩ := h
        show VV mX7_retract d s00 113 [some (.ref 11), some (.int v1), some (.int v2), some (.int v3), none] [.int x5, .int (((nI 22) + ((nI 16) * v3)) + (nI 3)), .ref 37] s6 (Qi K)
        refine v_iast (q := 114) dX7_retract_113 rfl (isI_d rfl) h.1 ?_
        have h := h.2
        refine v_iinc (y := (v3 + nI 1)) (q := 117) dX7_retract_114 rfl rfl (congrArg (fun z => v3 + z) (by decide)) (by decide) rfl ?_
        refine v_goto (q := 35) dX7_retract_117 (by decide) ?_
        exact h
      · have h := h.2 (c)
        refine v_ldc (v := (-1000000)) (q := 104) dX7_retract_102 rfl cn_7_121 ?_
        refine v_goto (q := 113) dX7_retract_104 (by decide) ?_
        refine v_iast (q := 114) dX7_retract_113 rfl (isI_d rfl) h.1 ?_
        have h := h.2
        refine v_iinc (y := (v3 + nI 1)) (q := 117) dX7_retract_114 rfl rfl (congrArg (fun z => v3 + z) (by decide)) (by decide) rfl ?_
        refine v_goto (q := 35) dX7_retract_117 (by decide) ?_
        exact h
set_option maxRecDepth 20000 in
theorem bX7_retract_122 {d : Nat} {σ : SS} {K : Int32 → SS → Prop} (v1 : Int32) (v2 : Int32) (v3 : Int32)  (hd1 : 1 ≤ d) (h : (vp_in (nI 2) 3270) ∧ ((((σ.1 37 (nI 2).toNatClampNeg) ≤ v3) → (K v2 σ)) ∧ ((¬ (σ.1 37 (nI 2).toNatClampNeg) ≤ v3) → (CTi mX7_goesBack (d - 1) [.ref 11, .int v3] σ (fun x1 s2 => ((x1 = 0) → (VV mX7_retract d s00 122 [some (.ref 11), some (.int v1), some (.int v2), some (.int (v3 + nI 1)), none] [] s2 (Qi K))) ∧ ((¬ x1 = 0) → ((vp_in (((nI 342) + ((nI 13) * v3)) + (nI 5)) 3270) ∧ (CTi mX7_ofNote (d - 1) [.ref 11, .int v3, .int (nI 0)] (sA s2 37 (((nI 342) + ((nI 13) * v3)) + (nI 5)).toNatClampNeg (nI 1)) (fun x3 s4 => CTi mX7_ofNote (d - 1) [.ref 11, .int v3, .int (nI 3)] s4 (fun x5 s6 => CTv mX7_pays (d - 1) [.ref 11, .int x3, .int x5] s6 (fun s8 => (vp_in (nI 4) 3270) ∧ (CTi mX7_ofNote (d - 1) [.ref 11, .int v3, .int (nI 6)] s8 (fun x9 s10 => (vp_in (nI 4) 3270) ∧ (VV mX7_retract d s00 191 [some (.ref 11), some (.int v1), some (.int v2), some (.int v3), some (.int (nI 0))] [] (sA s10 37 (nI 4).toNatClampNeg ((s8.1 37 (nI 4).toNatClampNeg) - x9)) (Qi K))))))))))))))) : VV mX7_retract d s00 122 [some (.ref 11), some (.int v1), some (.int v2), some (.int v3), none] [] σ (Qi K) := by
  refine v_iload_n (q := 123) dX7_retract_122 rfl rfl ?_
  refine v_aload_n (q := 124) dX7_retract_123 rfl rfl ?_
  refine v_get (q := 127) dX7_retract_124 rfl fl_7_7 rfl rfl ?_
  refine v_iconst (v := (nI 2)) (q := 128) dX7_retract_127 rfl (by decide) ?_
  refine v_iald (q := 129) dX7_retract_128 rfl (isI_d rfl) h.1 ?_
  have h := h.2
  refine v_icmp_ge (t := 231) (q := 132) dX7_retract_129 rfl (by decide) (fun c => ?_) (fun c => ?_)
  · have h := h.1 (c)
    refine v_iload_n (q := 232) dX7_retract_231 rfl rfl ?_
    exact v_iret dX7_retract_232 rfl ⟨_, rfl, h⟩
  · have h := h.2 (c)
    refine v_aload_n (q := 133) dX7_retract_132 rfl rfl ?_
    refine v_iload_n (q := 134) dX7_retract_133 rfl rfl ?_
    refine v_callV (As := [.int v3]) (n := 1) (q := 137) dX7_retract_134 rfl lk_7_148 hd1 rfl rfl (Nat.le_of_ble_eq_true rfl) (CT.imp h (fun r s2 h => ?_))
    obtain ⟨x1, rfl, h⟩ := h
    show VV mX7_retract d s00 137 [some (.ref 11), some (.int v1), some (.int v2), some (.int v3), none] [.int x1] s2 (Qi K)
    refine v_if_eq (t := 225) (q := 140) dX7_retract_137 rfl (by decide) (fun c => ?_) (fun c => ?_)
    · have h := h.1 (c)
      refine v_iinc (y := (v3 + nI 1)) (q := 228) dX7_retract_225 rfl rfl (congrArg (fun z => v3 + z) (by decide)) (by decide) rfl ?_
      refine v_goto (q := 122) dX7_retract_228 (by decide) ?_
      exact h
    · have h := h.2 (c)
      refine v_aload_n (q := 141) dX7_retract_140 rfl rfl ?_
      refine v_get (q := 144) dX7_retract_141 rfl fl_7_7 rfl rfl ?_
      refine v_sipush (v := (nI 342)) (q := 147) dX7_retract_144 rfl (by decide) ?_
      refine v_bipush (v := (nI 13)) (q := 149) dX7_retract_147 rfl (by decide) ?_
      refine v_iload_n (q := 150) dX7_retract_149 rfl rfl ?_
      refine v_imul (q := 151) dX7_retract_150 rfl ?_
      refine v_iadd (q := 152) dX7_retract_151 rfl ?_
      refine v_iconst (v := (nI 5)) (q := 153) dX7_retract_152 rfl (by decide) ?_
      refine v_iadd (q := 154) dX7_retract_153 rfl ?_
      refine v_iconst (v := (nI 1)) (q := 155) dX7_retract_154 rfl (by decide) ?_
      refine v_iast (q := 156) dX7_retract_155 rfl (isI_d rfl) h.1 ?_
      have h := h.2
      refine v_aload_n (q := 157) dX7_retract_156 rfl rfl ?_
      refine v_aload_n (q := 158) dX7_retract_157 rfl rfl ?_
      refine v_iload_n (q := 159) dX7_retract_158 rfl rfl ?_
      refine v_iconst (v := (nI 0)) (q := 160) dX7_retract_159 rfl (by decide) ?_
      refine v_callV (As := [.int v3, .int (nI 0)]) (n := 2) (q := 163) dX7_retract_160 rfl lk_7_100 hd1 rfl rfl (Nat.le_of_ble_eq_true rfl) (CT.imp h (fun r s4 h => ?_))
      obtain ⟨x3, rfl, h⟩ := h
      show VV mX7_retract d s00 163 [some (.ref 11), some (.int v1), some (.int v2), some (.int v3), none] [.int x3, .ref 11] s4 (Qi K)
      refine v_aload_n (q := 164) dX7_retract_163 rfl rfl ?_
      refine v_iload_n (q := 165) dX7_retract_164 rfl rfl ?_
      refine v_iconst (v := (nI 3)) (q := 166) dX7_retract_165 rfl (by decide) ?_
      refine v_callV (As := [.int v3, .int (nI 3)]) (n := 2) (q := 169) dX7_retract_166 rfl lk_7_100 hd1 rfl rfl (Nat.le_of_ble_eq_true rfl) (CT.imp h (fun r s6 h => ?_))
      obtain ⟨x5, rfl, h⟩ := h
      show VV mX7_retract d s00 169 [some (.ref 11), some (.int v1), some (.int v2), some (.int v3), none] [.int x5, .int x3, .ref 11] s6 (Qi K)
      refine v_callV (As := [.int x3, .int x5]) (n := 2) (q := 172) dX7_retract_169 rfl lk_7_142 hd1 rfl rfl (Nat.le_of_ble_eq_true rfl) (CT.imp h (fun r s8 h => ?_))
      obtain ⟨rfl, h⟩ := h
      show VV mX7_retract d s00 172 [some (.ref 11), some (.int v1), some (.int v2), some (.int v3), none] [] s8 (Qi K)
      refine v_aload_n (q := 173) dX7_retract_172 rfl rfl ?_
      refine v_get (q := 176) dX7_retract_173 rfl fl_7_7 rfl rfl ?_
      refine v_iconst (v := (nI 4)) (q := 177) dX7_retract_176 rfl (by decide) ?_
      refine v_dup2 (q := 178) dX7_retract_177 rfl rfl rfl ?_
      refine v_iald (q := 179) dX7_retract_178 rfl (isI_d rfl) h.1 ?_
      have h := h.2
      refine v_aload_n (q := 180) dX7_retract_179 rfl rfl ?_
      refine v_iload_n (q := 181) dX7_retract_180 rfl rfl ?_
      refine v_bipush (v := (nI 6)) (q := 183) dX7_retract_181 rfl (by decide) ?_
      refine v_callV (As := [.int v3, .int (nI 6)]) (n := 2) (q := 186) dX7_retract_183 rfl lk_7_100 hd1 rfl rfl (Nat.le_of_ble_eq_true rfl) (CT.imp h (fun r s10 h => ?_))
      obtain ⟨x9, rfl, h⟩ := h
      show VV mX7_retract d s00 186 [some (.ref 11), some (.int v1), some (.int v2), some (.int v3), none] [.int x9, .int (s8.1 37 (nI 4).toNatClampNeg), .int (nI 4), .ref 37] s10 (Qi K)
      refine v_isub (q := 187) dX7_retract_186 rfl ?_
      refine v_iast (q := 188) dX7_retract_187 rfl (isI_d rfl) h.1 ?_
      have h := h.2
      refine v_iconst (v := (nI 0)) (q := 189) dX7_retract_188 rfl (by decide) ?_
      refine v_istore (q := 191) dX7_retract_189 rfl (by decide) rfl ?_
      exact h
set_option maxRecDepth 20000 in
theorem bX7_retract_191 {d : Nat} {σ : SS} {K : Int32 → SS → Prop} (v1 : Int32) (v2 : Int32) (v3 : Int32) (v4 : Int32)  (hd1 : 1 ≤ d) (h : (vp_in (nI 0) 3270) ∧ ((((σ.1 37 (nI 0).toNatClampNeg) ≤ v4) → (VV mX7_retract d s00 122 [some (.ref 11), some (.int v1), some (.int v2), some (.int (v3 + nI 1)), none] [] σ (Qi K))) ∧ ((¬ (σ.1 37 (nI 0).toNatClampNeg) ≤ v4) → (CTi mX7_ofNote (d - 1) [.ref 11, .int v3, .int ((nI 7) + v4)] σ (fun x1 s2 => CTv mX7_pays (d - 1) [.ref 11, .int v4, .int (-x1)] s2 (fun s4 => VV mX7_retract d s00 191 [some (.ref 11), some (.int v1), some (.int v2), some (.int v3), some (.int (v4 + nI 1))] [] s4 (Qi K))))))) : VV mX7_retract d s00 191 [some (.ref 11), some (.int v1), some (.int v2), some (.int v3), some (.int v4)] [] σ (Qi K) := by
  refine v_iload (q := 193) dX7_retract_191 rfl rfl ?_
  refine v_aload_n (q := 194) dX7_retract_193 rfl rfl ?_
  refine v_get (q := 197) dX7_retract_194 rfl fl_7_7 rfl rfl ?_
  refine v_iconst (v := (nI 0)) (q := 198) dX7_retract_197 rfl (by decide) ?_
  refine v_iald (q := 199) dX7_retract_198 rfl (isI_d rfl) h.1 ?_
  have h := h.2
  refine v_icmp_ge (t := 225) (q := 202) dX7_retract_199 rfl (by decide) (fun c => ?_) (fun c => ?_)
  · have h := h.1 (c)
    refine v_iinc (y := (v3 + nI 1)) (q := 228) dX7_retract_225 rfl rfl (congrArg (fun z => v3 + z) (by decide)) (by decide) rfl ?_
    refine v_goto (q := 122) dX7_retract_228 (by decide) ?_
    exact v_msk [true, true, true, true, false] h
  · have h := h.2 (c)
    refine v_aload_n (q := 203) dX7_retract_202 rfl rfl ?_
    refine v_iload (q := 205) dX7_retract_203 rfl rfl ?_
    refine v_aload_n (q := 206) dX7_retract_205 rfl rfl ?_
    refine v_iload_n (q := 207) dX7_retract_206 rfl rfl ?_
    refine v_bipush (v := (nI 7)) (q := 209) dX7_retract_207 rfl (by decide) ?_
    refine v_iload (q := 211) dX7_retract_209 rfl rfl ?_
    refine v_iadd (q := 212) dX7_retract_211 rfl ?_
    refine v_callV (As := [.int v3, .int ((nI 7) + v4)]) (n := 2) (q := 215) dX7_retract_212 rfl lk_7_100 hd1 rfl rfl (Nat.le_of_ble_eq_true rfl) (CT.imp h (fun r s2 h => ?_))
    obtain ⟨x1, rfl, h⟩ := h
    show VV mX7_retract d s00 215 [some (.ref 11), some (.int v1), some (.int v2), some (.int v3), some (.int v4)] [.int x1, .int v4, .ref 11] s2 (Qi K)
    refine v_ineg (q := 216) dX7_retract_215 rfl ?_
    refine v_callV (As := [.int v4, .int (-x1)]) (n := 2) (q := 219) dX7_retract_216 rfl lk_7_142 hd1 rfl rfl (Nat.le_of_ble_eq_true rfl) (CT.imp h (fun r s4 h => ?_))
    obtain ⟨rfl, h⟩ := h
    show VV mX7_retract d s00 219 [some (.ref 11), some (.int v1), some (.int v2), some (.int v3), some (.int v4)] [] s4 (Qi K)
    refine v_iinc (y := (v4 + nI 1)) (q := 222) dX7_retract_219 rfl rfl (congrArg (fun z => v4 + z) (by decide)) (by decide) rfl ?_
    refine v_goto (q := 191) dX7_retract_222 (by decide) ?_
    exact h
set_option maxRecDepth 20000 in
theorem bX7_wouldPayBack_0 {d : Nat} {σ : SS} {K : Int32 → SS → Prop} (p1 : Int32)  (hd1 : 1 ≤ d) (h : CTi mX7_isPhrase (d - 1) [.ref 11, .int p1] σ (fun x1 s2 => ((¬ x1 = 0) → (CTi mX7_of (d - 1) [.ref 11, .int p1, .int (nI 4)] s2 (fun x3 s4 => ((¬ x3 = 0) → (CTi mX7_ends (d - 1) [.ref 11, .int p1] s4 (fun x5 s6 => VV mX7_wouldPayBack d s00 34 [some (.ref 11), some (.int p1), some (.int x5), some (.int (nI 0)), some (.int (nI 0))] [] s6 (Qi K)))) ∧ ((x3 = 0) → (K (-1000003) s4))))) ∧ ((x1 = 0) → (K (-1000001) s2)))) : VV mX7_wouldPayBack d s00 0 [some (.ref 11), some (.int p1), none, none, none] [] σ (Qi K) := by
  refine v_aload_n (q := 1) dX7_wouldPayBack_0 rfl rfl ?_
  refine v_iload_n (q := 2) dX7_wouldPayBack_1 rfl rfl ?_
  refine v_callV (As := [.int p1]) (n := 1) (q := 5) dX7_wouldPayBack_2 rfl lk_7_122 hd1 rfl rfl (Nat.le_of_ble_eq_true rfl) (CT.imp h (fun r s2 h => ?_))
  obtain ⟨x1, rfl, h⟩ := h
  show VV mX7_wouldPayBack d s00 5 [some (.ref 11), some (.int p1), none, none, none] [.int x1] s2 (Qi K)
  refine v_if_ne (t := 11) (q := 8) dX7_wouldPayBack_5 rfl (by decide) (fun c => ?_) (fun c => ?_)
  · have h := h.1 (c)
    refine v_aload_n (q := 12) dX7_wouldPayBack_11 rfl rfl ?_
    refine v_iload_n (q := 13) dX7_wouldPayBack_12 rfl rfl ?_
    refine v_iconst (v := (nI 4)) (q := 14) dX7_wouldPayBack_13 rfl (by decide) ?_
    refine v_callV (As := [.int p1, .int (nI 4)]) (n := 2) (q := 17) dX7_wouldPayBack_14 rfl lk_7_49 hd1 rfl rfl (Nat.le_of_ble_eq_true rfl) (CT.imp h (fun r s4 h => ?_))
    obtain ⟨x3, rfl, h⟩ := h
    show VV mX7_wouldPayBack d s00 17 [some (.ref 11), some (.int p1), none, none, none] [.int x3] s4 (Qi K)
    refine v_if_ne (t := 23) (q := 20) dX7_wouldPayBack_17 rfl (by decide) (fun c => ?_) (fun c => ?_)
    · have h := h.1 (c)
      refine v_aload_n (q := 24) dX7_wouldPayBack_23 rfl rfl ?_
      refine v_iload_n (q := 25) dX7_wouldPayBack_24 rfl rfl ?_
      refine v_callV (As := [.int p1]) (n := 1) (q := 28) dX7_wouldPayBack_25 rfl lk_7_145 hd1 rfl rfl (Nat.le_of_ble_eq_true rfl) (CT.imp h (fun r s6 h => ?_))
      obtain ⟨x5, rfl, h⟩ := h
      show VV mX7_wouldPayBack d s00 28 [some (.ref 11), some (.int p1), none, none, none] [.int x5] s6 (Qi K)
      refine v_istore_n (q := 29) dX7_wouldPayBack_28 rfl (by decide) rfl ?_
      refine v_iconst (v := (nI 0)) (q := 30) dX7_wouldPayBack_29 rfl (by decide) ?_
      refine v_istore_n (q := 31) dX7_wouldPayBack_30 rfl (by decide) rfl ?_
      refine v_iconst (v := (nI 0)) (q := 32) dX7_wouldPayBack_31 rfl (by decide) ?_
      refine v_istore (q := 34) dX7_wouldPayBack_32 rfl (by decide) rfl ?_
      exact h
    · have h := h.2 (c)
      refine v_ldc (v := (-1000003)) (q := 22) dX7_wouldPayBack_20 rfl cn_7_128 ?_
      exact v_iret dX7_wouldPayBack_22 rfl ⟨_, rfl, h⟩
  · have h := h.2 (c)
    refine v_ldc (v := (-1000001)) (q := 10) dX7_wouldPayBack_8 rfl cn_7_87 ?_
    exact v_iret dX7_wouldPayBack_10 rfl ⟨_, rfl, h⟩
theorem eX7_wouldPayBack {d : Nat} {σ : SS} {K : Int32 → SS → Prop} (p1 : Int32)  (hd1 : 1 ≤ d) (h : CTi mX7_isPhrase (d - 1) [.ref 11, .int p1] σ (fun x1 s2 => ((¬ x1 = 0) → (CTi mX7_of (d - 1) [.ref 11, .int p1, .int (nI 4)] s2 (fun x3 s4 => ((¬ x3 = 0) → (CTi mX7_ends (d - 1) [.ref 11, .int p1] s4 (fun x5 s6 => VV mX7_wouldPayBack d s00 34 [some (.ref 11), some (.int p1), some (.int x5), some (.int (nI 0)), some (.int (nI 0))] [] s6 (Qi K)))) ∧ ((x3 = 0) → (K (-1000003) s4))))) ∧ ((x1 = 0) → (K (-1000001) s2)))) : CTi mX7_wouldPayBack d [.ref 11, .int p1] σ K := CT_of (Q := (Qi K)) (by decide +kernel) rfl (by decide) (Nat.le_of_ble_eq_true rfl) rfl (bX7_wouldPayBack_0 p1 hd1 h)
set_option maxRecDepth 20000 in
theorem bX7_wouldPayBack_34 {d : Nat} {σ : SS} {K : Int32 → SS → Prop} (v1 : Int32) (v2 : Int32) (v3 : Int32) (v4 : Int32)  (hd1 : 1 ≤ d) (h : (vp_in (nI 2) 3270) ∧ ((((σ.1 37 (nI 2).toNatClampNeg) ≤ v4) → (K v3 σ)) ∧ ((¬ (σ.1 37 (nI 2).toNatClampNeg) ≤ v4) → (CTi mX7_goesBack (d - 1) [.ref 11, .int v4] σ (fun x1 s2 => ((x1 = 0) → (VV mX7_wouldPayBack d s00 34 [some (.ref 11), some (.int v1), some (.int v2), some (.int (v3 + (nI 0))), some (.int (v4 + nI 1))] [] s2 (Qi K))) ∧ ((¬ x1 = 0) → (CTi mX7_ofNote (d - 1) [.ref 11, .int v4, .int (nI 3)] s2 (fun x3 s4 => VV mX7_wouldPayBack d s00 34 [some (.ref 11), some (.int v1), some (.int v2), some (.int (v3 + x3)), some (.int (v4 + nI 1))] [] s4 (Qi K))))))))) : VV mX7_wouldPayBack d s00 34 [some (.ref 11), some (.int v1), some (.int v2), some (.int v3), some (.int v4)] [] σ (Qi K) := by
  refine v_iload (q := 36) dX7_wouldPayBack_34 rfl rfl ?_
  refine v_aload_n (q := 37) dX7_wouldPayBack_36 rfl rfl ?_
  refine v_get (q := 40) dX7_wouldPayBack_37 rfl fl_7_7 rfl rfl ?_
  refine v_iconst (v := (nI 2)) (q := 41) dX7_wouldPayBack_40 rfl (by decide) ?_
  refine v_iald (q := 42) dX7_wouldPayBack_41 rfl (isI_d rfl) h.1 ?_
  have h := h.2
  refine v_icmp_ge (t := 74) (q := 45) dX7_wouldPayBack_42 rfl (by decide) (fun c => ?_) (fun c => ?_)
  · have h := h.1 (c)
    refine v_iload_n (q := 75) dX7_wouldPayBack_74 rfl rfl ?_
    exact v_iret dX7_wouldPayBack_75 rfl ⟨_, rfl, h⟩
  · have h := h.2 (c)
    refine v_iload_n (q := 46) dX7_wouldPayBack_45 rfl rfl ?_
    refine v_aload_n (q := 47) dX7_wouldPayBack_46 rfl rfl ?_
    refine v_iload (q := 49) dX7_wouldPayBack_47 rfl rfl ?_
    refine v_callV (As := [.int v4]) (n := 1) (q := 52) dX7_wouldPayBack_49 rfl lk_7_148 hd1 rfl rfl (Nat.le_of_ble_eq_true rfl) (CT.imp h (fun r s2 h => ?_))
    obtain ⟨x1, rfl, h⟩ := h
    show VV mX7_wouldPayBack d s00 52 [some (.ref 11), some (.int v1), some (.int v2), some (.int v3), some (.int v4)] [.int x1, .int v3] s2 (Qi K)
    refine v_if_eq (t := 65) (q := 55) dX7_wouldPayBack_52 rfl (by decide) (fun c => ?_) (fun c => ?_)
    · have h := h.1 (c)
      refine v_iconst (v := (nI 0)) (q := 66) dX7_wouldPayBack_65 rfl (by decide) ?_
      refine v_iadd (q := 67) dX7_wouldPayBack_66 rfl ?_
      refine v_istore_n (q := 68) dX7_wouldPayBack_67 rfl (by decide) rfl ?_
      refine v_iinc (y := (v4 + nI 1)) (q := 71) dX7_wouldPayBack_68 rfl rfl (congrArg (fun z => v4 + z) (by decide)) (by decide) rfl ?_
      refine v_goto (q := 34) dX7_wouldPayBack_71 (by decide) ?_
      exact h
    · have h := h.2 (c)
      refine v_aload_n (q := 56) dX7_wouldPayBack_55 rfl rfl ?_
      refine v_iload (q := 58) dX7_wouldPayBack_56 rfl rfl ?_
      refine v_iconst (v := (nI 3)) (q := 59) dX7_wouldPayBack_58 rfl (by decide) ?_
      refine v_callV (As := [.int v4, .int (nI 3)]) (n := 2) (q := 62) dX7_wouldPayBack_59 rfl lk_7_100 hd1 rfl rfl (Nat.le_of_ble_eq_true rfl) (CT.imp h (fun r s4 h => ?_))
      obtain ⟨x3, rfl, h⟩ := h
      show VV mX7_wouldPayBack d s00 62 [some (.ref 11), some (.int v1), some (.int v2), some (.int v3), some (.int v4)] [.int x3, .int v3] s4 (Qi K)
      refine v_goto (q := 66) dX7_wouldPayBack_62 (by decide) ?_
      refine v_iadd (q := 67) dX7_wouldPayBack_66 rfl ?_
      refine v_istore_n (q := 68) dX7_wouldPayBack_67 rfl (by decide) rfl ?_
      refine v_iinc (y := (v4 + nI 1)) (q := 71) dX7_wouldPayBack_68 rfl rfl (congrArg (fun z => v4 + z) (by decide)) (by decide) rfl ?_
      refine v_goto (q := 34) dX7_wouldPayBack_71 (by decide) ?_
      exact h
set_option maxRecDepth 20000 in
theorem bX7_pass_0 {d : Nat} {σ : SS} {K : Int32 → SS → Prop} (p1 : Int32)  (hd1 : 1 ≤ d) (h : CTi mX7_in (d - 1) [.int p1, .int (nI 1), .int (nI 100)] σ (fun x1 s2 => ((¬ x1 = 0) → ((vp_in (nI 3) 3270) ∧ (((((s2.1 37 (nI 3).toNatClampNeg) + p1) ≤ (nI 10000)) → (CTv mX7_records (d - 1) [.ref 11] s2 (fun s4 => (vp_in (nI 3) 3270) ∧ ((vp_in (nI 3) 3270) ∧ ((vp_in (nI 3) 3270) ∧ (K ((sA s4 37 (nI 3).toNatClampNeg ((s4.1 37 (nI 3).toNatClampNeg) + p1)).1 37 (nI 3).toNatClampNeg) (sA s4 37 (nI 3).toNatClampNeg ((s4.1 37 (nI 3).toNatClampNeg) + p1)))))))) ∧ ((¬ ((s2.1 37 (nI 3).toNatClampNeg) + p1) ≤ (nI 10000)) → (K (-1000004) s2))))) ∧ ((x1 = 0) → (K (-1000002) s2)))) : VV mX7_pass d s00 0 [some (.ref 11), some (.int p1)] [] σ (Qi K) := by
  refine v_iload_n (q := 1) dX7_pass_0 rfl rfl ?_
  refine v_iconst (v := (nI 1)) (q := 2) dX7_pass_1 rfl (by decide) ?_
  refine v_bipush (v := (nI 100)) (q := 4) dX7_pass_2 rfl (by decide) ?_
  refine v_callS (As := [.int p1, .int (nI 1), .int (nI 100)]) (n := 3) (q := 7) dX7_pass_4 rfl lk_7_45 hd1 rfl (Nat.le_of_ble_eq_true rfl) (CT.imp h (fun r s2 h => ?_))
  obtain ⟨x1, rfl, h⟩ := h
  show VV mX7_pass d s00 7 [some (.ref 11), some (.int p1)] [.int x1] s2 (Qi K)
  refine v_if_ne (t := 13) (q := 10) dX7_pass_7 rfl (by decide) (fun c => ?_) (fun c => ?_)
  · have h := h.1 (c)
    refine v_aload_n (q := 14) dX7_pass_13 rfl rfl ?_
    refine v_get (q := 17) dX7_pass_14 rfl fl_7_7 rfl rfl ?_
    refine v_iconst (v := (nI 3)) (q := 18) dX7_pass_17 rfl (by decide) ?_
    refine v_iald (q := 19) dX7_pass_18 rfl (isI_d rfl) h.1 ?_
    have h := h.2
    refine v_iload_n (q := 20) dX7_pass_19 rfl rfl ?_
    refine v_iadd (q := 21) dX7_pass_20 rfl ?_
    refine v_sipush (v := (nI 10000)) (q := 24) dX7_pass_21 rfl (by decide) ?_
    refine v_icmp_le (t := 30) (q := 27) dX7_pass_24 rfl (by decide) (fun c => ?_) (fun c => ?_)
    · have h := h.1 (c)
      refine v_aload_n (q := 31) dX7_pass_30 rfl rfl ?_
      refine v_callV (As := []) (n := 0) (q := 34) dX7_pass_31 rfl lk_7_80 hd1 rfl rfl (Nat.le_of_ble_eq_true rfl) (CT.imp h (fun r s4 h => ?_))
      obtain ⟨rfl, h⟩ := h
      show VV mX7_pass d s00 34 [some (.ref 11), some (.int p1)] [] s4 (Qi K)
      refine v_aload_n (q := 35) dX7_pass_34 rfl rfl ?_
      refine v_get (q := 38) dX7_pass_35 rfl fl_7_7 rfl rfl ?_
      refine v_iconst (v := (nI 3)) (q := 39) dX7_pass_38 rfl (by decide) ?_
      refine v_dup2 (q := 40) dX7_pass_39 rfl rfl rfl ?_
      refine v_iald (q := 41) dX7_pass_40 rfl (isI_d rfl) h.1 ?_
      have h := h.2
      refine v_iload_n (q := 42) dX7_pass_41 rfl rfl ?_
      refine v_iadd (q := 43) dX7_pass_42 rfl ?_
      refine v_iast (q := 44) dX7_pass_43 rfl (isI_d rfl) h.1 ?_
      have h := h.2
      refine v_aload_n (q := 45) dX7_pass_44 rfl rfl ?_
      refine v_get (q := 48) dX7_pass_45 rfl fl_7_7 rfl rfl ?_
      refine v_iconst (v := (nI 3)) (q := 49) dX7_pass_48 rfl (by decide) ?_
      refine v_iald (q := 50) dX7_pass_49 rfl (isI_d rfl) h.1 ?_
      have h := h.2
      exact v_iret dX7_pass_50 rfl ⟨_, rfl, h⟩
    · have h := h.2 (c)
      refine v_ldc (v := (-1000004)) (q := 29) dX7_pass_27 rfl cn_7_79 ?_
      exact v_iret dX7_pass_29 rfl ⟨_, rfl, h⟩
  · have h := h.2 (c)
    refine v_ldc (v := (-1000002)) (q := 12) dX7_pass_10 rfl cn_7_88 ?_
    exact v_iret dX7_pass_12 rfl ⟨_, rfl, h⟩
theorem eX7_pass {d : Nat} {σ : SS} {K : Int32 → SS → Prop} (p1 : Int32)  (hd1 : 1 ≤ d) (h : CTi mX7_in (d - 1) [.int p1, .int (nI 1), .int (nI 100)] σ (fun x1 s2 => ((¬ x1 = 0) → ((vp_in (nI 3) 3270) ∧ (((((s2.1 37 (nI 3).toNatClampNeg) + p1) ≤ (nI 10000)) → (CTv mX7_records (d - 1) [.ref 11] s2 (fun s4 => (vp_in (nI 3) 3270) ∧ ((vp_in (nI 3) 3270) ∧ ((vp_in (nI 3) 3270) ∧ (K ((sA s4 37 (nI 3).toNatClampNeg ((s4.1 37 (nI 3).toNatClampNeg) + p1)).1 37 (nI 3).toNatClampNeg) (sA s4 37 (nI 3).toNatClampNeg ((s4.1 37 (nI 3).toNatClampNeg) + p1)))))))) ∧ ((¬ ((s2.1 37 (nI 3).toNatClampNeg) + p1) ≤ (nI 10000)) → (K (-1000004) s2))))) ∧ ((x1 = 0) → (K (-1000002) s2)))) : CTi mX7_pass d [.ref 11, .int p1] σ K := CT_of (Q := (Qi K)) (by decide +kernel) rfl (by decide) (Nat.le_of_ble_eq_true rfl) rfl (bX7_pass_0 p1 hd1 h)
set_option maxRecDepth 20000 in
theorem bX7_standsAt_0 {d : Nat} {σ : SS} {K : Int32 → SS → Prop} (p1 : Int32) (p2 : Int32)  (hd1 : 1 ≤ d) (h : CTi mX7_of (d - 1) [.ref 11, .int p1, .int (nI 4)] σ (fun x1 s2 => ((¬ x1 = (nI 1)) → (VV mX7_standsAt d s00 34 [some (.ref 11), some (.int p1), some (.int p2), some (.int (nI 0)), some (.int (nI 0))] [] s2 (Qi K))) ∧ ((x1 = (nI 1)) → (CTi mX7_of (d - 1) [.ref 11, .int p1, .int (nI 1)] s2 (fun x3 s4 => (((s4.2.1 8) < (p2 + x3)) → (VV mX7_standsAt d s00 34 [some (.ref 11), some (.int p1), some (.int p2), some (.int (nI 0)), some (.int (nI 0))] [] s4 (Qi K))) ∧ ((¬ (s4.2.1 8) < (p2 + x3)) → (VV mX7_standsAt d s00 34 [some (.ref 11), some (.int p1), some (.int p2), some (.int (nI 1)), some (.int (nI 0))] [] s4 (Qi K)))))))) : VV mX7_standsAt d s00 0 [some (.ref 11), some (.int p1), some (.int p2), none, none] [] σ (Qi K) := by
  refine v_aload_n (q := 1) dX7_standsAt_0 rfl rfl ?_
  refine v_iload_n (q := 2) dX7_standsAt_1 rfl rfl ?_
  refine v_iconst (v := (nI 4)) (q := 3) dX7_standsAt_2 rfl (by decide) ?_
  refine v_callV (As := [.int p1, .int (nI 4)]) (n := 2) (q := 6) dX7_standsAt_3 rfl lk_7_49 hd1 rfl rfl (Nat.le_of_ble_eq_true rfl) (CT.imp h (fun r s2 h => ?_))
  obtain ⟨x1, rfl, h⟩ := h
  show VV mX7_standsAt d s00 6 [some (.ref 11), some (.int p1), some (.int p2), none, none] [.int x1] s2 (Qi K)
  refine v_iconst (v := (nI 1)) (q := 7) dX7_standsAt_6 rfl (by decide) ?_
  refine v_icmp_ne (t := 29) (q := 10) dX7_standsAt_7 rfl (by decide) (fun c => ?_) (fun c => ?_)
  · have h := h.1 (c)
    refine v_iconst (v := (nI 0)) (q := 30) dX7_standsAt_29 rfl (by decide) ?_
    refine v_istore_n (q := 31) dX7_standsAt_30 rfl (by decide) rfl ?_
    refine v_iconst (v := (nI 0)) (q := 32) dX7_standsAt_31 rfl (by decide) ?_
    refine v_istore (q := 34) dX7_standsAt_32 rfl (by decide) rfl ?_
    exact h
  · have h := h.2 (c)
    refine v_iload_n (q := 11) dX7_standsAt_10 rfl rfl ?_
    refine v_aload_n (q := 12) dX7_standsAt_11 rfl rfl ?_
    refine v_iload_n (q := 13) dX7_standsAt_12 rfl rfl ?_
    refine v_iconst (v := (nI 1)) (q := 14) dX7_standsAt_13 rfl (by decide) ?_
    refine v_callV (As := [.int p1, .int (nI 1)]) (n := 2) (q := 17) dX7_standsAt_14 rfl lk_7_49 hd1 rfl rfl (Nat.le_of_ble_eq_true rfl) (CT.imp h (fun r s4 h => ?_))
    obtain ⟨x3, rfl, h⟩ := h
    show VV mX7_standsAt d s00 17 [some (.ref 11), some (.int p1), some (.int p2), none, none] [.int x3, .int p2] s4 (Qi K)
    refine v_iadd (q := 18) dX7_standsAt_17 rfl ?_
    refine v_aload_n (q := 19) dX7_standsAt_18 rfl rfl ?_
    refine v_get (q := 22) dX7_standsAt_19 rfl fl_7_53 rfl rfl ?_
    refine v_icmp_gt (t := 29) (q := 25) dX7_standsAt_22 rfl (by decide) (fun c => ?_) (fun c => ?_)
    · have h := h.1 (c)
      refine v_iconst (v := (nI 0)) (q := 30) dX7_standsAt_29 rfl (by decide) ?_
      refine v_istore_n (q := 31) dX7_standsAt_30 rfl (by decide) rfl ?_
      refine v_iconst (v := (nI 0)) (q := 32) dX7_standsAt_31 rfl (by decide) ?_
      refine v_istore (q := 34) dX7_standsAt_32 rfl (by decide) rfl ?_
      exact h
    · have h := h.2 (c)
      refine v_iconst (v := (nI 1)) (q := 26) dX7_standsAt_25 rfl (by decide) ?_
      refine v_goto (q := 30) dX7_standsAt_26 (by decide) ?_
      refine v_istore_n (q := 31) dX7_standsAt_30 rfl (by decide) rfl ?_
      refine v_iconst (v := (nI 0)) (q := 32) dX7_standsAt_31 rfl (by decide) ?_
      refine v_istore (q := 34) dX7_standsAt_32 rfl (by decide) rfl ?_
      exact h
theorem eX7_standsAt {d : Nat} {σ : SS} {K : Int32 → SS → Prop} (p1 : Int32) (p2 : Int32)  (hd1 : 1 ≤ d) (h : CTi mX7_of (d - 1) [.ref 11, .int p1, .int (nI 4)] σ (fun x1 s2 => ((¬ x1 = (nI 1)) → (VV mX7_standsAt d s00 34 [some (.ref 11), some (.int p1), some (.int p2), some (.int (nI 0)), some (.int (nI 0))] [] s2 (Qi K))) ∧ ((x1 = (nI 1)) → (CTi mX7_of (d - 1) [.ref 11, .int p1, .int (nI 1)] s2 (fun x3 s4 => (((s4.2.1 8) < (p2 + x3)) → (VV mX7_standsAt d s00 34 [some (.ref 11), some (.int p1), some (.int p2), some (.int (nI 0)), some (.int (nI 0))] [] s4 (Qi K))) ∧ ((¬ (s4.2.1 8) < (p2 + x3)) → (VV mX7_standsAt d s00 34 [some (.ref 11), some (.int p1), some (.int p2), some (.int (nI 1)), some (.int (nI 0))] [] s4 (Qi K)))))))) : CTi mX7_standsAt d [.ref 11, .int p1, .int p2] σ K := CT_of (Q := (Qi K)) (by decide +kernel) rfl (by decide) (Nat.le_of_ble_eq_true rfl) rfl (bX7_standsAt_0 p1 p2 hd1 h)
set_option maxRecDepth 20000 in
theorem bX7_standsAt_34 {d : Nat} {σ : SS} {K : Int32 → SS → Prop} (v1 : Int32) (v2 : Int32) (v3 : Int32) (v4 : Int32)  (hd1 : 1 ≤ d) (h : CTi mX7_of (d - 1) [.ref 11, .int v1, .int (nI 1)] σ (fun x1 s2 => ((x1 ≤ v4) → ((v3 = 0 ∨ v3 = 1) ∧ K v3 s2)) ∧ ((¬ x1 ≤ v4) → (((v3 = 0) → ((v3 = 0 ∨ v3 = 1) ∧ K v3 s2)) ∧ ((¬ v3 = 0) → ((vp_in (v2 + v4) 10) ∧ (CTi mX7_of (d - 1) [.ref 11, .int v1, .int ((nI 6) + v4)] s2 (fun x3 s4 => ((¬ (s2.1 38 (v2 + v4).toNatClampNeg) = x3) → (VV mX7_standsAt d s00 34 [some (.ref 11), some (.int v1), some (.int v2), some (.int (nI 0)), some (.int (v4 + nI 1))] [] s4 (Qi K))) ∧ (((s2.1 38 (v2 + v4).toNatClampNeg) = x3) → (VV mX7_standsAt d s00 34 [some (.ref 11), some (.int v1), some (.int v2), some (.int (nI 1)), some (.int (v4 + nI 1))] [] s4 (Qi K))))))))))) : VV mX7_standsAt d s00 34 [some (.ref 11), some (.int v1), some (.int v2), some (.int v3), some (.int v4)] [] σ (Qi K) := by
  refine v_iload (q := 36) dX7_standsAt_34 rfl rfl ?_
  refine v_aload_n (q := 37) dX7_standsAt_36 rfl rfl ?_
  refine v_iload_n (q := 38) dX7_standsAt_37 rfl rfl ?_
  refine v_iconst (v := (nI 1)) (q := 39) dX7_standsAt_38 rfl (by decide) ?_
  refine v_callV (As := [.int v1, .int (nI 1)]) (n := 2) (q := 42) dX7_standsAt_39 rfl lk_7_49 hd1 rfl rfl (Nat.le_of_ble_eq_true rfl) (CT.imp h (fun r s2 h => ?_))
  obtain ⟨x1, rfl, h⟩ := h
  show VV mX7_standsAt d s00 42 [some (.ref 11), some (.int v1), some (.int v2), some (.int v3), some (.int v4)] [.int x1, .int v4] s2 (Qi K)
  refine v_icmp_ge (t := 83) (q := 45) dX7_standsAt_42 rfl (by decide) (fun c => ?_) (fun c => ?_)
  · have h := h.1 (c)
    refine v_iload_n (q := 84) dX7_standsAt_83 rfl rfl ?_
    exact v_zret dX7_standsAt_84 rfl h.1 ⟨_, rfl, h.2⟩
  · have h := h.2 (c)
    refine v_iload_n (q := 46) dX7_standsAt_45 rfl rfl ?_
    refine v_if_eq (t := 83) (q := 49) dX7_standsAt_46 rfl (by decide) (fun c => ?_) (fun c => ?_)
    · have h := h.1 (c)
      refine v_iload_n (q := 84) dX7_standsAt_83 rfl rfl ?_
      exact v_zret dX7_standsAt_84 rfl h.1 ⟨_, rfl, h.2⟩
    · have h := h.2 (c)
      refine v_aload_n (q := 50) dX7_standsAt_49 rfl rfl ?_
      refine v_get (q := 53) dX7_standsAt_50 rfl fl_7_13 rfl rfl ?_
      refine v_iload_n (q := 54) dX7_standsAt_53 rfl rfl ?_
      refine v_iload (q := 56) dX7_standsAt_54 rfl rfl ?_
      refine v_iadd (q := 57) dX7_standsAt_56 rfl ?_
      refine v_iald (q := 58) dX7_standsAt_57 rfl (isI_d rfl) h.1 ?_
      have h := h.2
      refine v_aload_n (q := 59) dX7_standsAt_58 rfl rfl ?_
      refine v_iload_n (q := 60) dX7_standsAt_59 rfl rfl ?_
      refine v_bipush (v := (nI 6)) (q := 62) dX7_standsAt_60 rfl (by decide) ?_
      refine v_iload (q := 64) dX7_standsAt_62 rfl rfl ?_
      refine v_iadd (q := 65) dX7_standsAt_64 rfl ?_
      refine v_callV (As := [.int v1, .int ((nI 6) + v4)]) (n := 2) (q := 68) dX7_standsAt_65 rfl lk_7_49 hd1 rfl rfl (Nat.le_of_ble_eq_true rfl) (CT.imp h (fun r s4 h => ?_))
      obtain ⟨x3, rfl, h⟩ := h
      show VV mX7_standsAt d s00 68 [some (.ref 11), some (.int v1), some (.int v2), some (.int v3), some (.int v4)] [.int x3, .int (s2.1 38 (v2 + v4).toNatClampNeg)] s4 (Qi K)
      refine v_icmp_ne (t := 75) (q := 71) dX7_standsAt_68 rfl (by decide) (fun c => ?_) (fun c => ?_)
      · have h := h.1 (c)
        refine v_iconst (v := (nI 0)) (q := 76) dX7_standsAt_75 rfl (by decide) ?_
        refine v_istore_n (q := 77) dX7_standsAt_76 rfl (by decide) rfl ?_
        refine v_iinc (y := (v4 + nI 1)) (q := 80) dX7_standsAt_77 rfl rfl (congrArg (fun z => v4 + z) (by decide)) (by decide) rfl ?_
        refine v_goto (q := 34) dX7_standsAt_80 (by decide) ?_
        exact h
      · have h := h.2 (c)
        refine v_iconst (v := (nI 1)) (q := 72) dX7_standsAt_71 rfl (by decide) ?_
        refine v_goto (q := 76) dX7_standsAt_72 (by decide) ?_
        refine v_istore_n (q := 77) dX7_standsAt_76 rfl (by decide) rfl ?_
        refine v_iinc (y := (v4 + nI 1)) (q := 80) dX7_standsAt_77 rfl rfl (congrArg (fun z => v4 + z) (by decide)) (by decide) rfl ?_
        refine v_goto (q := 34) dX7_standsAt_80 (by decide) ?_
        exact h
set_option maxRecDepth 20000 in
theorem bX7_composes_0 {d : Nat} {σ : SS} {K : SS → Prop} (p1 : Int32)  (hd1 : 1 ≤ d) (h : CTv mX7_setsText (d - 1) [.ref 11] σ (fun s2 => (vp_in (s2.2.1 8) 11) ∧ ((vp_in ((sA s2 42 (s2.2.1 8).toNatClampNeg (nI 0)).2.1 8) 11) ∧ (VV mX7_composes d s00 31 [some (.ref 11), some (.int p1), some (.int (((sA (sA s2 42 (s2.2.1 8).toNatClampNeg (nI 0)) 43 ((sA s2 42 (s2.2.1 8).toNatClampNeg (nI 0)).2.1 8).toNatClampNeg (nI 0)).2.1 8) - (nI 1))), none, none, none] [] (sA (sA s2 42 (s2.2.1 8).toNatClampNeg (nI 0)) 43 ((sA s2 42 (s2.2.1 8).toNatClampNeg (nI 0)).2.1 8).toNatClampNeg (nI 0)) (Qv K))))) : VV mX7_composes d s00 0 [some (.ref 11), some (.int p1), none, none, none, none] [] σ (Qv K) := by
  refine v_aload_n (q := 1) dX7_composes_0 rfl rfl ?_
  refine v_callV (As := []) (n := 0) (q := 4) dX7_composes_1 rfl lk_7_76 hd1 rfl rfl (Nat.le_of_ble_eq_true rfl) (CT.imp h (fun r s2 h => ?_))
  obtain ⟨rfl, h⟩ := h
  show VV mX7_composes d s00 4 [some (.ref 11), some (.int p1), none, none, none, none] [] s2 (Qv K)
  refine v_aload_n (q := 5) dX7_composes_4 rfl rfl ?_
  refine v_get (q := 8) dX7_composes_5 rfl fl_7_25 rfl rfl ?_
  refine v_aload_n (q := 9) dX7_composes_8 rfl rfl ?_
  refine v_get (q := 12) dX7_composes_9 rfl fl_7_53 rfl rfl ?_
  refine v_iconst (v := (nI 0)) (q := 13) dX7_composes_12 rfl (by decide) ?_
  refine v_iast (q := 14) dX7_composes_13 rfl (isI_d rfl) h.1 ?_
  have h := h.2
  refine v_aload_n (q := 15) dX7_composes_14 rfl rfl ?_
  refine v_get (q := 18) dX7_composes_15 rfl fl_7_28 rfl rfl ?_
  refine v_aload_n (q := 19) dX7_composes_18 rfl rfl ?_
  refine v_get (q := 22) dX7_composes_19 rfl fl_7_53 rfl rfl ?_
  refine v_iconst (v := (nI 0)) (q := 23) dX7_composes_22 rfl (by decide) ?_
  refine v_iast (q := 24) dX7_composes_23 rfl (isI_d rfl) h.1 ?_
  have h := h.2
  refine v_aload_n (q := 25) dX7_composes_24 rfl rfl ?_
  refine v_get (q := 28) dX7_composes_25 rfl fl_7_53 rfl rfl ?_
  refine v_iconst (v := (nI 1)) (q := 29) dX7_composes_28 rfl (by decide) ?_
  refine v_isub (q := 30) dX7_composes_29 rfl ?_
  refine v_istore_n (q := 31) dX7_composes_30 rfl (by decide) rfl ?_
  exact h
theorem eX7_composes {d : Nat} {σ : SS} {K : SS → Prop} (p1 : Int32)  (hd1 : 1 ≤ d) (h : CTv mX7_setsText (d - 1) [.ref 11] σ (fun s2 => (vp_in (s2.2.1 8) 11) ∧ ((vp_in ((sA s2 42 (s2.2.1 8).toNatClampNeg (nI 0)).2.1 8) 11) ∧ (VV mX7_composes d s00 31 [some (.ref 11), some (.int p1), some (.int (((sA (sA s2 42 (s2.2.1 8).toNatClampNeg (nI 0)) 43 ((sA s2 42 (s2.2.1 8).toNatClampNeg (nI 0)).2.1 8).toNatClampNeg (nI 0)).2.1 8) - (nI 1))), none, none, none] [] (sA (sA s2 42 (s2.2.1 8).toNatClampNeg (nI 0)) 43 ((sA s2 42 (s2.2.1 8).toNatClampNeg (nI 0)).2.1 8).toNatClampNeg (nI 0)) (Qv K))))) : CTv mX7_composes d [.ref 11, .int p1] σ K := CT_of (Q := (Qv K)) (by decide +kernel) rfl (by decide) (Nat.le_of_ble_eq_true rfl) rfl (bX7_composes_0 p1 hd1 h)
set_option maxRecDepth 20000 in
theorem bX7_composes_31 {d : Nat} {σ : SS} {K : SS → Prop} (v1 : Int32) (v2 : Int32)   (h : ((v2 < 0) → (K σ)) ∧ ((¬ v2 < 0) → ((vp_in v2 11) ∧ ((vp_in v2 11) ∧ ((vp_in v2 11) ∧ (VV mX7_composes d s00 60 [some (.ref 11), some (.int v1), some (.int v2), some (.int (nI 0)), none, none] [] (sA (sA (sA σ 42 v2.toNatClampNeg (-1000000)) 43 v2.toNatClampNeg (nI 0)) 44 v2.toNatClampNeg (-1000000)) (Qv K))))))) : VV mX7_composes d s00 31 [some (.ref 11), some (.int v1), some (.int v2), none, none, none] [] σ (Qv K) := by
  refine v_iload_n (q := 32) dX7_composes_31 rfl rfl ?_
  refine v_if_lt (t := 217) (q := 35) dX7_composes_32 rfl (by decide) (fun c => ?_) (fun c => ?_)
  · have h := h.1 (c)
    exact v_ret0 dX7_composes_217 rfl ⟨rfl, h⟩
  · have h := h.2 (c)
    refine v_aload_n (q := 36) dX7_composes_35 rfl rfl ?_
    refine v_get (q := 39) dX7_composes_36 rfl fl_7_25 rfl rfl ?_
    refine v_iload_n (q := 40) dX7_composes_39 rfl rfl ?_
    refine v_ldc (v := (-1000000)) (q := 42) dX7_composes_40 rfl cn_7_121 ?_
    refine v_iast (q := 43) dX7_composes_42 rfl (isI_d rfl) h.1 ?_
    have h := h.2
    refine v_aload_n (q := 44) dX7_composes_43 rfl rfl ?_
    refine v_get (q := 47) dX7_composes_44 rfl fl_7_28 rfl rfl ?_
    refine v_iload_n (q := 48) dX7_composes_47 rfl rfl ?_
    refine v_iconst (v := (nI 0)) (q := 49) dX7_composes_48 rfl (by decide) ?_
    refine v_iast (q := 50) dX7_composes_49 rfl (isI_d rfl) h.1 ?_
    have h := h.2
    refine v_aload_n (q := 51) dX7_composes_50 rfl rfl ?_
    refine v_get (q := 54) dX7_composes_51 rfl fl_7_31 rfl rfl ?_
    refine v_iload_n (q := 55) dX7_composes_54 rfl rfl ?_
    refine v_ldc (v := (-1000000)) (q := 57) dX7_composes_55 rfl cn_7_121 ?_
    refine v_iast (q := 58) dX7_composes_57 rfl (isI_d rfl) h.1 ?_
    have h := h.2
    refine v_iconst (v := (nI 0)) (q := 59) dX7_composes_58 rfl (by decide) ?_
    refine v_istore_n (q := 60) dX7_composes_59 rfl (by decide) rfl ?_
    exact h
set_option maxRecDepth 20000 in
theorem bX7_composes_60 {d : Nat} {σ : SS} {K : SS → Prop} (v1 : Int32) (v2 : Int32) (v3 : Int32)  (hd1 : 1 ≤ d) (h : (vp_in (nI 1) 3270) ∧ ((((σ.1 37 (nI 1).toNatClampNeg) ≤ v3) → (VV mX7_composes d s00 31 [some (.ref 11), some (.int v1), some (.int (v2 + (-1))), none, none, none] [] σ (Qv K))) ∧ ((¬ (σ.1 37 (nI 1).toNatClampNeg) ≤ v3) → (CTi mX7_standsAt (d - 1) [.ref 11, .int v3, .int v2] σ (fun x1 s2 => ((x1 = 0) → (VV mX7_composes d s00 205 [some (.ref 11), some (.int v1), some (.int v2), some (.int v3), none, none] [] s2 (Qv K))) ∧ ((¬ x1 = 0) → (CTi mX7_of (d - 1) [.ref 11, .int v3, .int (nI 1)] s2 (fun x3 s4 => (vp_in (v2 + x3) 11) ∧ ((((s4.1 42 (v2 + x3).toNatClampNeg) = (-1000000)) → (VV mX7_composes d s00 205 [some (.ref 11), some (.int v1), some (.int v2), some (.int v3), none, none] [] s4 (Qv K))) ∧ ((¬ (s4.1 42 (v2 + x3).toNatClampNeg) = (-1000000)) → (CTi mX7_of (d - 1) [.ref 11, .int v3, .int (nI 1)] s4 (fun x5 s6 => (vp_in (v2 + x5) 11) ∧ (CTi mX7_feeOf (d - 1) [.ref 11, .int v3, .int (nI 100), .int v1] s6 (fun x7 s8 => CTi mX7_of (d - 1) [.ref 11, .int v3, .int (nI 1)] s8 (fun x9 s10 => (vp_in (v2 + x9) 11) ∧ ((vp_in v2 11) ∧ ((((s10.1 42 v2.toNatClampNeg) = (-1000000)) → (VV mX7_composes d s00 182 [some (.ref 11), some (.int v1), some (.int v2), some (.int v3), some (.int ((s6.1 42 (v2 + x5).toNatClampNeg) + x7)), some (.int ((nI 1) + (s10.1 43 (v2 + x9).toNatClampNeg)))] [] s10 (Qv K))) ∧ ((¬ (s10.1 42 v2.toNatClampNeg) = (-1000000)) → ((vp_in v2 11) ∧ (((((s6.1 42 (v2 + x5).toNatClampNeg) + x7) < (s10.1 42 v2.toNatClampNeg)) → (VV mX7_composes d s00 182 [some (.ref 11), some (.int v1), some (.int v2), some (.int v3), some (.int ((s6.1 42 (v2 + x5).toNatClampNeg) + x7)), some (.int ((nI 1) + (s10.1 43 (v2 + x9).toNatClampNeg)))] [] s10 (Qv K))) ∧ ((¬ ((s6.1 42 (v2 + x5).toNatClampNeg) + x7) < (s10.1 42 v2.toNatClampNeg)) → ((vp_in v2 11) ∧ (((¬ ((s6.1 42 (v2 + x5).toNatClampNeg) + x7) = (s10.1 42 v2.toNatClampNeg)) → (VV mX7_composes d s00 205 [some (.ref 11), some (.int v1), some (.int v2), some (.int v3), none, none] [] s10 (Qv K))) ∧ ((((s6.1 42 (v2 + x5).toNatClampNeg) + x7) = (s10.1 42 v2.toNatClampNeg)) → ((vp_in v2 11) ∧ ((((s10.1 43 v2.toNatClampNeg) ≤ ((nI 1) + (s10.1 43 (v2 + x9).toNatClampNeg))) → (VV mX7_composes d s00 205 [some (.ref 11), some (.int v1), some (.int v2), some (.int v3), none, none] [] s10 (Qv K))) ∧ ((¬ (s10.1 43 v2.toNatClampNeg) ≤ ((nI 1) + (s10.1 43 (v2 + x9).toNatClampNeg))) → (VV mX7_composes d s00 182 [some (.ref 11), some (.int v1), some (.int v2), some (.int v3), some (.int ((s6.1 42 (v2 + x5).toNatClampNeg) + x7)), some (.int ((nI 1) + (s10.1 43 (v2 + x9).toNatClampNeg)))] [] s10 (Qv K))))))))))))))))))))))))))))) : VV mX7_composes d s00 60 [some (.ref 11), some (.int v1), some (.int v2), some (.int v3), none, none] [] σ (Qv K) := by
  refine v_iload_n (q := 61) dX7_composes_60 rfl rfl ?_
  refine v_aload_n (q := 62) dX7_composes_61 rfl rfl ?_
  refine v_get (q := 65) dX7_composes_62 rfl fl_7_7 rfl rfl ?_
  refine v_iconst (v := (nI 1)) (q := 66) dX7_composes_65 rfl (by decide) ?_
  refine v_iald (q := 67) dX7_composes_66 rfl (isI_d rfl) h.1 ?_
  have h := h.2
  refine v_icmp_ge (t := 211) (q := 70) dX7_composes_67 rfl (by decide) (fun c => ?_) (fun c => ?_)
  · have h := h.1 (c)
    refine v_iinc (y := (v2 + (-1))) (q := 214) dX7_composes_211 rfl rfl (congrArg (fun z => v2 + z) (by decide)) (by decide) rfl ?_
    refine v_goto (q := 31) dX7_composes_214 (by decide) ?_
    exact v_msk [true, true, true, false, false, false] h
  · have h := h.2 (c)
    refine v_aload_n (q := 71) dX7_composes_70 rfl rfl ?_
    refine v_iload_n (q := 72) dX7_composes_71 rfl rfl ?_
    refine v_iload_n (q := 73) dX7_composes_72 rfl rfl ?_
    refine v_callV (As := [.int v3, .int v2]) (n := 2) (q := 76) dX7_composes_73 rfl lk_7_151 hd1 rfl rfl (Nat.le_of_ble_eq_true rfl) (CT.imp h (fun r s2 h => ?_))
    obtain ⟨x1, rfl, h⟩ := h
    show VV mX7_composes d s00 76 [some (.ref 11), some (.int v1), some (.int v2), some (.int v3), none, none] [.int x1] s2 (Qv K)
    refine v_if_eq (t := 205) (q := 79) dX7_composes_76 rfl (by decide) (fun c => ?_) (fun c => ?_)
    · have h := h.1 (c)
      exact h
    · have h := h.2 (c)
      refine v_aload_n (q := 80) dX7_composes_79 rfl rfl ?_
      refine v_get (q := 83) dX7_composes_80 rfl fl_7_25 rfl rfl ?_
      refine v_iload_n (q := 84) dX7_composes_83 rfl rfl ?_
      refine v_aload_n (q := 85) dX7_composes_84 rfl rfl ?_
      refine v_iload_n (q := 86) dX7_composes_85 rfl rfl ?_
      refine v_iconst (v := (nI 1)) (q := 87) dX7_composes_86 rfl (by decide) ?_
      refine v_callV (As := [.int v3, .int (nI 1)]) (n := 2) (q := 90) dX7_composes_87 rfl lk_7_49 hd1 rfl rfl (Nat.le_of_ble_eq_true rfl) (CT.imp h (fun r s4 h => ?_))
      obtain ⟨x3, rfl, h⟩ := h
      show VV mX7_composes d s00 90 [some (.ref 11), some (.int v1), some (.int v2), some (.int v3), none, none] [.int x3, .int v2, .ref 42] s4 (Qv K)
      refine v_iadd (q := 91) dX7_composes_90 rfl ?_
      refine v_iald (q := 92) dX7_composes_91 rfl (isI_d rfl) h.1 ?_
      have h := h.2
      refine v_ldc (v := (-1000000)) (q := 94) dX7_composes_92 rfl cn_7_121 ?_
      refine v_icmp_eq (t := 205) (q := 97) dX7_composes_94 rfl (by decide) (fun c => ?_) (fun c => ?_)
      · have h := h.1 (c)
        exact h
      · have h := h.2 (c)
        refine v_aload_n (q := 98) dX7_composes_97 rfl rfl ?_
        refine v_get (q := 101) dX7_composes_98 rfl fl_7_25 rfl rfl ?_
        refine v_iload_n (q := 102) dX7_composes_101 rfl rfl ?_
        refine v_aload_n (q := 103) dX7_composes_102 rfl rfl ?_
        refine v_iload_n (q := 104) dX7_composes_103 rfl rfl ?_
        refine v_iconst (v := (nI 1)) (q := 105) dX7_composes_104 rfl (by decide) ?_
        refine v_callV (As := [.int v3, .int (nI 1)]) (n := 2) (q := 108) dX7_composes_105 rfl lk_7_49 hd1 rfl rfl (Nat.le_of_ble_eq_true rfl) (CT.imp h (fun r s6 h => ?_))
        obtain ⟨x5, rfl, h⟩ := h
        show VV mX7_composes d s00 108 [some (.ref 11), some (.int v1), some (.int v2), some (.int v3), none, none] [.int x5, .int v2, .ref 42] s6 (Qv K)
        refine v_iadd (q := 109) dX7_composes_108 rfl ?_
        refine v_iald (q := 110) dX7_composes_109 rfl (isI_d rfl) h.1 ?_
        have h := h.2
        refine v_aload_n (q := 111) dX7_composes_110 rfl rfl ?_
        refine v_iload_n (q := 112) dX7_composes_111 rfl rfl ?_
        refine v_bipush (v := (nI 100)) (q := 114) dX7_composes_112 rfl (by decide) ?_
        refine v_iload_n (q := 115) dX7_composes_114 rfl rfl ?_
        refine v_callV (As := [.int v3, .int (nI 100), .int v1]) (n := 3) (q := 118) dX7_composes_115 rfl lk_7_138 hd1 rfl rfl (Nat.le_of_ble_eq_true rfl) (CT.imp h (fun r s8 h => ?_))
        obtain ⟨x7, rfl, h⟩ := h
        show VV mX7_composes d s00 118 [some (.ref 11), some (.int v1), some (.int v2), some (.int v3), none, none] [.int x7, .int (s6.1 42 (v2 + x5).toNatClampNeg)] s8 (Qv K)
        refine v_iadd (q := 119) dX7_composes_118 rfl ?_
        refine v_istore (q := 121) dX7_composes_119 rfl (by decide) rfl ?_
        refine v_iconst (v := (nI 1)) (q := 122) dX7_composes_121 rfl (by decide) ?_
        refine v_aload_n (q := 123) dX7_composes_122 rfl rfl ?_
        refine v_get (q := 126) dX7_composes_123 rfl fl_7_28 rfl rfl ?_
        refine v_iload_n (q := 127) dX7_composes_126 rfl rfl ?_
        refine v_aload_n (q := 128) dX7_composes_127 rfl rfl ?_
        refine v_iload_n (q := 129) dX7_composes_128 rfl rfl ?_
        refine v_iconst (v := (nI 1)) (q := 130) dX7_composes_129 rfl (by decide) ?_
        refine v_callV (As := [.int v3, .int (nI 1)]) (n := 2) (q := 133) dX7_composes_130 rfl lk_7_49 hd1 rfl rfl (Nat.le_of_ble_eq_true rfl) (CT.imp h (fun r s10 h => ?_))
        obtain ⟨x9, rfl, h⟩ := h
        show VV mX7_composes d s00 133 [some (.ref 11), some (.int v1), some (.int v2), some (.int v3), some (.int ((s6.1 42 (v2 + x5).toNatClampNeg) + x7)), none] [.int x9, .int v2, .ref 43, .int (nI 1)] s10 (Qv K)
        refine v_iadd (q := 134) dX7_composes_133 rfl ?_
        refine v_iald (q := 135) dX7_composes_134 rfl (isI_d rfl) h.1 ?_
        have h := h.2
        refine v_iadd (q := 136) dX7_composes_135 rfl ?_
        refine v_istore (q := 138) dX7_composes_136 rfl (by decide) rfl ?_
        refine v_aload_n (q := 139) dX7_composes_138 rfl rfl ?_
        refine v_get (q := 142) dX7_composes_139 rfl fl_7_25 rfl rfl ?_
        refine v_iload_n (q := 143) dX7_composes_142 rfl rfl ?_
        refine v_iald (q := 144) dX7_composes_143 rfl (isI_d rfl) h.1 ?_
        have h := h.2
        refine v_ldc (v := (-1000000)) (q := 146) dX7_composes_144 rfl cn_7_121 ?_
        refine v_icmp_eq (t := 182) (q := 149) dX7_composes_146 rfl (by decide) (fun c => ?_) (fun c => ?_)
        · have h := h.1 (c)
          exact h
        · have h := h.2 (c)
          refine v_iload (q := 151) dX7_composes_149 rfl rfl ?_
          refine v_aload_n (q := 152) dX7_composes_151 rfl rfl ?_
          refine v_get (q := 155) dX7_composes_152 rfl fl_7_25 rfl rfl ?_
          refine v_iload_n (q := 156) dX7_composes_155 rfl rfl ?_
          refine v_iald (q := 157) dX7_composes_156 rfl (isI_d rfl) h.1 ?_
          have h := h.2
          refine v_icmp_lt (t := 182) (q := 160) dX7_composes_157 rfl (by decide) (fun c => ?_) (fun c => ?_)
          · have h := h.1 (c)
            exact h
          · have h := h.2 (c)
            refine v_iload (q := 162) dX7_composes_160 rfl rfl ?_
            refine v_aload_n (q := 163) dX7_composes_162 rfl rfl ?_
            refine v_get (q := 166) dX7_composes_163 rfl fl_7_25 rfl rfl ?_
            refine v_iload_n (q := 167) dX7_composes_166 rfl rfl ?_
            refine v_iald (q := 168) dX7_composes_167 rfl (isI_d rfl) h.1 ?_
            have h := h.2
            refine v_icmp_ne (t := 205) (q := 171) dX7_composes_168 rfl (by decide) (fun c => ?_) (fun c => ?_)
            · have h := h.1 (c)
              exact v_msk [true, true, true, true, false, false] h
            · have h := h.2 (c)
              refine v_iload (q := 173) dX7_composes_171 rfl rfl ?_
              refine v_aload_n (q := 174) dX7_composes_173 rfl rfl ?_
              refine v_get (q := 177) dX7_composes_174 rfl fl_7_28 rfl rfl ?_
              refine v_iload_n (q := 178) dX7_composes_177 rfl rfl ?_
              refine v_iald (q := 179) dX7_composes_178 rfl (isI_d rfl) h.1 ?_
              have h := h.2
              refine v_icmp_ge (t := 205) (q := 182) dX7_composes_179 rfl (by decide) (fun c => ?_) (fun c => ?_)
              · have h := h.1 (c)
                exact v_msk [true, true, true, true, false, false] h
              · have h := h.2 (c)
                exact h
set_option maxRecDepth 20000 in
theorem bX7_composes_182 {d : Nat} {σ : SS} {K : SS → Prop} (v1 : Int32) (v2 : Int32) (v3 : Int32) (v4 : Int32) (v5 : Int32)   (h : (vp_in v2 11) ∧ ((vp_in v2 11) ∧ ((vp_in v2 11) ∧ (VV mX7_composes d s00 205 [some (.ref 11), some (.int v1), some (.int v2), some (.int v3), none, none] [] (sA (sA (sA σ 42 v2.toNatClampNeg v4) 43 v2.toNatClampNeg v5) 44 v2.toNatClampNeg v3) (Qv K))))) : VV mX7_composes d s00 182 [some (.ref 11), some (.int v1), some (.int v2), some (.int v3), some (.int v4), some (.int v5)] [] σ (Qv K) := by
  refine v_aload_n (q := 183) dX7_composes_182 rfl rfl ?_
  refine v_get (q := 186) dX7_composes_183 rfl fl_7_25 rfl rfl ?_
  refine v_iload_n (q := 187) dX7_composes_186 rfl rfl ?_
  refine v_iload (q := 189) dX7_composes_187 rfl rfl ?_
  refine v_iast (q := 190) dX7_composes_189 rfl (isI_d rfl) h.1 ?_
  have h := h.2
  refine v_aload_n (q := 191) dX7_composes_190 rfl rfl ?_
  refine v_get (q := 194) dX7_composes_191 rfl fl_7_28 rfl rfl ?_
  refine v_iload_n (q := 195) dX7_composes_194 rfl rfl ?_
  refine v_iload (q := 197) dX7_composes_195 rfl rfl ?_
  refine v_iast (q := 198) dX7_composes_197 rfl (isI_d rfl) h.1 ?_
  have h := h.2
  refine v_aload_n (q := 199) dX7_composes_198 rfl rfl ?_
  refine v_get (q := 202) dX7_composes_199 rfl fl_7_31 rfl rfl ?_
  refine v_iload_n (q := 203) dX7_composes_202 rfl rfl ?_
  refine v_iload_n (q := 204) dX7_composes_203 rfl rfl ?_
  refine v_iast (q := 205) dX7_composes_204 rfl (isI_d rfl) h.1 ?_
  have h := h.2
  exact v_msk [true, true, true, true, false, false] h
set_option maxRecDepth 20000 in
theorem bX7_composes_205 {d : Nat} {σ : SS} {K : SS → Prop} (v1 : Int32) (v2 : Int32) (v3 : Int32)   (h : VV mX7_composes d s00 60 [some (.ref 11), some (.int v1), some (.int v2), some (.int (v3 + nI 1)), none, none] [] σ (Qv K)) : VV mX7_composes d s00 205 [some (.ref 11), some (.int v1), some (.int v2), some (.int v3), none, none] [] σ (Qv K) := by
  refine v_iinc (y := (v3 + nI 1)) (q := 208) dX7_composes_205 rfl rfl (congrArg (fun z => v3 + z) (by decide)) (by decide) rfl ?_
  refine v_goto (q := 60) dX7_composes_208 (by decide) ?_
  exact h
set_option maxRecDepth 20000 in
theorem bX7_cheapest_0 {d : Nat} {σ : SS} {K : Int32 → SS → Prop} (p1 : Int32)  (hd1 : 1 ≤ d) (h : CTi mX7_isMember (d - 1) [.ref 11, .int p1] σ (fun x1 s2 => ((¬ x1 = 0) → (CTi mX7_textFault (d - 1) [.ref 11] s2 (fun x3 s4 => ((x3 = (-1000000)) → (CTv mX7_composes (d - 1) [.ref 11, .int p1] s4 (fun s6 => (vp_in (nI 0) 11) ∧ (K (s6.1 42 (nI 0).toNatClampNeg) s6)))) ∧ ((¬ x3 = (-1000000)) → (K (-1000003) s4))))) ∧ ((x1 = 0) → (K (-1000001) s2)))) : VV mX7_cheapest d s00 0 [some (.ref 11), some (.int p1)] [] σ (Qi K) := by
  refine v_aload_n (q := 1) dX7_cheapest_0 rfl rfl ?_
  refine v_iload_n (q := 2) dX7_cheapest_1 rfl rfl ?_
  refine v_callV (As := [.int p1]) (n := 1) (q := 5) dX7_cheapest_2 rfl lk_7_83 hd1 rfl rfl (Nat.le_of_ble_eq_true rfl) (CT.imp h (fun r s2 h => ?_))
  obtain ⟨x1, rfl, h⟩ := h
  show VV mX7_cheapest d s00 5 [some (.ref 11), some (.int p1)] [.int x1] s2 (Qi K)
  refine v_if_ne (t := 11) (q := 8) dX7_cheapest_5 rfl (by decide) (fun c => ?_) (fun c => ?_)
  · have h := h.1 (c)
    refine v_aload_n (q := 12) dX7_cheapest_11 rfl rfl ?_
    refine v_callV (As := []) (n := 0) (q := 15) dX7_cheapest_12 rfl lk_7_125 hd1 rfl rfl (Nat.le_of_ble_eq_true rfl) (CT.imp h (fun r s4 h => ?_))
    obtain ⟨x3, rfl, h⟩ := h
    show VV mX7_cheapest d s00 15 [some (.ref 11), some (.int p1)] [.int x3] s4 (Qi K)
    refine v_ldc (v := (-1000000)) (q := 17) dX7_cheapest_15 rfl cn_7_121 ?_
    refine v_icmp_eq (t := 23) (q := 20) dX7_cheapest_17 rfl (by decide) (fun c => ?_) (fun c => ?_)
    · have h := h.1 (c)
      refine v_aload_n (q := 24) dX7_cheapest_23 rfl rfl ?_
      refine v_iload_n (q := 25) dX7_cheapest_24 rfl rfl ?_
      refine v_callV (As := [.int p1]) (n := 1) (q := 28) dX7_cheapest_25 rfl lk_7_154 hd1 rfl rfl (Nat.le_of_ble_eq_true rfl) (CT.imp h (fun r s6 h => ?_))
      obtain ⟨rfl, h⟩ := h
      show VV mX7_cheapest d s00 28 [some (.ref 11), some (.int p1)] [] s6 (Qi K)
      refine v_aload_n (q := 29) dX7_cheapest_28 rfl rfl ?_
      refine v_get (q := 32) dX7_cheapest_29 rfl fl_7_25 rfl rfl ?_
      refine v_iconst (v := (nI 0)) (q := 33) dX7_cheapest_32 rfl (by decide) ?_
      refine v_iald (q := 34) dX7_cheapest_33 rfl (isI_d rfl) h.1 ?_
      have h := h.2
      exact v_iret dX7_cheapest_34 rfl ⟨_, rfl, h⟩
    · have h := h.2 (c)
      refine v_ldc (v := (-1000003)) (q := 22) dX7_cheapest_20 rfl cn_7_128 ?_
      exact v_iret dX7_cheapest_22 rfl ⟨_, rfl, h⟩
  · have h := h.2 (c)
    refine v_ldc (v := (-1000001)) (q := 10) dX7_cheapest_8 rfl cn_7_87 ?_
    exact v_iret dX7_cheapest_10 rfl ⟨_, rfl, h⟩
theorem eX7_cheapest {d : Nat} {σ : SS} {K : Int32 → SS → Prop} (p1 : Int32)  (hd1 : 1 ≤ d) (h : CTi mX7_isMember (d - 1) [.ref 11, .int p1] σ (fun x1 s2 => ((¬ x1 = 0) → (CTi mX7_textFault (d - 1) [.ref 11] s2 (fun x3 s4 => ((x3 = (-1000000)) → (CTv mX7_composes (d - 1) [.ref 11, .int p1] s4 (fun s6 => (vp_in (nI 0) 11) ∧ (K (s6.1 42 (nI 0).toNatClampNeg) s6)))) ∧ ((¬ x3 = (-1000000)) → (K (-1000003) s4))))) ∧ ((x1 = 0) → (K (-1000001) s2)))) : CTi mX7_cheapest d [.ref 11, .int p1] σ K := CT_of (Q := (Qi K)) (by decide +kernel) rfl (by decide) (Nat.le_of_ble_eq_true rfl) rfl (bX7_cheapest_0 p1 hd1 h)
set_option maxRecDepth 20000 in
theorem bX7_piece_0 {d : Nat} {σ : SS} {K : Int32 → SS → Prop} (p1 : Int32) (p2 : Int32)  (hd1 : 1 ≤ d) (h : CTi mX7_isMember (d - 1) [.ref 11, .int p1] σ (fun x1 s2 => ((¬ x1 = 0) → (((0 ≤ p2) → (CTi mX7_textFault (d - 1) [.ref 11] s2 (fun x3 s4 => ((x3 = (-1000000)) → (CTv mX7_composes (d - 1) [.ref 11, .int p1] s4 (fun s6 => (vp_in (nI 0) 11) ∧ ((((s6.1 42 (nI 0).toNatClampNeg) = (-1000000)) → (K (-1000000) s6)) ∧ ((¬ (s6.1 42 (nI 0).toNatClampNeg) = (-1000000)) → ((vp_in (nI 0) 11) ∧ (((p2 < (s6.1 43 (nI 0).toNatClampNeg)) → (VV mX7_piece d s00 64 [some (.ref 11), some (.int p1), some (.int p2), some (.int (nI 0)), some (.int (nI 0))] [] s6 (Qi K))) ∧ ((¬ p2 < (s6.1 43 (nI 0).toNatClampNeg)) → (K (-1000000) s6))))))))) ∧ ((¬ x3 = (-1000000)) → (K (-1000003) s4))))) ∧ ((¬ 0 ≤ p2) → (K (-1000002) s2)))) ∧ ((x1 = 0) → (K (-1000001) s2)))) : VV mX7_piece d s00 0 [some (.ref 11), some (.int p1), some (.int p2), none, none] [] σ (Qi K) := by
  refine v_aload_n (q := 1) dX7_piece_0 rfl rfl ?_
  refine v_iload_n (q := 2) dX7_piece_1 rfl rfl ?_
  refine v_callV (As := [.int p1]) (n := 1) (q := 5) dX7_piece_2 rfl lk_7_83 hd1 rfl rfl (Nat.le_of_ble_eq_true rfl) (CT.imp h (fun r s2 h => ?_))
  obtain ⟨x1, rfl, h⟩ := h
  show VV mX7_piece d s00 5 [some (.ref 11), some (.int p1), some (.int p2), none, none] [.int x1] s2 (Qi K)
  refine v_if_ne (t := 11) (q := 8) dX7_piece_5 rfl (by decide) (fun c => ?_) (fun c => ?_)
  · have h := h.1 (c)
    refine v_iload_n (q := 12) dX7_piece_11 rfl rfl ?_
    refine v_if_ge (t := 18) (q := 15) dX7_piece_12 rfl (by decide) (fun c => ?_) (fun c => ?_)
    · have h := h.1 (c)
      refine v_aload_n (q := 19) dX7_piece_18 rfl rfl ?_
      refine v_callV (As := []) (n := 0) (q := 22) dX7_piece_19 rfl lk_7_125 hd1 rfl rfl (Nat.le_of_ble_eq_true rfl) (CT.imp h (fun r s4 h => ?_))
      obtain ⟨x3, rfl, h⟩ := h
      show VV mX7_piece d s00 22 [some (.ref 11), some (.int p1), some (.int p2), none, none] [.int x3] s4 (Qi K)
      refine v_ldc (v := (-1000000)) (q := 24) dX7_piece_22 rfl cn_7_121 ?_
      refine v_icmp_eq (t := 30) (q := 27) dX7_piece_24 rfl (by decide) (fun c => ?_) (fun c => ?_)
      · have h := h.1 (c)
        refine v_aload_n (q := 31) dX7_piece_30 rfl rfl ?_
        refine v_iload_n (q := 32) dX7_piece_31 rfl rfl ?_
        refine v_callV (As := [.int p1]) (n := 1) (q := 35) dX7_piece_32 rfl lk_7_154 hd1 rfl rfl (Nat.le_of_ble_eq_true rfl) (CT.imp h (fun r s6 h => ?_))
        obtain ⟨rfl, h⟩ := h
        show VV mX7_piece d s00 35 [some (.ref 11), some (.int p1), some (.int p2), none, none] [] s6 (Qi K)
        refine v_aload_n (q := 36) dX7_piece_35 rfl rfl ?_
        refine v_get (q := 39) dX7_piece_36 rfl fl_7_25 rfl rfl ?_
        refine v_iconst (v := (nI 0)) (q := 40) dX7_piece_39 rfl (by decide) ?_
        refine v_iald (q := 41) dX7_piece_40 rfl (isI_d rfl) h.1 ?_
        have h := h.2
        refine v_ldc (v := (-1000000)) (q := 43) dX7_piece_41 rfl cn_7_121 ?_
        refine v_icmp_eq (t := 56) (q := 46) dX7_piece_43 rfl (by decide) (fun c => ?_) (fun c => ?_)
        · have h := h.1 (c)
          refine v_ldc (v := (-1000000)) (q := 58) dX7_piece_56 rfl cn_7_121 ?_
          exact v_iret dX7_piece_58 rfl ⟨_, rfl, h⟩
        · have h := h.2 (c)
          refine v_iload_n (q := 47) dX7_piece_46 rfl rfl ?_
          refine v_aload_n (q := 48) dX7_piece_47 rfl rfl ?_
          refine v_get (q := 51) dX7_piece_48 rfl fl_7_28 rfl rfl ?_
          refine v_iconst (v := (nI 0)) (q := 52) dX7_piece_51 rfl (by decide) ?_
          refine v_iald (q := 53) dX7_piece_52 rfl (isI_d rfl) h.1 ?_
          have h := h.2
          refine v_icmp_lt (t := 59) (q := 56) dX7_piece_53 rfl (by decide) (fun c => ?_) (fun c => ?_)
          · have h := h.1 (c)
            refine v_iconst (v := (nI 0)) (q := 60) dX7_piece_59 rfl (by decide) ?_
            refine v_istore_n (q := 61) dX7_piece_60 rfl (by decide) rfl ?_
            refine v_iconst (v := (nI 0)) (q := 62) dX7_piece_61 rfl (by decide) ?_
            refine v_istore (q := 64) dX7_piece_62 rfl (by decide) rfl ?_
            exact h
          · have h := h.2 (c)
            refine v_ldc (v := (-1000000)) (q := 58) dX7_piece_56 rfl cn_7_121 ?_
            exact v_iret dX7_piece_58 rfl ⟨_, rfl, h⟩
      · have h := h.2 (c)
        refine v_ldc (v := (-1000003)) (q := 29) dX7_piece_27 rfl cn_7_128 ?_
        exact v_iret dX7_piece_29 rfl ⟨_, rfl, h⟩
    · have h := h.2 (c)
      refine v_ldc (v := (-1000002)) (q := 17) dX7_piece_15 rfl cn_7_88 ?_
      exact v_iret dX7_piece_17 rfl ⟨_, rfl, h⟩
  · have h := h.2 (c)
    refine v_ldc (v := (-1000001)) (q := 10) dX7_piece_8 rfl cn_7_87 ?_
    exact v_iret dX7_piece_10 rfl ⟨_, rfl, h⟩
theorem eX7_piece {d : Nat} {σ : SS} {K : Int32 → SS → Prop} (p1 : Int32) (p2 : Int32)  (hd1 : 1 ≤ d) (h : CTi mX7_isMember (d - 1) [.ref 11, .int p1] σ (fun x1 s2 => ((¬ x1 = 0) → (((0 ≤ p2) → (CTi mX7_textFault (d - 1) [.ref 11] s2 (fun x3 s4 => ((x3 = (-1000000)) → (CTv mX7_composes (d - 1) [.ref 11, .int p1] s4 (fun s6 => (vp_in (nI 0) 11) ∧ ((((s6.1 42 (nI 0).toNatClampNeg) = (-1000000)) → (K (-1000000) s6)) ∧ ((¬ (s6.1 42 (nI 0).toNatClampNeg) = (-1000000)) → ((vp_in (nI 0) 11) ∧ (((p2 < (s6.1 43 (nI 0).toNatClampNeg)) → (VV mX7_piece d s00 64 [some (.ref 11), some (.int p1), some (.int p2), some (.int (nI 0)), some (.int (nI 0))] [] s6 (Qi K))) ∧ ((¬ p2 < (s6.1 43 (nI 0).toNatClampNeg)) → (K (-1000000) s6))))))))) ∧ ((¬ x3 = (-1000000)) → (K (-1000003) s4))))) ∧ ((¬ 0 ≤ p2) → (K (-1000002) s2)))) ∧ ((x1 = 0) → (K (-1000001) s2)))) : CTi mX7_piece d [.ref 11, .int p1, .int p2] σ K := CT_of (Q := (Qi K)) (by decide +kernel) rfl (by decide) (Nat.le_of_ble_eq_true rfl) rfl (bX7_piece_0 p1 p2 hd1 h)
set_option maxRecDepth 20000 in
theorem bX7_piece_64 {d : Nat} {σ : SS} {K : Int32 → SS → Prop} (v1 : Int32) (v2 : Int32) (v3 : Int32) (v4 : Int32)  (hd1 : 1 ≤ d) (h : ((v2 ≤ v4) → ((vp_in v3 11) ∧ (K (σ.1 44 v3.toNatClampNeg) σ))) ∧ ((¬ v2 ≤ v4) → ((vp_in v3 11) ∧ (CTi mX7_of (d - 1) [.ref 11, .int (σ.1 44 v3.toNatClampNeg), .int (nI 1)] σ (fun x1 s2 => VV mX7_piece d s00 64 [some (.ref 11), some (.int v1), some (.int v2), some (.int (v3 + x1)), some (.int (v4 + nI 1))] [] s2 (Qi K)))))) : VV mX7_piece d s00 64 [some (.ref 11), some (.int v1), some (.int v2), some (.int v3), some (.int v4)] [] σ (Qi K) := by
  refine v_iload (q := 66) dX7_piece_64 rfl rfl ?_
  refine v_iload_n (q := 67) dX7_piece_66 rfl rfl ?_
  refine v_icmp_ge (t := 90) (q := 70) dX7_piece_67 rfl (by decide) (fun c => ?_) (fun c => ?_)
  · have h := h.1 (c)
    refine v_aload_n (q := 91) dX7_piece_90 rfl rfl ?_
    refine v_get (q := 94) dX7_piece_91 rfl fl_7_31 rfl rfl ?_
    refine v_iload_n (q := 95) dX7_piece_94 rfl rfl ?_
    refine v_iald (q := 96) dX7_piece_95 rfl (isI_d rfl) h.1 ?_
    have h := h.2
    exact v_iret dX7_piece_96 rfl ⟨_, rfl, h⟩
  · have h := h.2 (c)
    refine v_iload_n (q := 71) dX7_piece_70 rfl rfl ?_
    refine v_aload_n (q := 72) dX7_piece_71 rfl rfl ?_
    refine v_aload_n (q := 73) dX7_piece_72 rfl rfl ?_
    refine v_get (q := 76) dX7_piece_73 rfl fl_7_31 rfl rfl ?_
    refine v_iload_n (q := 77) dX7_piece_76 rfl rfl ?_
    refine v_iald (q := 78) dX7_piece_77 rfl (isI_d rfl) h.1 ?_
    have h := h.2
    refine v_iconst (v := (nI 1)) (q := 79) dX7_piece_78 rfl (by decide) ?_
    refine v_callV (As := [.int (σ.1 44 v3.toNatClampNeg), .int (nI 1)]) (n := 2) (q := 82) dX7_piece_79 rfl lk_7_49 hd1 rfl rfl (Nat.le_of_ble_eq_true rfl) (CT.imp h (fun r s2 h => ?_))
    obtain ⟨x1, rfl, h⟩ := h
    show VV mX7_piece d s00 82 [some (.ref 11), some (.int v1), some (.int v2), some (.int v3), some (.int v4)] [.int x1, .int v3] s2 (Qi K)
    refine v_iadd (q := 83) dX7_piece_82 rfl ?_
    refine v_istore_n (q := 84) dX7_piece_83 rfl (by decide) rfl ?_
    refine v_iinc (y := (v4 + nI 1)) (q := 87) dX7_piece_84 rfl rfl (congrArg (fun z => v4 + z) (by decide)) (by decide) rfl ?_
    refine v_goto (q := 64) dX7_piece_87 (by decide) ?_
    exact h
set_option maxRecDepth 20000 in
theorem bX7_type_0 {d : Nat} {σ : SS} {K : Int32 → SS → Prop} (p1 : Int32)  (hd1 : 1 ≤ d) (h : CTi mX7_in (d - 1) [.int p1, .int (nI 0), .int (nI 255)] σ (fun x1 s2 => ((¬ x1 = 0) → (((¬ (s2.2.1 10) = (nI 40)) → ((vp_in (s2.2.1 10) 40) ∧ (K ((sF (sA s2 45 (s2.2.1 10).toNatClampNeg p1) 10 (((sA s2 45 (s2.2.1 10).toNatClampNeg p1).2.1 10) + (nI 1))).2.1 10) (sF (sA s2 45 (s2.2.1 10).toNatClampNeg p1) 10 (((sA s2 45 (s2.2.1 10).toNatClampNeg p1).2.1 10) + (nI 1)))))) ∧ (((s2.2.1 10) = (nI 40)) → (K (-1000004) s2)))) ∧ ((x1 = 0) → (K (-1000002) s2)))) : VV mX7_type d s00 0 [some (.ref 11), some (.int p1)] [] σ (Qi K) := by
  refine v_iload_n (q := 1) dX7_type_0 rfl rfl ?_
  refine v_iconst (v := (nI 0)) (q := 2) dX7_type_1 rfl (by decide) ?_
  refine v_sipush (v := (nI 255)) (q := 5) dX7_type_2 rfl (by decide) ?_
  refine v_callS (As := [.int p1, .int (nI 0), .int (nI 255)]) (n := 3) (q := 8) dX7_type_5 rfl lk_7_45 hd1 rfl (Nat.le_of_ble_eq_true rfl) (CT.imp h (fun r s2 h => ?_))
  obtain ⟨x1, rfl, h⟩ := h
  show VV mX7_type d s00 8 [some (.ref 11), some (.int p1)] [.int x1] s2 (Qi K)
  refine v_if_ne (t := 14) (q := 11) dX7_type_8 rfl (by decide) (fun c => ?_) (fun c => ?_)
  · have h := h.1 (c)
    refine v_aload_n (q := 15) dX7_type_14 rfl rfl ?_
    refine v_get (q := 18) dX7_type_15 rfl fl_7_59 rfl rfl ?_
    refine v_bipush (v := (nI 40)) (q := 20) dX7_type_18 rfl (by decide) ?_
    refine v_icmp_ne (t := 26) (q := 23) dX7_type_20 rfl (by decide) (fun c => ?_) (fun c => ?_)
    · have h := h.1 (c)
      refine v_aload_n (q := 27) dX7_type_26 rfl rfl ?_
      refine v_get (q := 30) dX7_type_27 rfl fl_7_34 rfl rfl ?_
      refine v_aload_n (q := 31) dX7_type_30 rfl rfl ?_
      refine v_get (q := 34) dX7_type_31 rfl fl_7_59 rfl rfl ?_
      refine v_iload_n (q := 35) dX7_type_34 rfl rfl ?_
      refine v_iast (q := 36) dX7_type_35 rfl (isI_d rfl) h.1 ?_
      have h := h.2
      refine v_aload_n (q := 37) dX7_type_36 rfl rfl ?_
      refine v_dup (q := 38) dX7_type_37 rfl rfl ?_
      refine v_get (q := 41) dX7_type_38 rfl fl_7_59 rfl rfl ?_
      refine v_iconst (v := (nI 1)) (q := 42) dX7_type_41 rfl (by decide) ?_
      refine v_iadd (q := 43) dX7_type_42 rfl ?_
      refine v_put (q := 46) dX7_type_43 rfl fp_7_59 rfl rfl ?_
      refine v_aload_n (q := 47) dX7_type_46 rfl rfl ?_
      refine v_get (q := 50) dX7_type_47 rfl fl_7_59 rfl rfl ?_
      exact v_iret dX7_type_50 rfl ⟨_, rfl, h⟩
    · have h := h.2 (c)
      refine v_ldc (v := (-1000004)) (q := 25) dX7_type_23 rfl cn_7_79 ?_
      exact v_iret dX7_type_25 rfl ⟨_, rfl, h⟩
  · have h := h.2 (c)
    refine v_ldc (v := (-1000002)) (q := 13) dX7_type_11 rfl cn_7_88 ?_
    exact v_iret dX7_type_13 rfl ⟨_, rfl, h⟩
theorem eX7_type {d : Nat} {σ : SS} {K : Int32 → SS → Prop} (p1 : Int32)  (hd1 : 1 ≤ d) (h : CTi mX7_in (d - 1) [.int p1, .int (nI 0), .int (nI 255)] σ (fun x1 s2 => ((¬ x1 = 0) → (((¬ (s2.2.1 10) = (nI 40)) → ((vp_in (s2.2.1 10) 40) ∧ (K ((sF (sA s2 45 (s2.2.1 10).toNatClampNeg p1) 10 (((sA s2 45 (s2.2.1 10).toNatClampNeg p1).2.1 10) + (nI 1))).2.1 10) (sF (sA s2 45 (s2.2.1 10).toNatClampNeg p1) 10 (((sA s2 45 (s2.2.1 10).toNatClampNeg p1).2.1 10) + (nI 1)))))) ∧ (((s2.2.1 10) = (nI 40)) → (K (-1000004) s2)))) ∧ ((x1 = 0) → (K (-1000002) s2)))) : CTi mX7_type d [.ref 11, .int p1] σ K := CT_of (Q := (Qi K)) (by decide +kernel) rfl (by decide) (Nat.le_of_ble_eq_true rfl) rfl (bX7_type_0 p1 hd1 h)
set_option maxRecDepth 20000 in
theorem bX7_clearText_0 {d : Nat} {σ : SS} {K : Int32 → SS → Prop}    (h : K (σ.2.1 10) (sF σ 10 (nI 0))) : VV mX7_clearText d s00 0 [some (.ref 11), none] [] σ (Qi K) := by
  refine v_aload_n (q := 1) dX7_clearText_0 rfl rfl ?_
  refine v_get (q := 4) dX7_clearText_1 rfl fl_7_59 rfl rfl ?_
  refine v_istore_n (q := 5) dX7_clearText_4 rfl (by decide) rfl ?_
  refine v_aload_n (q := 6) dX7_clearText_5 rfl rfl ?_
  refine v_iconst (v := (nI 0)) (q := 7) dX7_clearText_6 rfl (by decide) ?_
  refine v_put (q := 10) dX7_clearText_7 rfl fp_7_59 rfl rfl ?_
  refine v_iload_n (q := 11) dX7_clearText_10 rfl rfl ?_
  exact v_iret dX7_clearText_11 rfl ⟨_, rfl, h⟩
theorem eX7_clearText {d : Nat} {σ : SS} {K : Int32 → SS → Prop}    (h : K (σ.2.1 10) (sF σ 10 (nI 0))) : CTi mX7_clearText d [.ref 11] σ K := CT_of (Q := (Qi K)) (by decide +kernel) rfl (by decide) (Nat.le_of_ble_eq_true rfl) rfl (bX7_clearText_0   h)
set_option maxRecDepth 20000 in
theorem bX7_textFault_0 {d : Nat} {σ : SS} {K : Int32 → SS → Prop}    (h : VV mX7_textFault d s00 4 [some (.ref 11), some (.int (nI 0)), some (.int (nI 0)), none] [] σ (Qi K)) : VV mX7_textFault d s00 0 [some (.ref 11), none, none, none] [] σ (Qi K) := by
  refine v_iconst (v := (nI 0)) (q := 1) dX7_textFault_0 rfl (by decide) ?_
  refine v_istore_n (q := 2) dX7_textFault_1 rfl (by decide) rfl ?_
  refine v_iconst (v := (nI 0)) (q := 3) dX7_textFault_2 rfl (by decide) ?_
  refine v_istore_n (q := 4) dX7_textFault_3 rfl (by decide) rfl ?_
  exact h
theorem eX7_textFault {d : Nat} {σ : SS} {K : Int32 → SS → Prop}    (h : VV mX7_textFault d s00 4 [some (.ref 11), some (.int (nI 0)), some (.int (nI 0)), none] [] σ (Qi K)) : CTi mX7_textFault d [.ref 11] σ K := CT_of (Q := (Qi K)) (by decide +kernel) rfl (by decide) (Nat.le_of_ble_eq_true rfl) rfl (bX7_textFault_0   h)
set_option maxRecDepth 20000 in
theorem bX7_textFault_4 {d : Nat} {σ : SS} {K : Int32 → SS → Prop} (v1 : Int32) (v2 : Int32)  (hd1 : 1 ≤ d) (h : (((σ.2.1 10) ≤ v2) → (((¬ v1 = 0) → (K (-1000000) σ)) ∧ ((v1 = 0) → (K (σ.2.1 10) σ)))) ∧ ((¬ (σ.2.1 10) ≤ v2) → ((vp_in v2 40) ∧ (CTi mX7_in (d - 1) [.int (σ.1 45 v2.toNatClampNeg), .int (nI 97), .int (nI 122)] σ (fun x1 s2 => ((x1 = 0) → ((((nI 10) < (v1 + (nI 0))) → (K v2 s2)) ∧ ((¬ (nI 10) < (v1 + (nI 0))) → (((¬ x1 = 0) → (VV mX7_textFault d s00 4 [some (.ref 11), some (.int (v1 + (nI 0))), some (.int (v2 + nI 1)), none] [] s2 (Qi K))) ∧ ((x1 = 0) → ((vp_in v2 40) ∧ ((((s2.1 45 v2.toNatClampNeg) = (nI 32)) → (VV mX7_textFault d s00 4 [some (.ref 11), some (.int (v1 + (nI 0))), some (.int (v2 + nI 1)), none] [] s2 (Qi K))) ∧ ((¬ (s2.1 45 v2.toNatClampNeg) = (nI 32)) → (K v2 s2))))))))) ∧ ((¬ x1 = 0) → ((((nI 10) < (v1 + (nI 1))) → (K v2 s2)) ∧ ((¬ (nI 10) < (v1 + (nI 1))) → (((¬ x1 = 0) → (VV mX7_textFault d s00 4 [some (.ref 11), some (.int (v1 + (nI 1))), some (.int (v2 + nI 1)), none] [] s2 (Qi K))) ∧ ((x1 = 0) → ((vp_in v2 40) ∧ ((((s2.1 45 v2.toNatClampNeg) = (nI 32)) → (VV mX7_textFault d s00 4 [some (.ref 11), some (.int (v1 + (nI 1))), some (.int (v2 + nI 1)), none] [] s2 (Qi K))) ∧ ((¬ (s2.1 45 v2.toNatClampNeg) = (nI 32)) → (K v2 s2)))))))))))))) : VV mX7_textFault d s00 4 [some (.ref 11), some (.int v1), some (.int v2), none] [] σ (Qi K) := by
  refine v_iload_n (q := 5) dX7_textFault_4 rfl rfl ?_
  refine v_aload_n (q := 6) dX7_textFault_5 rfl rfl ?_
  refine v_get (q := 9) dX7_textFault_6 rfl fl_7_59 rfl rfl ?_
  refine v_icmp_ge (t := 67) (q := 12) dX7_textFault_9 rfl (by decide) (fun c => ?_) (fun c => ?_)
  · have h := h.1 (c)
    refine v_iload_n (q := 68) dX7_textFault_67 rfl rfl ?_
    refine v_if_ne (t := 78) (q := 71) dX7_textFault_68 rfl (by decide) (fun c => ?_) (fun c => ?_)
    · have h := h.1 (c)
      refine v_ldc (v := (-1000000)) (q := 80) dX7_textFault_78 rfl cn_7_121 ?_
      exact v_iret dX7_textFault_80 rfl ⟨_, rfl, h⟩
    · have h := h.2 (c)
      refine v_aload_n (q := 72) dX7_textFault_71 rfl rfl ?_
      refine v_get (q := 75) dX7_textFault_72 rfl fl_7_59 rfl rfl ?_
      refine v_goto (q := 80) dX7_textFault_75 (by decide) ?_
      exact v_iret dX7_textFault_80 rfl ⟨_, rfl, h⟩
  · have h := h.2 (c)
    refine v_aload_n (q := 13) dX7_textFault_12 rfl rfl ?_
    refine v_get (q := 16) dX7_textFault_13 rfl fl_7_34 rfl rfl ?_
    refine v_iload_n (q := 17) dX7_textFault_16 rfl rfl ?_
    refine v_iald (q := 18) dX7_textFault_17 rfl (isI_d rfl) h.1 ?_
    have h := h.2
    refine v_bipush (v := (nI 97)) (q := 20) dX7_textFault_18 rfl (by decide) ?_
    refine v_bipush (v := (nI 122)) (q := 22) dX7_textFault_20 rfl (by decide) ?_
    refine v_callS (As := [.int (σ.1 45 v2.toNatClampNeg), .int (nI 97), .int (nI 122)]) (n := 3) (q := 25) dX7_textFault_22 rfl lk_7_45 hd1 rfl (Nat.le_of_ble_eq_true rfl) (CT.imp h (fun r s2 h => ?_))
    obtain ⟨x1, rfl, h⟩ := h
    show VV mX7_textFault d s00 25 [some (.ref 11), some (.int v1), some (.int v2), none] [.int x1] s2 (Qi K)
    refine v_istore_n (q := 26) dX7_textFault_25 rfl (by decide) rfl ?_
    refine v_iload_n (q := 27) dX7_textFault_26 rfl rfl ?_
    refine v_iload_n (q := 28) dX7_textFault_27 rfl rfl ?_
    refine v_if_eq (t := 35) (q := 31) dX7_textFault_28 rfl (by decide) (fun c => ?_) (fun c => ?_)
    · have h := h.1 (c)
      refine v_iconst (v := (nI 0)) (q := 36) dX7_textFault_35 rfl (by decide) ?_
      refine v_iadd (q := 37) dX7_textFault_36 rfl ?_
      refine v_istore_n (q := 38) dX7_textFault_37 rfl (by decide) rfl ?_
      refine v_iload_n (q := 39) dX7_textFault_38 rfl rfl ?_
      refine v_bipush (v := (nI 10)) (q := 41) dX7_textFault_39 rfl (by decide) ?_
      refine v_icmp_gt (t := 59) (q := 44) dX7_textFault_41 rfl (by decide) (fun c => ?_) (fun c => ?_)
      · have h := h.1 (c)
        refine v_iload_n (q := 60) dX7_textFault_59 rfl rfl ?_
        exact v_iret dX7_textFault_60 rfl ⟨_, rfl, h⟩
      · have h := h.2 (c)
        refine v_iload_n (q := 45) dX7_textFault_44 rfl rfl ?_
        refine v_if_ne (t := 61) (q := 48) dX7_textFault_45 rfl (by decide) (fun c => ?_) (fun c => ?_)
        · have h := h.1 (c)
          refine v_iinc (y := (v2 + nI 1)) (q := 64) dX7_textFault_61 rfl rfl (congrArg (fun z => v2 + z) (by decide)) (by decide) rfl ?_
          refine v_goto (q := 4) dX7_textFault_64 (by decide) ?_
          exact v_msk [true, true, true, false] h
        · have h := h.2 (c)
          refine v_aload_n (q := 49) dX7_textFault_48 rfl rfl ?_
          refine v_get (q := 52) dX7_textFault_49 rfl fl_7_34 rfl rfl ?_
          refine v_iload_n (q := 53) dX7_textFault_52 rfl rfl ?_
          refine v_iald (q := 54) dX7_textFault_53 rfl (isI_d rfl) h.1 ?_
          have h := h.2
          refine v_bipush (v := (nI 32)) (q := 56) dX7_textFault_54 rfl (by decide) ?_
          refine v_icmp_eq (t := 61) (q := 59) dX7_textFault_56 rfl (by decide) (fun c => ?_) (fun c => ?_)
          · have h := h.1 (c)
            refine v_iinc (y := (v2 + nI 1)) (q := 64) dX7_textFault_61 rfl rfl (congrArg (fun z => v2 + z) (by decide)) (by decide) rfl ?_
            refine v_goto (q := 4) dX7_textFault_64 (by decide) ?_
            exact v_msk [true, true, true, false] h
          · have h := h.2 (c)
            refine v_iload_n (q := 60) dX7_textFault_59 rfl rfl ?_
            exact v_iret dX7_textFault_60 rfl ⟨_, rfl, h⟩
    · have h := h.2 (c)
      refine v_iconst (v := (nI 1)) (q := 32) dX7_textFault_31 rfl (by decide) ?_
      refine v_goto (q := 36) dX7_textFault_32 (by decide) ?_
      refine v_iadd (q := 37) dX7_textFault_36 rfl ?_
      refine v_istore_n (q := 38) dX7_textFault_37 rfl (by decide) rfl ?_
      refine v_iload_n (q := 39) dX7_textFault_38 rfl rfl ?_
      refine v_bipush (v := (nI 10)) (q := 41) dX7_textFault_39 rfl (by decide) ?_
      refine v_icmp_gt (t := 59) (q := 44) dX7_textFault_41 rfl (by decide) (fun c => ?_) (fun c => ?_)
      · have h := h.1 (c)
        refine v_iload_n (q := 60) dX7_textFault_59 rfl rfl ?_
        exact v_iret dX7_textFault_60 rfl ⟨_, rfl, h⟩
      · have h := h.2 (c)
        refine v_iload_n (q := 45) dX7_textFault_44 rfl rfl ?_
        refine v_if_ne (t := 61) (q := 48) dX7_textFault_45 rfl (by decide) (fun c => ?_) (fun c => ?_)
        · have h := h.1 (c)
          refine v_iinc (y := (v2 + nI 1)) (q := 64) dX7_textFault_61 rfl rfl (congrArg (fun z => v2 + z) (by decide)) (by decide) rfl ?_
          refine v_goto (q := 4) dX7_textFault_64 (by decide) ?_
          exact v_msk [true, true, true, false] h
        · have h := h.2 (c)
          refine v_aload_n (q := 49) dX7_textFault_48 rfl rfl ?_
          refine v_get (q := 52) dX7_textFault_49 rfl fl_7_34 rfl rfl ?_
          refine v_iload_n (q := 53) dX7_textFault_52 rfl rfl ?_
          refine v_iald (q := 54) dX7_textFault_53 rfl (isI_d rfl) h.1 ?_
          have h := h.2
          refine v_bipush (v := (nI 32)) (q := 56) dX7_textFault_54 rfl (by decide) ?_
          refine v_icmp_eq (t := 61) (q := 59) dX7_textFault_56 rfl (by decide) (fun c => ?_) (fun c => ?_)
          · have h := h.1 (c)
            refine v_iinc (y := (v2 + nI 1)) (q := 64) dX7_textFault_61 rfl rfl (congrArg (fun z => v2 + z) (by decide)) (by decide) rfl ?_
            refine v_goto (q := 4) dX7_textFault_64 (by decide) ?_
            exact v_msk [true, true, true, false] h
          · have h := h.2 (c)
            refine v_iload_n (q := 60) dX7_textFault_59 rfl rfl ?_
            exact v_iret dX7_textFault_60 rfl ⟨_, rfl, h⟩
set_option maxRecDepth 20000 in
theorem bX7_undo_0 {d : Nat} {σ : SS} {K : Int32 → SS → Prop}   (hd1 : 1 ≤ d) (h : ((¬ (σ.2.1 7) = 0) → (CTv mX7_copies (d - 1) [.ref 11, .int ((nI 654) * (σ.2.1 7)), .int (nI 0)] σ (fun s2 => K ((sF s2 7 ((s2.2.1 7) - (nI 1))).2.1 7) (sF s2 7 ((s2.2.1 7) - (nI 1)))))) ∧ (((σ.2.1 7) = 0) → (K (-1000003) σ))) : VV mX7_undo d s00 0 [some (.ref 11)] [] σ (Qi K) := by
  refine v_aload_n (q := 1) dX7_undo_0 rfl rfl ?_
  refine v_get (q := 4) dX7_undo_1 rfl fl_7_37 rfl rfl ?_
  refine v_if_ne (t := 10) (q := 7) dX7_undo_4 rfl (by decide) (fun c => ?_) (fun c => ?_)
  · have h := h.1 (c)
    refine v_aload_n (q := 11) dX7_undo_10 rfl rfl ?_
    refine v_sipush (v := (nI 654)) (q := 14) dX7_undo_11 rfl (by decide) ?_
    refine v_aload_n (q := 15) dX7_undo_14 rfl rfl ?_
    refine v_get (q := 18) dX7_undo_15 rfl fl_7_37 rfl rfl ?_
    refine v_imul (q := 19) dX7_undo_18 rfl ?_
    refine v_iconst (v := (nI 0)) (q := 20) dX7_undo_19 rfl (by decide) ?_
    refine v_callV (As := [.int ((nI 654) * (σ.2.1 7)), .int (nI 0)]) (n := 2) (q := 23) dX7_undo_20 rfl lk_7_41 hd1 rfl rfl (Nat.le_of_ble_eq_true rfl) (CT.imp h (fun r s2 h => ?_))
    obtain ⟨rfl, h⟩ := h
    show VV mX7_undo d s00 23 [some (.ref 11)] [] s2 (Qi K)
    refine v_aload_n (q := 24) dX7_undo_23 rfl rfl ?_
    refine v_dup (q := 25) dX7_undo_24 rfl rfl ?_
    refine v_get (q := 28) dX7_undo_25 rfl fl_7_37 rfl rfl ?_
    refine v_iconst (v := (nI 1)) (q := 29) dX7_undo_28 rfl (by decide) ?_
    refine v_isub (q := 30) dX7_undo_29 rfl ?_
    refine v_put (q := 33) dX7_undo_30 rfl fp_7_37 rfl rfl ?_
    refine v_aload_n (q := 34) dX7_undo_33 rfl rfl ?_
    refine v_get (q := 37) dX7_undo_34 rfl fl_7_37 rfl rfl ?_
    exact v_iret dX7_undo_37 rfl ⟨_, rfl, h⟩
  · have h := h.2 (c)
    refine v_ldc (v := (-1000003)) (q := 9) dX7_undo_7 rfl cn_7_128 ?_
    exact v_iret dX7_undo_9 rfl ⟨_, rfl, h⟩
theorem eX7_undo {d : Nat} {σ : SS} {K : Int32 → SS → Prop}   (hd1 : 1 ≤ d) (h : ((¬ (σ.2.1 7) = 0) → (CTv mX7_copies (d - 1) [.ref 11, .int ((nI 654) * (σ.2.1 7)), .int (nI 0)] σ (fun s2 => K ((sF s2 7 ((s2.2.1 7) - (nI 1))).2.1 7) (sF s2 7 ((s2.2.1 7) - (nI 1)))))) ∧ (((σ.2.1 7) = 0) → (K (-1000003) σ))) : CTi mX7_undo d [.ref 11] σ K := CT_of (Q := (Qi K)) (by decide +kernel) rfl (by decide) (Nat.le_of_ble_eq_true rfl) rfl (bX7_undo_0  hd1 h)
set_option maxRecDepth 20000 in
theorem bX7_adds_0 {d : Nat} {σ : SS} {K : SS → Prop} (p1 : Int64)   (h : K (sH σ (((31) * σ.2.2) + p1))) : VV mX7_adds d s00 0 [some (.ref 11), some (.long p1), none] [] σ (Qv K) := by
  refine v_aload_n (q := 1) dX7_adds_0 rfl rfl ?_
  refine v_ldc2 (v := (31)) (q := 4) dX7_adds_1 rfl cn_7_157 ?_
  refine v_aload_n (q := 5) dX7_adds_4 rfl rfl ?_
  refine v_get (q := 8) dX7_adds_5 rfl fl_7_159 rfl rfl ?_
  refine v_lmul (q := 9) dX7_adds_8 rfl ?_
  refine v_lload_n (q := 10) dX7_adds_9 rfl rfl ?_
  refine v_ladd (q := 11) dX7_adds_10 rfl ?_
  refine v_putL (q := 14) dX7_adds_11 rfl fp_7_159 rfl ?_
  exact v_ret0 dX7_adds_14 rfl ⟨rfl, h⟩
theorem eX7_adds {d : Nat} {σ : SS} {K : SS → Prop} (p1 : Int64)   (h : K (sH σ (((31) * σ.2.2) + p1))) : CTv mX7_adds d [.ref 11, .long p1] σ K := CT_of (Q := (Qv K)) (by decide +kernel) rfl (by decide) (Nat.le_of_ble_eq_true rfl) rfl (bX7_adds_0 p1  h)
set_option maxRecDepth 20000 in
theorem bX7_digest_0 {d : Nat} {σ : SS} {K : Int64 → SS → Prop}    (h : VV mX7_digest d s00 9 [some (.ref 11), some (.int (nI 0)), none] [] (sH σ (61)) (Ql K)) : VV mX7_digest d s00 0 [some (.ref 11), none, none] [] σ (Ql K) := by
  refine v_aload_n (q := 1) dX7_digest_0 rfl rfl ?_
  refine v_ldc2 (v := (61)) (q := 4) dX7_digest_1 rfl cn_7_163 ?_
  refine v_putL (q := 7) dX7_digest_4 rfl fp_7_159 rfl ?_
  refine v_iconst (v := (nI 0)) (q := 8) dX7_digest_7 rfl (by decide) ?_
  refine v_istore_n (q := 9) dX7_digest_8 rfl (by decide) rfl ?_
  exact h
theorem eX7_digest {d : Nat} {σ : SS} {K : Int64 → SS → Prop}    (h : VV mX7_digest d s00 9 [some (.ref 11), some (.int (nI 0)), none] [] (sH σ (61)) (Ql K)) : CTl mX7_digest d [.ref 11] σ K := CT_of (Q := (Ql K)) (by decide +kernel) rfl (by decide) (Nat.le_of_ble_eq_true rfl) rfl (bX7_digest_0   h)
set_option maxRecDepth 20000 in
theorem bX7_digest_9 {d : Nat} {σ : SS} {K : Int64 → SS → Prop} (v1 : Int32)  (hd1 : 1 ≤ d) (h : (((nI 13) ≤ v1) → (VV mX7_digest d s00 33 [some (.ref 11), some (.int (nI 0)), none] [] σ (Ql K))) ∧ ((¬ (nI 13) ≤ v1) → (CTi mX7_counted (d - 1) [.ref 11, .int v1] σ (fun x1 s2 => CTv mX7_adds (d - 1) [.ref 11, .long (x1).toInt64] s2 (fun s4 => VV mX7_digest d s00 9 [some (.ref 11), some (.int (v1 + nI 1)), none] [] s4 (Ql K)))))) : VV mX7_digest d s00 9 [some (.ref 11), some (.int v1), none] [] σ (Ql K) := by
  refine v_iload_n (q := 10) dX7_digest_9 rfl rfl ?_
  refine v_bipush (v := (nI 13)) (q := 12) dX7_digest_10 rfl (by decide) ?_
  refine v_icmp_ge (t := 31) (q := 15) dX7_digest_12 rfl (by decide) (fun c => ?_) (fun c => ?_)
  · have h := h.1 (c)
    refine v_iconst (v := (nI 0)) (q := 32) dX7_digest_31 rfl (by decide) ?_
    refine v_istore_n (q := 33) dX7_digest_32 rfl (by decide) rfl ?_
    exact h
  · have h := h.2 (c)
    refine v_aload_n (q := 16) dX7_digest_15 rfl rfl ?_
    refine v_aload_n (q := 17) dX7_digest_16 rfl rfl ?_
    refine v_iload_n (q := 18) dX7_digest_17 rfl rfl ?_
    refine v_callV (As := [.int v1]) (n := 1) (q := 21) dX7_digest_18 rfl lk_7_115 hd1 rfl rfl (Nat.le_of_ble_eq_true rfl) (CT.imp h (fun r s2 h => ?_))
    obtain ⟨x1, rfl, h⟩ := h
    show VV mX7_digest d s00 21 [some (.ref 11), some (.int v1), none] [.int x1, .ref 11] s2 (Ql K)
    refine v_i2l (q := 22) dX7_digest_21 rfl ?_
    refine v_callV (As := [.long (x1).toInt64]) (n := 1) (q := 25) dX7_digest_22 rfl lk_7_165 hd1 rfl rfl (Nat.le_of_ble_eq_true rfl) (CT.imp h (fun r s4 h => ?_))
    obtain ⟨rfl, h⟩ := h
    show VV mX7_digest d s00 25 [some (.ref 11), some (.int v1), none] [] s4 (Ql K)
    refine v_iinc (y := (v1 + nI 1)) (q := 28) dX7_digest_25 rfl rfl (congrArg (fun z => v1 + z) (by decide)) (by decide) rfl ?_
    refine v_goto (q := 9) dX7_digest_28 (by decide) ?_
    exact h
set_option maxRecDepth 20000 in
theorem bX7_digest_33 {d : Nat} {σ : SS} {K : Int64 → SS → Prop} (v1 : Int32)   (h : (vp_in (nI 0) 3270) ∧ ((((σ.1 37 (nI 0).toNatClampNeg) ≤ v1) → (VV mX7_digest d s00 75 [some (.ref 11), some (.int (nI 0)), none] [] σ (Ql K))) ∧ ((¬ (σ.1 37 (nI 0).toNatClampNeg) ≤ v1) → (VV mX7_digest d s00 45 [some (.ref 11), some (.int v1), some (.int (nI 0))] [] σ (Ql K))))) : VV mX7_digest d s00 33 [some (.ref 11), some (.int v1), none] [] σ (Ql K) := by
  refine v_iload_n (q := 34) dX7_digest_33 rfl rfl ?_
  refine v_aload_n (q := 35) dX7_digest_34 rfl rfl ?_
  refine v_get (q := 38) dX7_digest_35 rfl fl_7_7 rfl rfl ?_
  refine v_iconst (v := (nI 0)) (q := 39) dX7_digest_38 rfl (by decide) ?_
  refine v_iald (q := 40) dX7_digest_39 rfl (isI_d rfl) h.1 ?_
  have h := h.2
  refine v_icmp_ge (t := 73) (q := 43) dX7_digest_40 rfl (by decide) (fun c => ?_) (fun c => ?_)
  · have h := h.1 (c)
    refine v_iconst (v := (nI 0)) (q := 74) dX7_digest_73 rfl (by decide) ?_
    refine v_istore_n (q := 75) dX7_digest_74 rfl (by decide) rfl ?_
    exact h
  · have h := h.2 (c)
    refine v_iconst (v := (nI 0)) (q := 44) dX7_digest_43 rfl (by decide) ?_
    refine v_istore_n (q := 45) dX7_digest_44 rfl (by decide) rfl ?_
    exact h
set_option maxRecDepth 20000 in
theorem bX7_digest_45 {d : Nat} {σ : SS} {K : Int64 → SS → Prop} (v1 : Int32) (v2 : Int32)  (hd1 : 1 ≤ d) (h : (((nI 5) ≤ v2) → (VV mX7_digest d s00 33 [some (.ref 11), some (.int (v1 + nI 1)), none] [] σ (Ql K))) ∧ ((¬ (nI 5) ≤ v2) → (CTi mX7_memberNow (d - 1) [.ref 11, .int v1, .int v2] σ (fun x1 s2 => CTv mX7_adds (d - 1) [.ref 11, .long (x1).toInt64] s2 (fun s4 => VV mX7_digest d s00 45 [some (.ref 11), some (.int v1), some (.int (v2 + nI 1))] [] s4 (Ql K)))))) : VV mX7_digest d s00 45 [some (.ref 11), some (.int v1), some (.int v2)] [] σ (Ql K) := by
  refine v_iload_n (q := 46) dX7_digest_45 rfl rfl ?_
  refine v_iconst (v := (nI 5)) (q := 47) dX7_digest_46 rfl (by decide) ?_
  refine v_icmp_ge (t := 67) (q := 50) dX7_digest_47 rfl (by decide) (fun c => ?_) (fun c => ?_)
  · have h := h.1 (c)
    refine v_iinc (y := (v1 + nI 1)) (q := 70) dX7_digest_67 rfl rfl (congrArg (fun z => v1 + z) (by decide)) (by decide) rfl ?_
    refine v_goto (q := 33) dX7_digest_70 (by decide) ?_
    exact v_msk [true, true, false] h
  · have h := h.2 (c)
    refine v_aload_n (q := 51) dX7_digest_50 rfl rfl ?_
    refine v_aload_n (q := 52) dX7_digest_51 rfl rfl ?_
    refine v_iload_n (q := 53) dX7_digest_52 rfl rfl ?_
    refine v_iload_n (q := 54) dX7_digest_53 rfl rfl ?_
    refine v_callV (As := [.int v1, .int v2]) (n := 2) (q := 57) dX7_digest_54 rfl lk_7_118 hd1 rfl rfl (Nat.le_of_ble_eq_true rfl) (CT.imp h (fun r s2 h => ?_))
    obtain ⟨x1, rfl, h⟩ := h
    show VV mX7_digest d s00 57 [some (.ref 11), some (.int v1), some (.int v2)] [.int x1, .ref 11] s2 (Ql K)
    refine v_i2l (q := 58) dX7_digest_57 rfl ?_
    refine v_callV (As := [.long (x1).toInt64]) (n := 1) (q := 61) dX7_digest_58 rfl lk_7_165 hd1 rfl rfl (Nat.le_of_ble_eq_true rfl) (CT.imp h (fun r s4 h => ?_))
    obtain ⟨rfl, h⟩ := h
    show VV mX7_digest d s00 61 [some (.ref 11), some (.int v1), some (.int v2)] [] s4 (Ql K)
    refine v_iinc (y := (v2 + nI 1)) (q := 64) dX7_digest_61 rfl rfl (congrArg (fun z => v2 + z) (by decide)) (by decide) rfl ?_
    refine v_goto (q := 45) dX7_digest_64 (by decide) ?_
    exact h
set_option maxRecDepth 20000 in
theorem bX7_digest_75 {d : Nat} {σ : SS} {K : Int64 → SS → Prop} (v1 : Int32)   (h : (vp_in (nI 1) 3270) ∧ ((((σ.1 37 (nI 1).toNatClampNeg) ≤ v1) → (VV mX7_digest d s00 150 [some (.ref 11), some (.int (nI 0)), none] [] σ (Ql K))) ∧ ((¬ (σ.1 37 (nI 1).toNatClampNeg) ≤ v1) → (VV mX7_digest d s00 87 [some (.ref 11), some (.int v1), some (.int (nI 0))] [] σ (Ql K))))) : VV mX7_digest d s00 75 [some (.ref 11), some (.int v1), none] [] σ (Ql K) := by
  refine v_iload_n (q := 76) dX7_digest_75 rfl rfl ?_
  refine v_aload_n (q := 77) dX7_digest_76 rfl rfl ?_
  refine v_get (q := 80) dX7_digest_77 rfl fl_7_7 rfl rfl ?_
  refine v_iconst (v := (nI 1)) (q := 81) dX7_digest_80 rfl (by decide) ?_
  refine v_iald (q := 82) dX7_digest_81 rfl (isI_d rfl) h.1 ?_
  have h := h.2
  refine v_icmp_ge (t := 148) (q := 85) dX7_digest_82 rfl (by decide) (fun c => ?_) (fun c => ?_)
  · have h := h.1 (c)
    refine v_iconst (v := (nI 0)) (q := 149) dX7_digest_148 rfl (by decide) ?_
    refine v_istore_n (q := 150) dX7_digest_149 rfl (by decide) rfl ?_
    exact h
  · have h := h.2 (c)
    refine v_iconst (v := (nI 0)) (q := 86) dX7_digest_85 rfl (by decide) ?_
    refine v_istore_n (q := 87) dX7_digest_86 rfl (by decide) rfl ?_
    exact h
set_option maxRecDepth 20000 in
theorem bX7_digest_87 {d : Nat} {σ : SS} {K : Int64 → SS → Prop} (v1 : Int32) (v2 : Int32)  (hd1 : 1 ≤ d) (h : (((nI 7) ≤ v2) → (VV mX7_digest d s00 112 [some (.ref 11), some (.int v1), some (.int (nI 0))] [] σ (Ql K))) ∧ ((¬ (nI 7) ≤ v2) → (CTi mX7_phrase (d - 1) [.ref 11, .int v1, .int v2] σ (fun x1 s2 => CTv mX7_adds (d - 1) [.ref 11, .long (x1).toInt64] s2 (fun s4 => VV mX7_digest d s00 87 [some (.ref 11), some (.int v1), some (.int (v2 + nI 1))] [] s4 (Ql K)))))) : VV mX7_digest d s00 87 [some (.ref 11), some (.int v1), some (.int v2)] [] σ (Ql K) := by
  refine v_iload_n (q := 88) dX7_digest_87 rfl rfl ?_
  refine v_bipush (v := (nI 7)) (q := 90) dX7_digest_88 rfl (by decide) ?_
  refine v_icmp_ge (t := 110) (q := 93) dX7_digest_90 rfl (by decide) (fun c => ?_) (fun c => ?_)
  · have h := h.1 (c)
    refine v_iconst (v := (nI 0)) (q := 111) dX7_digest_110 rfl (by decide) ?_
    refine v_istore_n (q := 112) dX7_digest_111 rfl (by decide) rfl ?_
    exact h
  · have h := h.2 (c)
    refine v_aload_n (q := 94) dX7_digest_93 rfl rfl ?_
    refine v_aload_n (q := 95) dX7_digest_94 rfl rfl ?_
    refine v_iload_n (q := 96) dX7_digest_95 rfl rfl ?_
    refine v_iload_n (q := 97) dX7_digest_96 rfl rfl ?_
    refine v_callV (As := [.int v1, .int v2]) (n := 2) (q := 100) dX7_digest_97 rfl lk_7_169 hd1 rfl rfl (Nat.le_of_ble_eq_true rfl) (CT.imp h (fun r s2 h => ?_))
    obtain ⟨x1, rfl, h⟩ := h
    show VV mX7_digest d s00 100 [some (.ref 11), some (.int v1), some (.int v2)] [.int x1, .ref 11] s2 (Ql K)
    refine v_i2l (q := 101) dX7_digest_100 rfl ?_
    refine v_callV (As := [.long (x1).toInt64]) (n := 1) (q := 104) dX7_digest_101 rfl lk_7_165 hd1 rfl rfl (Nat.le_of_ble_eq_true rfl) (CT.imp h (fun r s4 h => ?_))
    obtain ⟨rfl, h⟩ := h
    show VV mX7_digest d s00 104 [some (.ref 11), some (.int v1), some (.int v2)] [] s4 (Ql K)
    refine v_iinc (y := (v2 + nI 1)) (q := 107) dX7_digest_104 rfl rfl (congrArg (fun z => v2 + z) (by decide)) (by decide) rfl ?_
    refine v_goto (q := 87) dX7_digest_107 (by decide) ?_
    exact h
set_option maxRecDepth 20000 in
theorem bX7_digest_112 {d : Nat} {σ : SS} {K : Int64 → SS → Prop} (v1 : Int32) (v2 : Int32)  (hd1 : 1 ≤ d) (h : CTi mX7_of (d - 1) [.ref 11, .int v1, .int (nI 1)] σ (fun x1 s2 => ((x1 ≤ v2) → (VV mX7_digest d s00 75 [some (.ref 11), some (.int (v1 + nI 1)), none] [] s2 (Ql K))) ∧ ((¬ x1 ≤ v2) → (CTi mX7_of (d - 1) [.ref 11, .int v1, .int ((nI 6) + v2)] s2 (fun x3 s4 => CTv mX7_adds (d - 1) [.ref 11, .long (x3).toInt64] s4 (fun s6 => VV mX7_digest d s00 112 [some (.ref 11), some (.int v1), some (.int (v2 + nI 1))] [] s6 (Ql K))))))) : VV mX7_digest d s00 112 [some (.ref 11), some (.int v1), some (.int v2)] [] σ (Ql K) := by
  refine v_iload_n (q := 113) dX7_digest_112 rfl rfl ?_
  refine v_aload_n (q := 114) dX7_digest_113 rfl rfl ?_
  refine v_iload_n (q := 115) dX7_digest_114 rfl rfl ?_
  refine v_iconst (v := (nI 1)) (q := 116) dX7_digest_115 rfl (by decide) ?_
  refine v_callV (As := [.int v1, .int (nI 1)]) (n := 2) (q := 119) dX7_digest_116 rfl lk_7_49 hd1 rfl rfl (Nat.le_of_ble_eq_true rfl) (CT.imp h (fun r s2 h => ?_))
  obtain ⟨x1, rfl, h⟩ := h
  show VV mX7_digest d s00 119 [some (.ref 11), some (.int v1), some (.int v2)] [.int x1, .int v2] s2 (Ql K)
  refine v_icmp_ge (t := 142) (q := 122) dX7_digest_119 rfl (by decide) (fun c => ?_) (fun c => ?_)
  · have h := h.1 (c)
    refine v_iinc (y := (v1 + nI 1)) (q := 145) dX7_digest_142 rfl rfl (congrArg (fun z => v1 + z) (by decide)) (by decide) rfl ?_
    refine v_goto (q := 75) dX7_digest_145 (by decide) ?_
    exact v_msk [true, true, false] h
  · have h := h.2 (c)
    refine v_aload_n (q := 123) dX7_digest_122 rfl rfl ?_
    refine v_aload_n (q := 124) dX7_digest_123 rfl rfl ?_
    refine v_iload_n (q := 125) dX7_digest_124 rfl rfl ?_
    refine v_bipush (v := (nI 6)) (q := 127) dX7_digest_125 rfl (by decide) ?_
    refine v_iload_n (q := 128) dX7_digest_127 rfl rfl ?_
    refine v_iadd (q := 129) dX7_digest_128 rfl ?_
    refine v_callV (As := [.int v1, .int ((nI 6) + v2)]) (n := 2) (q := 132) dX7_digest_129 rfl lk_7_49 hd1 rfl rfl (Nat.le_of_ble_eq_true rfl) (CT.imp h (fun r s4 h => ?_))
    obtain ⟨x3, rfl, h⟩ := h
    show VV mX7_digest d s00 132 [some (.ref 11), some (.int v1), some (.int v2)] [.int x3, .ref 11] s4 (Ql K)
    refine v_i2l (q := 133) dX7_digest_132 rfl ?_
    refine v_callV (As := [.long (x3).toInt64]) (n := 1) (q := 136) dX7_digest_133 rfl lk_7_165 hd1 rfl rfl (Nat.le_of_ble_eq_true rfl) (CT.imp h (fun r s6 h => ?_))
    obtain ⟨rfl, h⟩ := h
    show VV mX7_digest d s00 136 [some (.ref 11), some (.int v1), some (.int v2)] [] s6 (Ql K)
    refine v_iinc (y := (v2 + nI 1)) (q := 139) dX7_digest_136 rfl rfl (congrArg (fun z => v2 + z) (by decide)) (by decide) rfl ?_
    refine v_goto (q := 112) dX7_digest_139 (by decide) ?_
    exact h
set_option maxRecDepth 20000 in
theorem bX7_digest_150 {d : Nat} {σ : SS} {K : Int64 → SS → Prop} (v1 : Int32)   (h : (vp_in (nI 2) 3270) ∧ ((((σ.1 37 (nI 2).toNatClampNeg) ≤ v1) → (K σ.2.2 σ)) ∧ ((¬ (σ.1 37 (nI 2).toNatClampNeg) ≤ v1) → (VV mX7_digest d s00 162 [some (.ref 11), some (.int v1), some (.int (nI 0))] [] σ (Ql K))))) : VV mX7_digest d s00 150 [some (.ref 11), some (.int v1), none] [] σ (Ql K) := by
  refine v_iload_n (q := 151) dX7_digest_150 rfl rfl ?_
  refine v_aload_n (q := 152) dX7_digest_151 rfl rfl ?_
  refine v_get (q := 155) dX7_digest_152 rfl fl_7_7 rfl rfl ?_
  refine v_iconst (v := (nI 2)) (q := 156) dX7_digest_155 rfl (by decide) ?_
  refine v_iald (q := 157) dX7_digest_156 rfl (isI_d rfl) h.1 ?_
  have h := h.2
  refine v_icmp_ge (t := 191) (q := 160) dX7_digest_157 rfl (by decide) (fun c => ?_) (fun c => ?_)
  · have h := h.1 (c)
    refine v_aload_n (q := 192) dX7_digest_191 rfl rfl ?_
    refine v_get (q := 195) dX7_digest_192 rfl fl_7_159 rfl rfl ?_
    exact v_lret dX7_digest_195 rfl ⟨_, rfl, h⟩
  · have h := h.2 (c)
    refine v_iconst (v := (nI 0)) (q := 161) dX7_digest_160 rfl (by decide) ?_
    refine v_istore_n (q := 162) dX7_digest_161 rfl (by decide) rfl ?_
    exact h
set_option maxRecDepth 20000 in
theorem bX7_digest_162 {d : Nat} {σ : SS} {K : Int64 → SS → Prop} (v1 : Int32) (v2 : Int32)  (hd1 : 1 ≤ d) (h : (((nI 13) ≤ v2) → (VV mX7_digest d s00 150 [some (.ref 11), some (.int (v1 + nI 1)), none] [] σ (Ql K))) ∧ ((¬ (nI 13) ≤ v2) → (CTi mX7_ofNote (d - 1) [.ref 11, .int v1, .int v2] σ (fun x1 s2 => CTv mX7_adds (d - 1) [.ref 11, .long (x1).toInt64] s2 (fun s4 => VV mX7_digest d s00 162 [some (.ref 11), some (.int v1), some (.int (v2 + nI 1))] [] s4 (Ql K)))))) : VV mX7_digest d s00 162 [some (.ref 11), some (.int v1), some (.int v2)] [] σ (Ql K) := by
  refine v_iload_n (q := 163) dX7_digest_162 rfl rfl ?_
  refine v_bipush (v := (nI 13)) (q := 165) dX7_digest_163 rfl (by decide) ?_
  refine v_icmp_ge (t := 185) (q := 168) dX7_digest_165 rfl (by decide) (fun c => ?_) (fun c => ?_)
  · have h := h.1 (c)
    refine v_iinc (y := (v1 + nI 1)) (q := 188) dX7_digest_185 rfl rfl (congrArg (fun z => v1 + z) (by decide)) (by decide) rfl ?_
    refine v_goto (q := 150) dX7_digest_188 (by decide) ?_
    exact v_msk [true, true, false] h
  · have h := h.2 (c)
    refine v_aload_n (q := 169) dX7_digest_168 rfl rfl ?_
    refine v_aload_n (q := 170) dX7_digest_169 rfl rfl ?_
    refine v_iload_n (q := 171) dX7_digest_170 rfl rfl ?_
    refine v_iload_n (q := 172) dX7_digest_171 rfl rfl ?_
    refine v_callV (As := [.int v1, .int v2]) (n := 2) (q := 175) dX7_digest_172 rfl lk_7_100 hd1 rfl rfl (Nat.le_of_ble_eq_true rfl) (CT.imp h (fun r s2 h => ?_))
    obtain ⟨x1, rfl, h⟩ := h
    show VV mX7_digest d s00 175 [some (.ref 11), some (.int v1), some (.int v2)] [.int x1, .ref 11] s2 (Ql K)
    refine v_i2l (q := 176) dX7_digest_175 rfl ?_
    refine v_callV (As := [.long (x1).toInt64]) (n := 1) (q := 179) dX7_digest_176 rfl lk_7_165 hd1 rfl rfl (Nat.le_of_ble_eq_true rfl) (CT.imp h (fun r s4 h => ?_))
    obtain ⟨rfl, h⟩ := h
    show VV mX7_digest d s00 179 [some (.ref 11), some (.int v1), some (.int v2)] [] s4 (Ql K)
    refine v_iinc (y := (v2 + nI 1)) (q := 182) dX7_digest_179 rfl rfl (congrArg (fun z => v2 + z) (by decide)) (by decide) rfl ?_
    refine v_goto (q := 162) dX7_digest_182 (by decide) ?_
    exact h
