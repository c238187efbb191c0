/-! VC by program: the law and its own methods -/
set_option maxRecDepth 20000 in
theorem bL_low_0 {d : Nat} {σ : SS} {K : Int32 → SS → Prop} (p1 : Int32) (p2 : Int32)   (h : (¬ p2 = 0) ∧ (K ((p1 &&& (2147483647)) - (p1 &&& (2147483647)) / p2 * p2) σ)) : VV mL_low d s00 0 [some (.int p1), some (.int p2)] [] σ (Qi K) := by
  refine v_iload_n (q := 1) dL_low_0 rfl rfl ?_
  refine v_ldc (v := (2147483647)) (q := 3) dL_low_1 rfl cn_8_7 ?_
  refine v_iand (q := 4) dL_low_3 rfl ?_
  refine v_iload_n (q := 5) dL_low_4 rfl rfl ?_
  refine v_irem (q := 6) dL_low_5 rfl h.1 ?_
  have h := h.2
  exact v_iret dL_low_6 rfl ⟨_, rfl, h⟩
theorem eL_low {d : Nat} {σ : SS} {K : Int32 → SS → Prop} (p1 : Int32) (p2 : Int32)   (h : (¬ p2 = 0) ∧ (K ((p1 &&& (2147483647)) - (p1 &&& (2147483647)) / p2 * p2) σ)) : CTi mL_low d [.int p1, .int p2] σ K := CT_of (Q := (Qi K)) (by decide +kernel) rfl (by decide) (Nat.le_of_ble_eq_true rfl) rfl (bL_low_0 p1 p2  h)
set_option maxRecDepth 20000 in
theorem bL_sentence_0 {d : Nat} {σ : SS} {K : Int32 → SS → Prop} (p2 : Int32) (p3 : Int32)  (hd1 : 1 ≤ d) (h : CTi mX6_clearText (d - 1) [.ref 0] σ (fun x1 s2 => VV mL_sentence d s00 7 [some (.ref 0), some (.int p2), some (.int p3), some (.int (nI 0))] [] s2 (Qi K))) : VV mL_sentence d s00 0 [some (.ref 0), some (.int p2), some (.int p3), none] [] σ (Qi K) := by
  refine v_aload_n (q := 1) dL_sentence_0 rfl rfl ?_
  refine v_callV (As := []) (n := 0) (q := 4) dL_sentence_1 rfl lk_8_8 hd1 rfl rfl (Nat.le_of_ble_eq_true rfl) (CT.imp h (fun r s2 h => ?_))
  obtain ⟨x1, rfl, h⟩ := h
  show VV mL_sentence d s00 4 [some (.ref 0), some (.int p2), some (.int p3), none] [.int x1] s2 (Qi K)
  refine v_pop (q := 5) dL_sentence_4 rfl rfl ?_
  refine v_iconst (v := (nI 0)) (q := 6) dL_sentence_5 rfl (by decide) ?_
  refine v_istore_n (q := 7) dL_sentence_6 rfl (by decide) rfl ?_
  exact h
theorem eL_sentence {d : Nat} {σ : SS} {K : Int32 → SS → Prop} (p2 : Int32) (p3 : Int32)  (hd1 : 1 ≤ d) (h : CTi mX6_clearText (d - 1) [.ref 0] σ (fun x1 s2 => VV mL_sentence d s00 7 [some (.ref 0), some (.int p2), some (.int p3), some (.int (nI 0))] [] s2 (Qi K))) : CTi mL_sentence d [.ref 0, .int p2, .int p3] σ K := CT_of (Q := (Qi K)) (by decide +kernel) rfl (by decide) (Nat.le_of_ble_eq_true rfl) rfl (bL_sentence_0 p2 p3 hd1 h)
set_option maxRecDepth 20000 in
theorem bL_sentence_7 {d : Nat} {σ : SS} {K : Int32 → SS → Prop} (v1 : Int32) (v2 : Int32) (v3 : Int32)  (hd1 : 1 ≤ d) (h : ((v1 ≤ v3) → (K v1 σ)) ∧ ((¬ v1 ≤ v3) → (CTi mL_low (d - 1) [.int (v2 >>> (((nI 2) * v3) &&& 31)), .int (nI 3)] σ (fun x1 s2 => CTi mX6_type (d - 1) [.ref 0, .int ((nI 97) + x1)] s2 (fun x3 s4 => VV mL_sentence d s00 7 [some (.ref 0), some (.int v1), some (.int v2), some (.int (v3 + nI 1))] [] s4 (Qi K)))))) : VV mL_sentence d s00 7 [some (.ref 0), some (.int v1), some (.int v2), some (.int v3)] [] σ (Qi K) := by
  refine v_iload_n (q := 8) dL_sentence_7 rfl rfl ?_
  refine v_iload_n (q := 9) dL_sentence_8 rfl rfl ?_
  refine v_icmp_ge (t := 35) (q := 12) dL_sentence_9 rfl (by decide) (fun c => ?_) (fun c => ?_)
  · have h := h.1 (c)
    refine v_iload_n (q := 36) dL_sentence_35 rfl rfl ?_
    exact v_iret dL_sentence_36 rfl ⟨_, rfl, h⟩
  · have h := h.2 (c)
    refine v_aload_n (q := 13) dL_sentence_12 rfl rfl ?_
    refine v_bipush (v := (nI 97)) (q := 15) dL_sentence_13 rfl (by decide) ?_
    refine v_iload_n (q := 16) dL_sentence_15 rfl rfl ?_
    refine v_iconst (v := (nI 2)) (q := 17) dL_sentence_16 rfl (by decide) ?_
    refine v_iload_n (q := 18) dL_sentence_17 rfl rfl ?_
    refine v_imul (q := 19) dL_sentence_18 rfl ?_
    refine v_ishr (q := 20) dL_sentence_19 rfl ?_
    refine v_iconst (v := (nI 3)) (q := 21) dL_sentence_20 rfl (by decide) ?_
    refine v_callS (As := [.int (v2 >>> (((nI 2) * v3) &&& 31)), .int (nI 3)]) (n := 2) (q := 24) dL_sentence_21 rfl lk_8_14 hd1 rfl (Nat.le_of_ble_eq_true rfl) (CT.imp h (fun r s2 h => ?_))
    obtain ⟨x1, rfl, h⟩ := h
    show VV mL_sentence d s00 24 [some (.ref 0), some (.int v1), some (.int v2), some (.int v3)] [.int x1, .int (nI 97), .ref 0] s2 (Qi K)
    refine v_iadd (q := 25) dL_sentence_24 rfl ?_
    refine v_callV (As := [.int ((nI 97) + x1)]) (n := 1) (q := 28) dL_sentence_25 rfl lk_8_20 hd1 rfl rfl (Nat.le_of_ble_eq_true rfl) (CT.imp h (fun r s4 h => ?_))
    obtain ⟨x3, rfl, h⟩ := h
    show VV mL_sentence d s00 28 [some (.ref 0), some (.int v1), some (.int v2), some (.int v3)] [.int x3] s4 (Qi K)
    refine v_pop (q := 29) dL_sentence_28 rfl rfl ?_
    refine v_iinc (y := (v3 + nI 1)) (q := 32) dL_sentence_29 rfl rfl (congrArg (fun z => v3 + z) (by decide)) (by decide) rfl ?_
    refine v_goto (q := 7) dL_sentence_32 (by decide) ?_
    exact h
set_option maxRecDepth 20000 in
theorem bL_fits_0 {d : Nat} {σ : SS} {K : Int32 → SS → Prop}   (hd1 : 1 ≤ d) (h : CTi mX6_count (d - 1) [.ref 0, .int (nI 6)] σ (fun x1 s2 => VV mL_fits d s00 20 [some (.ref 0), some (.int x1), some (.int (nI 0)), some (.int (nI 0)), some (.int (nI 0)), some (.int (nI 0)), some (.int (nI 0)), none, none] [] s2 (Qi K))) : VV mL_fits d s00 0 [some (.ref 0), none, none, none, none, none, none, none, none] [] σ (Qi K) := by
  refine v_aload_n (q := 1) dL_fits_0 rfl rfl ?_
  refine v_bipush (v := (nI 6)) (q := 3) dL_fits_1 rfl (by decide) ?_
  refine v_callV (As := [.int (nI 6)]) (n := 1) (q := 6) dL_fits_3 rfl lk_8_24 hd1 rfl rfl (Nat.le_of_ble_eq_true rfl) (CT.imp h (fun r s2 h => ?_))
  obtain ⟨x1, rfl, h⟩ := h
  show VV mL_fits d s00 6 [some (.ref 0), none, none, none, none, none, none, none, none] [.int x1] s2 (Qi K)
  refine v_istore_n (q := 7) dL_fits_6 rfl (by decide) rfl ?_
  refine v_iconst (v := (nI 0)) (q := 8) dL_fits_7 rfl (by decide) ?_
  refine v_istore_n (q := 9) dL_fits_8 rfl (by decide) rfl ?_
  refine v_iconst (v := (nI 0)) (q := 10) dL_fits_9 rfl (by decide) ?_
  refine v_istore_n (q := 11) dL_fits_10 rfl (by decide) rfl ?_
  refine v_iconst (v := (nI 0)) (q := 12) dL_fits_11 rfl (by decide) ?_
  refine v_istore (q := 14) dL_fits_12 rfl (by decide) rfl ?_
  refine v_iconst (v := (nI 0)) (q := 15) dL_fits_14 rfl (by decide) ?_
  refine v_istore (q := 17) dL_fits_15 rfl (by decide) rfl ?_
  refine v_iconst (v := (nI 0)) (q := 18) dL_fits_17 rfl (by decide) ?_
  refine v_istore (q := 20) dL_fits_18 rfl (by decide) rfl ?_
  exact h
theorem eL_fits {d : Nat} {σ : SS} {K : Int32 → SS → Prop}   (hd1 : 1 ≤ d) (h : CTi mX6_count (d - 1) [.ref 0, .int (nI 6)] σ (fun x1 s2 => VV mL_fits d s00 20 [some (.ref 0), some (.int x1), some (.int (nI 0)), some (.int (nI 0)), some (.int (nI 0)), some (.int (nI 0)), some (.int (nI 0)), none, none] [] s2 (Qi K))) : CTi mL_fits d [.ref 0] σ K := CT_of (Q := (Qi K)) (by decide +kernel) rfl (by decide) (Nat.le_of_ble_eq_true rfl) rfl (bL_fits_0  hd1 h)
set_option maxRecDepth 20000 in
theorem bL_fits_20 {d : Nat} {σ : SS} {K : Int32 → SS → Prop} (v1 : Int32) (v2 : Int32) (v3 : Int32) (v4 : Int32) (v5 : Int32) (v6 : Int32)  (hd1 : 1 ≤ d) (h : CTi mX6_count (d - 1) [.ref 0, .int (nI 0)] σ (fun x1 s2 => ((x1 ≤ v6) → (((v1 = 0) → (VV mL_fits d s00 65 [some (.ref 0), some (.int v1), some (.int v2), some (.int v3), some (.int v4), some (.int v5), some (.int (nI 0)), none, none] [] s2 (Qi K))) ∧ ((¬ v1 = 0) → (K (nI 0) s2)))) ∧ ((¬ x1 ≤ v6) → (CTi mX6_member (d - 1) [.ref 0, .int v6, .int (nI 1)] s2 (fun x3 s4 => CTi mX6_member (d - 1) [.ref 0, .int v6, .int (nI 2)] s4 (fun x5 s6 => VV mL_fits d s00 20 [some (.ref 0), some (.int (v1 + x3)), some (.int v2), some (.int (v3 + x5)), some (.int v4), some (.int v5), some (.int (v6 + nI 1)), none, none] [] s6 (Qi K))))))) : VV mL_fits d s00 20 [some (.ref 0), some (.int v1), some (.int v2), some (.int v3), some (.int v4), some (.int v5), some (.int v6), none, none] [] σ (Qi K) := by
  refine v_iload (q := 22) dL_fits_20 rfl rfl ?_
  refine v_aload_n (q := 23) dL_fits_22 rfl rfl ?_
  refine v_iconst (v := (nI 0)) (q := 24) dL_fits_23 rfl (by decide) ?_
  refine v_callV (As := [.int (nI 0)]) (n := 1) (q := 27) dL_fits_24 rfl lk_8_24 hd1 rfl rfl (Nat.le_of_ble_eq_true rfl) (CT.imp h (fun r s2 h => ?_))
  obtain ⟨x1, rfl, h⟩ := h
  show VV mL_fits d s00 27 [some (.ref 0), some (.int v1), some (.int v2), some (.int v3), some (.int v4), some (.int v5), some (.int v6), none, none] [.int x1, .int v6] s2 (Qi K)
  refine v_icmp_ge (t := 56) (q := 30) dL_fits_27 rfl (by decide) (fun c => ?_) (fun c => ?_)
  · have h := h.1 (c)
    refine v_iload_n (q := 57) dL_fits_56 rfl rfl ?_
    refine v_if_eq (t := 62) (q := 60) dL_fits_57 rfl (by decide) (fun c => ?_) (fun c => ?_)
    · have h := h.1 (c)
      refine v_iconst (v := (nI 0)) (q := 63) dL_fits_62 rfl (by decide) ?_
      refine v_istore (q := 65) dL_fits_63 rfl (by decide) rfl ?_
      exact h
    · have h := h.2 (c)
      refine v_iconst (v := (nI 0)) (q := 61) dL_fits_60 rfl (by decide) ?_
      exact v_zret dL_fits_61 rfl (by decide) ⟨_, rfl, h⟩
  · have h := h.2 (c)
    refine v_iload_n (q := 31) dL_fits_30 rfl rfl ?_
    refine v_aload_n (q := 32) dL_fits_31 rfl rfl ?_
    refine v_iload (q := 34) dL_fits_32 rfl rfl ?_
    refine v_iconst (v := (nI 1)) (q := 35) dL_fits_34 rfl (by decide) ?_
    refine v_callV (As := [.int v6, .int (nI 1)]) (n := 2) (q := 38) dL_fits_35 rfl lk_8_27 hd1 rfl rfl (Nat.le_of_ble_eq_true rfl) (CT.imp h (fun r s4 h => ?_))
    obtain ⟨x3, rfl, h⟩ := h
    show VV mL_fits d s00 38 [some (.ref 0), some (.int v1), some (.int v2), some (.int v3), some (.int v4), some (.int v5), some (.int v6), none, none] [.int x3, .int v1] s4 (Qi K)
    refine v_iadd (q := 39) dL_fits_38 rfl ?_
    refine v_istore_n (q := 40) dL_fits_39 rfl (by decide) rfl ?_
    refine v_iload_n (q := 41) dL_fits_40 rfl rfl ?_
    refine v_aload_n (q := 42) dL_fits_41 rfl rfl ?_
    refine v_iload (q := 44) dL_fits_42 rfl rfl ?_
    refine v_iconst (v := (nI 2)) (q := 45) dL_fits_44 rfl (by decide) ?_
    refine v_callV (As := [.int v6, .int (nI 2)]) (n := 2) (q := 48) dL_fits_45 rfl lk_8_27 hd1 rfl rfl (Nat.le_of_ble_eq_true rfl) (CT.imp h (fun r s6 h => ?_))
    obtain ⟨x5, rfl, h⟩ := h
    show VV mL_fits d s00 48 [some (.ref 0), some (.int (v1 + x3)), some (.int v2), some (.int v3), some (.int v4), some (.int v5), some (.int v6), none, none] [.int x5, .int v3] s6 (Qi K)
    refine v_iadd (q := 49) dL_fits_48 rfl ?_
    refine v_istore_n (q := 50) dL_fits_49 rfl (by decide) rfl ?_
    refine v_iinc (y := (v6 + nI 1)) (q := 53) dL_fits_50 rfl rfl (congrArg (fun z => v6 + z) (by decide)) (by decide) rfl ?_
    refine v_goto (q := 20) dL_fits_53 (by decide) ?_
    exact h
set_option maxRecDepth 20000 in
theorem bL_fits_65 {d : Nat} {σ : SS} {K : Int32 → SS → Prop} (v1 : Int32) (v2 : Int32) (v3 : Int32) (v4 : Int32) (v5 : Int32) (v6 : Int32)  (hd1 : 1 ≤ d) (h : CTi mX6_count (d - 1) [.ref 0, .int (nI 1)] σ (fun x1 s2 => ((x1 ≤ v6) → (VV mL_fits d s00 246 [some (.ref 0), some (.int v1), some (.int v2), some (.int v3), some (.int v4), some (.int v5), some (.int (nI 0)), none, none] [] s2 (Qi K))) ∧ ((¬ x1 ≤ v6) → (CTi mX6_phrase (d - 1) [.ref 0, .int v6, .int (nI 3)] s2 (fun x3 s4 => CTi mX6_phrase (d - 1) [.ref 0, .int v6, .int (nI 4)] s4 (fun x5 s6 => CTi mX6_phrase (d - 1) [.ref 0, .int v6, .int (nI 6)] s6 (fun x7 s8 => CTi mX6_score (d - 1) [.ref 0, .int v6, .int v6] s8 (fun x9 s10 => ((¬ x9 = (nI 100)) → (K (nI 0) s10)) ∧ ((x9 = (nI 100)) → (CTi mX6_phrase (d - 1) [.ref 0, .int v6, .int (nI 4)] s10 (fun x11 s12 => ((¬ x11 = 0) → (VV mL_fits d s00 141 [some (.ref 0), some (.int v1), some (.int (v2 + x5)), some (.int v3), some (.int v4), some (.int (v5 + x7)), some (.int v6), some (.int x3), none] [] s12 (Qi K))) ∧ ((x11 = 0) → (CTi mX6_phrase (d - 1) [.ref 0, .int v6, .int (nI 6)] s12 (fun x13 s14 => ((¬ x13 = 0) → (K (nI 0) s14)) ∧ ((x13 = 0) → (VV mL_fits d s00 141 [some (.ref 0), some (.int v1), some (.int (v2 + x5)), some (.int v3), some (.int v4), some (.int (v5 + x7)), some (.int v6), some (.int x3), none] [] s14 (Qi K))))))))))))))))) : VV mL_fits d s00 65 [some (.ref 0), some (.int v1), some (.int v2), some (.int v3), some (.int v4), some (.int v5), some (.int v6), none, none] [] σ (Qi K) := by
  refine v_iload (q := 67) dL_fits_65 rfl rfl ?_
  refine v_aload_n (q := 68) dL_fits_67 rfl rfl ?_
  refine v_iconst (v := (nI 1)) (q := 69) dL_fits_68 rfl (by decide) ?_
  refine v_callV (As := [.int (nI 1)]) (n := 1) (q := 72) dL_fits_69 rfl lk_8_24 hd1 rfl rfl (Nat.le_of_ble_eq_true rfl) (CT.imp h (fun r s2 h => ?_))
  obtain ⟨x1, rfl, h⟩ := h
  show VV mL_fits d s00 72 [some (.ref 0), some (.int v1), some (.int v2), some (.int v3), some (.int v4), some (.int v5), some (.int v6), none, none] [.int x1, .int v6] s2 (Qi K)
  refine v_icmp_ge (t := 243) (q := 75) dL_fits_72 rfl (by decide) (fun c => ?_) (fun c => ?_)
  · have h := h.1 (c)
    refine v_iconst (v := (nI 0)) (q := 244) dL_fits_243 rfl (by decide) ?_
    refine v_istore (q := 246) dL_fits_244 rfl (by decide) rfl ?_
    exact h
  · have h := h.2 (c)
    refine v_aload_n (q := 76) dL_fits_75 rfl rfl ?_
    refine v_iload (q := 78) dL_fits_76 rfl rfl ?_
    refine v_iconst (v := (nI 3)) (q := 79) dL_fits_78 rfl (by decide) ?_
    refine v_callV (As := [.int v6, .int (nI 3)]) (n := 2) (q := 82) dL_fits_79 rfl lk_8_30 hd1 rfl rfl (Nat.le_of_ble_eq_true rfl) (CT.imp h (fun r s4 h => ?_))
    obtain ⟨x3, rfl, h⟩ := h
    show VV mL_fits d s00 82 [some (.ref 0), some (.int v1), some (.int v2), some (.int v3), some (.int v4), some (.int v5), some (.int v6), none, none] [.int x3] s4 (Qi K)
    refine v_istore (q := 84) dL_fits_82 rfl (by decide) rfl ?_
    refine v_iload_n (q := 85) dL_fits_84 rfl rfl ?_
    refine v_aload_n (q := 86) dL_fits_85 rfl rfl ?_
    refine v_iload (q := 88) dL_fits_86 rfl rfl ?_
    refine v_iconst (v := (nI 4)) (q := 89) dL_fits_88 rfl (by decide) ?_
    refine v_callV (As := [.int v6, .int (nI 4)]) (n := 2) (q := 92) dL_fits_89 rfl lk_8_30 hd1 rfl rfl (Nat.le_of_ble_eq_true rfl) (CT.imp h (fun r s6 h => ?_))
    obtain ⟨x5, rfl, h⟩ := h
    show VV mL_fits d s00 92 [some (.ref 0), some (.int v1), some (.int v2), some (.int v3), some (.int v4), some (.int v5), some (.int v6), some (.int x3), none] [.int x5, .int v2] s6 (Qi K)
    refine v_iadd (q := 93) dL_fits_92 rfl ?_
    refine v_istore_n (q := 94) dL_fits_93 rfl (by decide) rfl ?_
    refine v_iload (q := 96) dL_fits_94 rfl rfl ?_
    refine v_aload_n (q := 97) dL_fits_96 rfl rfl ?_
    refine v_iload (q := 99) dL_fits_97 rfl rfl ?_
    refine v_bipush (v := (nI 6)) (q := 101) dL_fits_99 rfl (by decide) ?_
    refine v_callV (As := [.int v6, .int (nI 6)]) (n := 2) (q := 104) dL_fits_101 rfl lk_8_30 hd1 rfl rfl (Nat.le_of_ble_eq_true rfl) (CT.imp h (fun r s8 h => ?_))
    obtain ⟨x7, rfl, h⟩ := h
    show VV mL_fits d s00 104 [some (.ref 0), some (.int v1), some (.int (v2 + x5)), some (.int v3), some (.int v4), some (.int v5), some (.int v6), some (.int x3), none] [.int x7, .int v5] s8 (Qi K)
    refine v_iadd (q := 105) dL_fits_104 rfl ?_
    refine v_istore (q := 107) dL_fits_105 rfl (by decide) rfl ?_
    refine v_aload_n (q := 108) dL_fits_107 rfl rfl ?_
    refine v_iload (q := 110) dL_fits_108 rfl rfl ?_
    refine v_iload (q := 112) dL_fits_110 rfl rfl ?_
    refine v_callV (As := [.int v6, .int v6]) (n := 2) (q := 115) dL_fits_112 rfl lk_8_33 hd1 rfl rfl (Nat.le_of_ble_eq_true rfl) (CT.imp h (fun r s10 h => ?_))
    obtain ⟨x9, rfl, h⟩ := h
    show VV mL_fits d s00 115 [some (.ref 0), some (.int v1), some (.int (v2 + x5)), some (.int v3), some (.int v4), some (.int (v5 + x7)), some (.int v6), some (.int x3), none] [.int x9] s10 (Qi K)
    refine v_bipush (v := (nI 100)) (q := 117) dL_fits_115 rfl (by decide) ?_
    refine v_icmp_ne (t := 174) (q := 120) dL_fits_117 rfl (by decide) (fun c => ?_) (fun c => ?_)
    · have h := h.1 (c)
      refine v_iconst (v := (nI 0)) (q := 175) dL_fits_174 rfl (by decide) ?_
      exact v_zret dL_fits_175 rfl (by decide) ⟨_, rfl, h⟩
    · have h := h.2 (c)
      refine v_aload_n (q := 121) dL_fits_120 rfl rfl ?_
      refine v_iload (q := 123) dL_fits_121 rfl rfl ?_
      refine v_iconst (v := (nI 4)) (q := 124) dL_fits_123 rfl (by decide) ?_
      refine v_callV (As := [.int v6, .int (nI 4)]) (n := 2) (q := 127) dL_fits_124 rfl lk_8_30 hd1 rfl rfl (Nat.le_of_ble_eq_true rfl) (CT.imp h (fun r s12 h => ?_))
      obtain ⟨x11, rfl, h⟩ := h
      show VV mL_fits d s00 127 [some (.ref 0), some (.int v1), some (.int (v2 + x5)), some (.int v3), some (.int v4), some (.int (v5 + x7)), some (.int v6), some (.int x3), none] [.int x11] s12 (Qi K)
      refine v_if_ne (t := 141) (q := 130) dL_fits_127 rfl (by decide) (fun c => ?_) (fun c => ?_)
      · have h := h.1 (c)
        exact h
      · have h := h.2 (c)
        refine v_aload_n (q := 131) dL_fits_130 rfl rfl ?_
        refine v_iload (q := 133) dL_fits_131 rfl rfl ?_
        refine v_bipush (v := (nI 6)) (q := 135) dL_fits_133 rfl (by decide) ?_
        refine v_callV (As := [.int v6, .int (nI 6)]) (n := 2) (q := 138) dL_fits_135 rfl lk_8_30 hd1 rfl rfl (Nat.le_of_ble_eq_true rfl) (CT.imp h (fun r s14 h => ?_))
        obtain ⟨x13, rfl, h⟩ := h
        show VV mL_fits d s00 138 [some (.ref 0), some (.int v1), some (.int (v2 + x5)), some (.int v3), some (.int v4), some (.int (v5 + x7)), some (.int v6), some (.int x3), none] [.int x13] s14 (Qi K)
        refine v_if_ne (t := 174) (q := 141) dL_fits_138 rfl (by decide) (fun c => ?_) (fun c => ?_)
        · have h := h.1 (c)
          refine v_iconst (v := (nI 0)) (q := 175) dL_fits_174 rfl (by decide) ?_
          exact v_zret dL_fits_175 rfl (by decide) ⟨_, rfl, h⟩
        · have h := h.2 (c)
          exact h
set_option maxRecDepth 20000 in
theorem bL_fits_141 {d : Nat} {σ : SS} {K : Int32 → SS → Prop} (v1 : Int32) (v2 : Int32) (v3 : Int32) (v4 : Int32) (v5 : Int32) (v6 : Int32) (v7 : Int32)  (hd1 : 1 ≤ d) (h : ((v6 ≤ v7) → (K (nI 0) σ)) ∧ ((¬ v6 ≤ v7) → (CTi mX6_phrase (d - 1) [.ref 0, .int v6, .int (nI 4)] σ (fun x1 s2 => ((¬ x1 = (nI 1)) → (VV mL_fits d s00 179 [some (.ref 0), some (.int v1), some (.int v2), some (.int v3), some (.int v4), some (.int v5), some (.int v6), some (.int v7), some (.int (nI 0))] [] s2 (Qi K))) ∧ ((x1 = (nI 1)) → (((v7 < 0) → (VV mL_fits d s00 179 [some (.ref 0), some (.int v1), some (.int v2), some (.int v3), some (.int v4), some (.int v5), some (.int v6), some (.int v7), some (.int (nI 0))] [] s2 (Qi K))) ∧ ((¬ v7 < 0) → (CTi mX6_phrase (d - 1) [.ref 0, .int v7, .int (nI 4)] s2 (fun x3 s4 => ((¬ x3 = 0) → (VV mL_fits d s00 179 [some (.ref 0), some (.int v1), some (.int v2), some (.int v3), some (.int v4), some (.int v5), some (.int v6), some (.int v7), some (.int (nI 0))] [] s4 (Qi K))) ∧ ((x3 = 0) → (K (nI 0) s4))))))))))) : VV mL_fits d s00 141 [some (.ref 0), some (.int v1), some (.int v2), some (.int v3), some (.int v4), some (.int v5), some (.int v6), some (.int v7), none] [] σ (Qi K) := by
  refine v_iload (q := 143) dL_fits_141 rfl rfl ?_
  refine v_iload (q := 145) dL_fits_143 rfl rfl ?_
  refine v_icmp_ge (t := 174) (q := 148) dL_fits_145 rfl (by decide) (fun c => ?_) (fun c => ?_)
  · have h := h.1 (c)
    refine v_iconst (v := (nI 0)) (q := 175) dL_fits_174 rfl (by decide) ?_
    exact v_zret dL_fits_175 rfl (by decide) ⟨_, rfl, h⟩
  · have h := h.2 (c)
    refine v_aload_n (q := 149) dL_fits_148 rfl rfl ?_
    refine v_iload (q := 151) dL_fits_149 rfl rfl ?_
    refine v_iconst (v := (nI 4)) (q := 152) dL_fits_151 rfl (by decide) ?_
    refine v_callV (As := [.int v6, .int (nI 4)]) (n := 2) (q := 155) dL_fits_152 rfl lk_8_30 hd1 rfl rfl (Nat.le_of_ble_eq_true rfl) (CT.imp h (fun r s2 h => ?_))
    obtain ⟨x1, rfl, h⟩ := h
    show VV mL_fits d s00 155 [some (.ref 0), some (.int v1), some (.int v2), some (.int v3), some (.int v4), some (.int v5), some (.int v6), some (.int v7), none] [.int x1] s2 (Qi K)
    refine v_iconst (v := (nI 1)) (q := 156) dL_fits_155 rfl (by decide) ?_
    refine v_icmp_ne (t := 176) (q := 159) dL_fits_156 rfl (by decide) (fun c => ?_) (fun c => ?_)
    · have h := h.1 (c)
      refine v_iconst (v := (nI 0)) (q := 177) dL_fits_176 rfl (by decide) ?_
      refine v_istore (q := 179) dL_fits_177 rfl (by decide) rfl ?_
      exact h
    · have h := h.2 (c)
      refine v_iload (q := 161) dL_fits_159 rfl rfl ?_
      refine v_if_lt (t := 176) (q := 164) dL_fits_161 rfl (by decide) (fun c => ?_) (fun c => ?_)
      · have h := h.1 (c)
        refine v_iconst (v := (nI 0)) (q := 177) dL_fits_176 rfl (by decide) ?_
        refine v_istore (q := 179) dL_fits_177 rfl (by decide) rfl ?_
        exact h
      · have h := h.2 (c)
        refine v_aload_n (q := 165) dL_fits_164 rfl rfl ?_
        refine v_iload (q := 167) dL_fits_165 rfl rfl ?_
        refine v_iconst (v := (nI 4)) (q := 168) dL_fits_167 rfl (by decide) ?_
        refine v_callV (As := [.int v7, .int (nI 4)]) (n := 2) (q := 171) dL_fits_168 rfl lk_8_30 hd1 rfl rfl (Nat.le_of_ble_eq_true rfl) (CT.imp h (fun r s4 h => ?_))
        obtain ⟨x3, rfl, h⟩ := h
        show VV mL_fits d s00 171 [some (.ref 0), some (.int v1), some (.int v2), some (.int v3), some (.int v4), some (.int v5), some (.int v6), some (.int v7), none] [.int x3] s4 (Qi K)
        refine v_if_ne (t := 176) (q := 174) dL_fits_171 rfl (by decide) (fun c => ?_) (fun c => ?_)
        · have h := h.1 (c)
          refine v_iconst (v := (nI 0)) (q := 177) dL_fits_176 rfl (by decide) ?_
          refine v_istore (q := 179) dL_fits_177 rfl (by decide) rfl ?_
          exact h
        · have h := h.2 (c)
          refine v_iconst (v := (nI 0)) (q := 175) dL_fits_174 rfl (by decide) ?_
          exact v_zret dL_fits_175 rfl (by decide) ⟨_, rfl, h⟩
set_option maxRecDepth 20000 in
theorem bL_fits_179 {d : Nat} {σ : SS} {K : Int32 → SS → Prop} (v1 : Int32) (v2 : Int32) (v3 : Int32) (v4 : Int32) (v5 : Int32) (v6 : Int32) (v7 : Int32) (v8 : Int32)  (hd1 : 1 ≤ d) (h : ((v6 ≤ v8) → (VV mL_fits d s00 65 [some (.ref 0), some (.int v1), some (.int v2), some (.int v3), some (.int v4), some (.int v5), some (.int (v6 + nI 1)), none, none] [] σ (Qi K))) ∧ ((¬ v6 ≤ v8) → (CTi mX6_score (d - 1) [.ref 0, .int v6, .int v8] σ (fun x1 s2 => CTi mX6_score (d - 1) [.ref 0, .int v8, .int v6] s2 (fun x3 s4 => ((¬ x1 = x3) → (K (nI 0) s4)) ∧ ((x1 = x3) → (CTi mX6_score (d - 1) [.ref 0, .int v6, .int v8] s4 (fun x5 s6 => ((x5 < 0) → (K (nI 0) s6)) ∧ ((¬ x5 < 0) → (CTi mX6_score (d - 1) [.ref 0, .int v6, .int v8] s6 (fun x7 s8 => ((x7 ≤ (nI 100)) → (VV mL_fits d s00 179 [some (.ref 0), some (.int v1), some (.int v2), some (.int v3), some (.int v4), some (.int v5), some (.int v6), some (.int v7), some (.int (v8 + nI 1))] [] s8 (Qi K))) ∧ ((¬ x7 ≤ (nI 100)) → (K (nI 0) s8))))))))))))) : VV mL_fits d s00 179 [some (.ref 0), some (.int v1), some (.int v2), some (.int v3), some (.int v4), some (.int v5), some (.int v6), some (.int v7), some (.int v8)] [] σ (Qi K) := by
  refine v_iload (q := 181) dL_fits_179 rfl rfl ?_
  refine v_iload (q := 183) dL_fits_181 rfl rfl ?_
  refine v_icmp_ge (t := 237) (q := 186) dL_fits_183 rfl (by decide) (fun c => ?_) (fun c => ?_)
  · have h := h.1 (c)
    refine v_iinc (y := (v6 + nI 1)) (q := 240) dL_fits_237 rfl rfl (congrArg (fun z => v6 + z) (by decide)) (by decide) rfl ?_
    refine v_goto (q := 65) dL_fits_240 (by decide) ?_
    exact v_msk [true, true, true, true, true, true, true, false, false] h
  · have h := h.2 (c)
    refine v_aload_n (q := 187) dL_fits_186 rfl rfl ?_
    refine v_iload (q := 189) dL_fits_187 rfl rfl ?_
    refine v_iload (q := 191) dL_fits_189 rfl rfl ?_
    refine v_callV (As := [.int v6, .int v8]) (n := 2) (q := 194) dL_fits_191 rfl lk_8_33 hd1 rfl rfl (Nat.le_of_ble_eq_true rfl) (CT.imp h (fun r s2 h => ?_))
    obtain ⟨x1, rfl, h⟩ := h
    show VV mL_fits d s00 194 [some (.ref 0), some (.int v1), some (.int v2), some (.int v3), some (.int v4), some (.int v5), some (.int v6), some (.int v7), some (.int v8)] [.int x1] s2 (Qi K)
    refine v_aload_n (q := 195) dL_fits_194 rfl rfl ?_
    refine v_iload (q := 197) dL_fits_195 rfl rfl ?_
    refine v_iload (q := 199) dL_fits_197 rfl rfl ?_
    refine v_callV (As := [.int v8, .int v6]) (n := 2) (q := 202) dL_fits_199 rfl lk_8_33 hd1 rfl rfl (Nat.le_of_ble_eq_true rfl) (CT.imp h (fun r s4 h => ?_))
    obtain ⟨x3, rfl, h⟩ := h
    show VV mL_fits d s00 202 [some (.ref 0), some (.int v1), some (.int v2), some (.int v3), some (.int v4), some (.int v5), some (.int v6), some (.int v7), some (.int v8)] [.int x3, .int x1] s4 (Qi K)
    refine v_icmp_ne (t := 229) (q := 205) dL_fits_202 rfl (by decide) (fun c => ?_) (fun c => ?_)
    · have h := h.1 (c)
      refine v_iconst (v := (nI 0)) (q := 230) dL_fits_229 rfl (by decide) ?_
      exact v_zret dL_fits_230 rfl (by decide) ⟨_, rfl, h⟩
    · have h := h.2 (c)
      refine v_aload_n (q := 206) dL_fits_205 rfl rfl ?_
      refine v_iload (q := 208) dL_fits_206 rfl rfl ?_
      refine v_iload (q := 210) dL_fits_208 rfl rfl ?_
      refine v_callV (As := [.int v6, .int v8]) (n := 2) (q := 213) dL_fits_210 rfl lk_8_33 hd1 rfl rfl (Nat.le_of_ble_eq_true rfl) (CT.imp h (fun r s6 h => ?_))
      obtain ⟨x5, rfl, h⟩ := h
      show VV mL_fits d s00 213 [some (.ref 0), some (.int v1), some (.int v2), some (.int v3), some (.int v4), some (.int v5), some (.int v6), some (.int v7), some (.int v8)] [.int x5] s6 (Qi K)
      refine v_if_lt (t := 229) (q := 216) dL_fits_213 rfl (by decide) (fun c => ?_) (fun c => ?_)
      · have h := h.1 (c)
        refine v_iconst (v := (nI 0)) (q := 230) dL_fits_229 rfl (by decide) ?_
        exact v_zret dL_fits_230 rfl (by decide) ⟨_, rfl, h⟩
      · have h := h.2 (c)
        refine v_aload_n (q := 217) dL_fits_216 rfl rfl ?_
        refine v_iload (q := 219) dL_fits_217 rfl rfl ?_
        refine v_iload (q := 221) dL_fits_219 rfl rfl ?_
        refine v_callV (As := [.int v6, .int v8]) (n := 2) (q := 224) dL_fits_221 rfl lk_8_33 hd1 rfl rfl (Nat.le_of_ble_eq_true rfl) (CT.imp h (fun r s8 h => ?_))
        obtain ⟨x7, rfl, h⟩ := h
        show VV mL_fits d s00 224 [some (.ref 0), some (.int v1), some (.int v2), some (.int v3), some (.int v4), some (.int v5), some (.int v6), some (.int v7), some (.int v8)] [.int x7] s8 (Qi K)
        refine v_bipush (v := (nI 100)) (q := 226) dL_fits_224 rfl (by decide) ?_
        refine v_icmp_le (t := 231) (q := 229) dL_fits_226 rfl (by decide) (fun c => ?_) (fun c => ?_)
        · have h := h.1 (c)
          refine v_iinc (y := (v8 + nI 1)) (q := 234) dL_fits_231 rfl rfl (congrArg (fun z => v8 + z) (by decide)) (by decide) rfl ?_
          refine v_goto (q := 179) dL_fits_234 (by decide) ?_
          exact h
        · have h := h.2 (c)
          refine v_iconst (v := (nI 0)) (q := 230) dL_fits_229 rfl (by decide) ?_
          exact v_zret dL_fits_230 rfl (by decide) ⟨_, rfl, h⟩
set_option maxRecDepth 20000 in
theorem bL_fits_246 {d : Nat} {σ : SS} {K : Int32 → SS → Prop} (v1 : Int32) (v2 : Int32) (v3 : Int32) (v4 : Int32) (v5 : Int32) (v6 : Int32)  (hd1 : 1 ≤ d) (h : CTi mX6_count (d - 1) [.ref 0, .int (nI 3)] σ (fun x1 s2 => ((x1 ≤ v6) → (VV mL_fits d s00 383 [some (.ref 0), some (.int v1), some (.int v2), some (.int v3), some (.int v4), some (.int v5), some (.int (nI 0)), some (.int (nI 0)), none] [] s2 (Qi K))) ∧ ((¬ x1 ≤ v6) → (CTi mX6_note (d - 1) [.ref 0, .int v6, .int (nI 6)] s2 (fun x3 s4 => VV mL_fits d s00 269 [some (.ref 0), some (.int v1), some (.int v2), some (.int v3), some (.int v4), some (.int v5), some (.int v6), some (.int x3), some (.int (nI 0))] [] s4 (Qi K)))))) : VV mL_fits d s00 246 [some (.ref 0), some (.int v1), some (.int v2), some (.int v3), some (.int v4), some (.int v5), some (.int v6), none, none] [] σ (Qi K) := by
  refine v_iload (q := 248) dL_fits_246 rfl rfl ?_
  refine v_aload_n (q := 249) dL_fits_248 rfl rfl ?_
  refine v_iconst (v := (nI 3)) (q := 250) dL_fits_249 rfl (by decide) ?_
  refine v_callV (As := [.int (nI 3)]) (n := 1) (q := 253) dL_fits_250 rfl lk_8_24 hd1 rfl rfl (Nat.le_of_ble_eq_true rfl) (CT.imp h (fun r s2 h => ?_))
  obtain ⟨x1, rfl, h⟩ := h
  show VV mL_fits d s00 253 [some (.ref 0), some (.int v1), some (.int v2), some (.int v3), some (.int v4), some (.int v5), some (.int v6), none, none] [.int x1, .int v6] s2 (Qi K)
  refine v_icmp_ge (t := 377) (q := 256) dL_fits_253 rfl (by decide) (fun c => ?_) (fun c => ?_)
  · have h := h.1 (c)
    refine v_iconst (v := (nI 0)) (q := 378) dL_fits_377 rfl (by decide) ?_
    refine v_istore (q := 380) dL_fits_378 rfl (by decide) rfl ?_
    refine v_iconst (v := (nI 0)) (q := 381) dL_fits_380 rfl (by decide) ?_
    refine v_istore (q := 383) dL_fits_381 rfl (by decide) rfl ?_
    exact h
  · have h := h.2 (c)
    refine v_aload_n (q := 257) dL_fits_256 rfl rfl ?_
    refine v_iload (q := 259) dL_fits_257 rfl rfl ?_
    refine v_bipush (v := (nI 6)) (q := 261) dL_fits_259 rfl (by decide) ?_
    refine v_callV (As := [.int v6, .int (nI 6)]) (n := 2) (q := 264) dL_fits_261 rfl lk_8_36 hd1 rfl rfl (Nat.le_of_ble_eq_true rfl) (CT.imp h (fun r s4 h => ?_))
    obtain ⟨x3, rfl, h⟩ := h
    show VV mL_fits d s00 264 [some (.ref 0), some (.int v1), some (.int v2), some (.int v3), some (.int v4), some (.int v5), some (.int v6), none, none] [.int x3] s4 (Qi K)
    refine v_istore (q := 266) dL_fits_264 rfl (by decide) rfl ?_
    refine v_iconst (v := (nI 0)) (q := 267) dL_fits_266 rfl (by decide) ?_
    refine v_istore (q := 269) dL_fits_267 rfl (by decide) rfl ?_
    exact h
set_option maxRecDepth 20000 in
theorem bL_fits_269 {d : Nat} {σ : SS} {K : Int32 → SS → Prop} (v1 : Int32) (v2 : Int32) (v3 : Int32) (v4 : Int32) (v5 : Int32) (v6 : Int32) (v7 : Int32) (v8 : Int32)  (hd1 : 1 ≤ d) (h : (((nI 6) ≤ v8) → (CTi mX6_note (d - 1) [.ref 0, .int v6, .int (nI 5)] σ (fun x1 s2 => CTi mX6_note (d - 1) [.ref 0, .int v6, .int (nI 3)] s2 (fun x3 s4 => ((¬ v7 = x3) → (K (nI 0) s4)) ∧ ((v7 = x3) → (CTi mX6_note (d - 1) [.ref 0, .int v6, .int (nI 4)] s4 (fun x5 s6 => CTi mX6_count (d - 1) [.ref 0, .int (nI 5)] s6 (fun x7 s8 => ((x7 < x5) → (K (nI 0) s8)) ∧ ((¬ x7 < x5) → (CTi mX6_note (d - 1) [.ref 0, .int v6, .int (nI 1)] s8 (fun x9 s10 => CTi mX6_phrase (d - 1) [.ref 0, .int x9, .int (nI 5)] s10 (fun x11 s12 => (((nI 1) ≤ x11) → (VV mL_fits d s00 246 [some (.ref 0), some (.int v1), some (.int v2), some (.int v3), some (.int (v4 + x1)), some (.int v5), some (.int (v6 + nI 1)), none, none] [] s12 (Qi K))) ∧ ((¬ (nI 1) ≤ x11) → (K (nI 0) s12)))))))))))))) ∧ ((¬ (nI 6) ≤ v8) → (CTi mX6_note (d - 1) [.ref 0, .int v6, .int ((nI 7) + v8)] σ (fun x13 s14 => CTi mX6_note (d - 1) [.ref 0, .int v6, .int ((nI 7) + v8)] s14 (fun x15 s16 => ((0 ≤ x15) → (VV mL_fits d s00 269 [some (.ref 0), some (.int v1), some (.int v2), some (.int v3), some (.int v4), some (.int v5), some (.int v6), some (.int (v7 + x13)), some (.int (v8 + nI 1))] [] s16 (Qi K))) ∧ ((¬ 0 ≤ x15) → (K (nI 0) s16))))))) : VV mL_fits d s00 269 [some (.ref 0), some (.int v1), some (.int v2), some (.int v3), some (.int v4), some (.int v5), some (.int v6), some (.int v7), some (.int v8)] [] σ (Qi K) := by
  refine v_iload (q := 271) dL_fits_269 rfl rfl ?_
  refine v_bipush (v := (nI 6)) (q := 273) dL_fits_271 rfl (by decide) ?_
  refine v_icmp_ge (t := 314) (q := 276) dL_fits_273 rfl (by decide) (fun c => ?_) (fun c => ?_)
  · have h := h.1 (c)
    refine v_iload (q := 316) dL_fits_314 rfl rfl ?_
    refine v_aload_n (q := 317) dL_fits_316 rfl rfl ?_
    refine v_iload (q := 319) dL_fits_317 rfl rfl ?_
    refine v_iconst (v := (nI 5)) (q := 320) dL_fits_319 rfl (by decide) ?_
    refine v_callV (As := [.int v6, .int (nI 5)]) (n := 2) (q := 323) dL_fits_320 rfl lk_8_36 hd1 rfl rfl (Nat.le_of_ble_eq_true rfl) (CT.imp h (fun r s2 h => ?_))
    obtain ⟨x1, rfl, h⟩ := h
    show VV mL_fits d s00 323 [some (.ref 0), some (.int v1), some (.int v2), some (.int v3), some (.int v4), some (.int v5), some (.int v6), some (.int v7), some (.int v8)] [.int x1, .int v4] s2 (Qi K)
    refine v_iadd (q := 324) dL_fits_323 rfl ?_
    refine v_istore (q := 326) dL_fits_324 rfl (by decide) rfl ?_
    refine v_iload (q := 328) dL_fits_326 rfl rfl ?_
    refine v_aload_n (q := 329) dL_fits_328 rfl rfl ?_
    refine v_iload (q := 331) dL_fits_329 rfl rfl ?_
    refine v_iconst (v := (nI 3)) (q := 332) dL_fits_331 rfl (by decide) ?_
    refine v_callV (As := [.int v6, .int (nI 3)]) (n := 2) (q := 335) dL_fits_332 rfl lk_8_36 hd1 rfl rfl (Nat.le_of_ble_eq_true rfl) (CT.imp h (fun r s4 h => ?_))
    obtain ⟨x3, rfl, h⟩ := h
    show VV mL_fits d s00 335 [some (.ref 0), some (.int v1), some (.int v2), some (.int v3), some (.int (v4 + x1)), some (.int v5), some (.int v6), some (.int v7), some (.int v8)] [.int x3, .int v7] s4 (Qi K)
    refine v_icmp_ne (t := 369) (q := 338) dL_fits_335 rfl (by decide) (fun c => ?_) (fun c => ?_)
    · have h := h.1 (c)
      refine v_iconst (v := (nI 0)) (q := 370) dL_fits_369 rfl (by decide) ?_
      exact v_zret dL_fits_370 rfl (by decide) ⟨_, rfl, h⟩
    · have h := h.2 (c)
      refine v_aload_n (q := 339) dL_fits_338 rfl rfl ?_
      refine v_iload (q := 341) dL_fits_339 rfl rfl ?_
      refine v_iconst (v := (nI 4)) (q := 342) dL_fits_341 rfl (by decide) ?_
      refine v_callV (As := [.int v6, .int (nI 4)]) (n := 2) (q := 345) dL_fits_342 rfl lk_8_36 hd1 rfl rfl (Nat.le_of_ble_eq_true rfl) (CT.imp h (fun r s6 h => ?_))
      obtain ⟨x5, rfl, h⟩ := h
      show VV mL_fits d s00 345 [some (.ref 0), some (.int v1), some (.int v2), some (.int v3), some (.int (v4 + x1)), some (.int v5), some (.int v6), some (.int v7), some (.int v8)] [.int x5] s6 (Qi K)
      refine v_aload_n (q := 346) dL_fits_345 rfl rfl ?_
      refine v_iconst (v := (nI 5)) (q := 347) dL_fits_346 rfl (by decide) ?_
      refine v_callV (As := [.int (nI 5)]) (n := 1) (q := 350) dL_fits_347 rfl lk_8_24 hd1 rfl rfl (Nat.le_of_ble_eq_true rfl) (CT.imp h (fun r s8 h => ?_))
      obtain ⟨x7, rfl, h⟩ := h
      show VV mL_fits d s00 350 [some (.ref 0), some (.int v1), some (.int v2), some (.int v3), some (.int (v4 + x1)), some (.int v5), some (.int v6), some (.int v7), some (.int v8)] [.int x7, .int x5] s8 (Qi K)
      refine v_icmp_gt (t := 369) (q := 353) dL_fits_350 rfl (by decide) (fun c => ?_) (fun c => ?_)
      · have h := h.1 (c)
        refine v_iconst (v := (nI 0)) (q := 370) dL_fits_369 rfl (by decide) ?_
        exact v_zret dL_fits_370 rfl (by decide) ⟨_, rfl, h⟩
      · have h := h.2 (c)
        refine v_aload_n (q := 354) dL_fits_353 rfl rfl ?_
        refine v_aload_n (q := 355) dL_fits_354 rfl rfl ?_
        refine v_iload (q := 357) dL_fits_355 rfl rfl ?_
        refine v_iconst (v := (nI 1)) (q := 358) dL_fits_357 rfl (by decide) ?_
        refine v_callV (As := [.int v6, .int (nI 1)]) (n := 2) (q := 361) dL_fits_358 rfl lk_8_36 hd1 rfl rfl (Nat.le_of_ble_eq_true rfl) (CT.imp h (fun r s10 h => ?_))
        obtain ⟨x9, rfl, h⟩ := h
        show VV mL_fits d s00 361 [some (.ref 0), some (.int v1), some (.int v2), some (.int v3), some (.int (v4 + x1)), some (.int v5), some (.int v6), some (.int v7), some (.int v8)] [.int x9, .ref 0] s10 (Qi K)
        refine v_iconst (v := (nI 5)) (q := 362) dL_fits_361 rfl (by decide) ?_
        refine v_callV (As := [.int x9, .int (nI 5)]) (n := 2) (q := 365) dL_fits_362 rfl lk_8_30 hd1 rfl rfl (Nat.le_of_ble_eq_true rfl) (CT.imp h (fun r s12 h => ?_))
        obtain ⟨x11, rfl, h⟩ := h
        show VV mL_fits d s00 365 [some (.ref 0), some (.int v1), some (.int v2), some (.int v3), some (.int (v4 + x1)), some (.int v5), some (.int v6), some (.int v7), some (.int v8)] [.int x11] s12 (Qi K)
        refine v_iconst (v := (nI 1)) (q := 366) dL_fits_365 rfl (by decide) ?_
        refine v_icmp_ge (t := 371) (q := 369) dL_fits_366 rfl (by decide) (fun c => ?_) (fun c => ?_)
        · have h := h.1 (c)
          refine v_iinc (y := (v6 + nI 1)) (q := 374) dL_fits_371 rfl rfl (congrArg (fun z => v6 + z) (by decide)) (by decide) rfl ?_
          refine v_goto (q := 246) dL_fits_374 (by decide) ?_
          exact v_msk [true, true, true, true, true, true, true, false, false] h
        · have h := h.2 (c)
          refine v_iconst (v := (nI 0)) (q := 370) dL_fits_369 rfl (by decide) ?_
          exact v_zret dL_fits_370 rfl (by decide) ⟨_, rfl, h⟩
  · have h := h.2 (c)
    refine v_iload (q := 278) dL_fits_276 rfl rfl ?_
    refine v_aload_n (q := 279) dL_fits_278 rfl rfl ?_
    refine v_iload (q := 281) dL_fits_279 rfl rfl ?_
    refine v_bipush (v := (nI 7)) (q := 283) dL_fits_281 rfl (by decide) ?_
    refine v_iload (q := 285) dL_fits_283 rfl rfl ?_
    refine v_iadd (q := 286) dL_fits_285 rfl ?_
    refine v_callV (As := [.int v6, .int ((nI 7) + v8)]) (n := 2) (q := 289) dL_fits_286 rfl lk_8_36 hd1 rfl rfl (Nat.le_of_ble_eq_true rfl) (CT.imp h (fun r s14 h => ?_))
    obtain ⟨x13, rfl, h⟩ := h
    show VV mL_fits d s00 289 [some (.ref 0), some (.int v1), some (.int v2), some (.int v3), some (.int v4), some (.int v5), some (.int v6), some (.int v7), some (.int v8)] [.int x13, .int v7] s14 (Qi K)
    refine v_iadd (q := 290) dL_fits_289 rfl ?_
    refine v_istore (q := 292) dL_fits_290 rfl (by decide) rfl ?_
    refine v_aload_n (q := 293) dL_fits_292 rfl rfl ?_
    refine v_iload (q := 295) dL_fits_293 rfl rfl ?_
    refine v_bipush (v := (nI 7)) (q := 297) dL_fits_295 rfl (by decide) ?_
    refine v_iload (q := 299) dL_fits_297 rfl rfl ?_
    refine v_iadd (q := 300) dL_fits_299 rfl ?_
    refine v_callV (As := [.int v6, .int ((nI 7) + v8)]) (n := 2) (q := 303) dL_fits_300 rfl lk_8_36 hd1 rfl rfl (Nat.le_of_ble_eq_true rfl) (CT.imp h (fun r s16 h => ?_))
    obtain ⟨x15, rfl, h⟩ := h
    show VV mL_fits d s00 303 [some (.ref 0), some (.int v1), some (.int v2), some (.int v3), some (.int v4), some (.int v5), some (.int v6), some (.int (v7 + x13)), some (.int v8)] [.int x15] s16 (Qi K)
    refine v_if_ge (t := 308) (q := 306) dL_fits_303 rfl (by decide) (fun c => ?_) (fun c => ?_)
    · have h := h.1 (c)
      refine v_iinc (y := (v8 + nI 1)) (q := 311) dL_fits_308 rfl rfl (congrArg (fun z => v8 + z) (by decide)) (by decide) rfl ?_
      refine v_goto (q := 269) dL_fits_311 (by decide) ?_
      exact h
    · have h := h.2 (c)
      refine v_iconst (v := (nI 0)) (q := 307) dL_fits_306 rfl (by decide) ?_
      exact v_zret dL_fits_307 rfl (by decide) ⟨_, rfl, h⟩
set_option maxRecDepth 20000 in
theorem bL_fits_383 {d : Nat} {σ : SS} {K : Int32 → SS → Prop} (v1 : Int32) (v2 : Int32) (v3 : Int32) (v4 : Int32) (v5 : Int32) (v6 : Int32) (v7 : Int32)  (hd1 : 1 ≤ d) (h : CTi mX6_count (d - 1) [.ref 0, .int (nI 1)] σ (fun x1 s2 => ((x1 ≤ v7) → (CTi mX6_count (d - 1) [.ref 0, .int (nI 2)] s2 (fun x3 s4 => ((¬ v2 = x3) → (K (nI 0) s4)) ∧ ((v2 = x3) → (((¬ v3 = v2) → (K (nI 0) s4)) ∧ ((v3 = v2) → (CTi mX6_count (d - 1) [.ref 0, .int (nI 4)] s4 (fun x5 s6 => ((¬ v4 = x5) → (K (nI 0) s6)) ∧ ((v4 = x5) → (CTi mX6_count (d - 1) [.ref 0, .int (nI 7)] s6 (fun x7 s8 => ((¬ v5 = ((nI 2) * x7)) → (K (nI 0) s8)) ∧ ((v5 = ((nI 2) * x7)) → (CTi mX6_count (d - 1) [.ref 0, .int (nI 3)] s8 (fun x9 s10 => ((¬ v6 = x9) → (K (nI 0) s10)) ∧ ((v6 = x9) → (K (nI 1) s10)))))))))))))))) ∧ ((¬ x1 ≤ v7) → (CTi mX6_phrase (d - 1) [.ref 0, .int v7, .int (nI 5)] s2 (fun x11 s12 => VV mL_fits d s00 383 [some (.ref 0), some (.int v1), some (.int v2), some (.int v3), some (.int v4), some (.int v5), some (.int (v6 + x11)), some (.int (v7 + nI 1)), none] [] s12 (Qi K)))))) : VV mL_fits d s00 383 [some (.ref 0), some (.int v1), some (.int v2), some (.int v3), some (.int v4), some (.int v5), some (.int v6), some (.int v7), none] [] σ (Qi K) := by
  refine v_iload (q := 385) dL_fits_383 rfl rfl ?_
  refine v_aload_n (q := 386) dL_fits_385 rfl rfl ?_
  refine v_iconst (v := (nI 1)) (q := 387) dL_fits_386 rfl (by decide) ?_
  refine v_callV (As := [.int (nI 1)]) (n := 1) (q := 390) dL_fits_387 rfl lk_8_24 hd1 rfl rfl (Nat.le_of_ble_eq_true rfl) (CT.imp h (fun r s2 h => ?_))
  obtain ⟨x1, rfl, h⟩ := h
  show VV mL_fits d s00 390 [some (.ref 0), some (.int v1), some (.int v2), some (.int v3), some (.int v4), some (.int v5), some (.int v6), some (.int v7), none] [.int x1, .int v7] s2 (Qi K)
  refine v_icmp_ge (t := 411) (q := 393) dL_fits_390 rfl (by decide) (fun c => ?_) (fun c => ?_)
  · have h := h.1 (c)
    refine v_iload_n (q := 412) dL_fits_411 rfl rfl ?_
    refine v_aload_n (q := 413) dL_fits_412 rfl rfl ?_
    refine v_iconst (v := (nI 2)) (q := 414) dL_fits_413 rfl (by decide) ?_
    refine v_callV (As := [.int (nI 2)]) (n := 1) (q := 417) dL_fits_414 rfl lk_8_24 hd1 rfl rfl (Nat.le_of_ble_eq_true rfl) (CT.imp h (fun r s4 h => ?_))
    obtain ⟨x3, rfl, h⟩ := h
    show VV mL_fits d s00 417 [some (.ref 0), some (.int v1), some (.int v2), some (.int v3), some (.int v4), some (.int v5), some (.int v6), some (.int v7), none] [.int x3, .int v2] s4 (Qi K)
    refine v_icmp_ne (t := 462) (q := 420) dL_fits_417 rfl (by decide) (fun c => ?_) (fun c => ?_)
    · have h := h.1 (c)
      refine v_iconst (v := (nI 0)) (q := 463) dL_fits_462 rfl (by decide) ?_
      exact v_zret dL_fits_463 rfl (by decide) ⟨_, rfl, h⟩
    · have h := h.2 (c)
      refine v_iload_n (q := 421) dL_fits_420 rfl rfl ?_
      refine v_iload_n (q := 422) dL_fits_421 rfl rfl ?_
      refine v_icmp_ne (t := 462) (q := 425) dL_fits_422 rfl (by decide) (fun c => ?_) (fun c => ?_)
      · have h := h.1 (c)
        refine v_iconst (v := (nI 0)) (q := 463) dL_fits_462 rfl (by decide) ?_
        exact v_zret dL_fits_463 rfl (by decide) ⟨_, rfl, h⟩
      · have h := h.2 (c)
        refine v_iload (q := 427) dL_fits_425 rfl rfl ?_
        refine v_aload_n (q := 428) dL_fits_427 rfl rfl ?_
        refine v_iconst (v := (nI 4)) (q := 429) dL_fits_428 rfl (by decide) ?_
        refine v_callV (As := [.int (nI 4)]) (n := 1) (q := 432) dL_fits_429 rfl lk_8_24 hd1 rfl rfl (Nat.le_of_ble_eq_true rfl) (CT.imp h (fun r s6 h => ?_))
        obtain ⟨x5, rfl, h⟩ := h
        show VV mL_fits d s00 432 [some (.ref 0), some (.int v1), some (.int v2), some (.int v3), some (.int v4), some (.int v5), some (.int v6), some (.int v7), none] [.int x5, .int v4] s6 (Qi K)
        refine v_icmp_ne (t := 462) (q := 435) dL_fits_432 rfl (by decide) (fun c => ?_) (fun c => ?_)
        · have h := h.1 (c)
          refine v_iconst (v := (nI 0)) (q := 463) dL_fits_462 rfl (by decide) ?_
          exact v_zret dL_fits_463 rfl (by decide) ⟨_, rfl, h⟩
        · have h := h.2 (c)
          refine v_iload (q := 437) dL_fits_435 rfl rfl ?_
          refine v_iconst (v := (nI 2)) (q := 438) dL_fits_437 rfl (by decide) ?_
          refine v_aload_n (q := 439) dL_fits_438 rfl rfl ?_
          refine v_bipush (v := (nI 7)) (q := 441) dL_fits_439 rfl (by decide) ?_
          refine v_callV (As := [.int (nI 7)]) (n := 1) (q := 444) dL_fits_441 rfl lk_8_24 hd1 rfl rfl (Nat.le_of_ble_eq_true rfl) (CT.imp h (fun r s8 h => ?_))
          obtain ⟨x7, rfl, h⟩ := h
          show VV mL_fits d s00 444 [some (.ref 0), some (.int v1), some (.int v2), some (.int v3), some (.int v4), some (.int v5), some (.int v6), some (.int v7), none] [.int x7, .int (nI 2), .int v5] s8 (Qi K)
          refine v_imul (q := 445) dL_fits_444 rfl ?_
          refine v_icmp_ne (t := 462) (q := 448) dL_fits_445 rfl (by decide) (fun c => ?_) (fun c => ?_)
          · have h := h.1 (c)
            refine v_iconst (v := (nI 0)) (q := 463) dL_fits_462 rfl (by decide) ?_
            exact v_zret dL_fits_463 rfl (by decide) ⟨_, rfl, h⟩
          · have h := h.2 (c)
            refine v_iload (q := 450) dL_fits_448 rfl rfl ?_
            refine v_aload_n (q := 451) dL_fits_450 rfl rfl ?_
            refine v_iconst (v := (nI 3)) (q := 452) dL_fits_451 rfl (by decide) ?_
            refine v_callV (As := [.int (nI 3)]) (n := 1) (q := 455) dL_fits_452 rfl lk_8_24 hd1 rfl rfl (Nat.le_of_ble_eq_true rfl) (CT.imp h (fun r s10 h => ?_))
            obtain ⟨x9, rfl, h⟩ := h
            show VV mL_fits d s00 455 [some (.ref 0), some (.int v1), some (.int v2), some (.int v3), some (.int v4), some (.int v5), some (.int v6), some (.int v7), none] [.int x9, .int v6] s10 (Qi K)
            refine v_icmp_ne (t := 462) (q := 458) dL_fits_455 rfl (by decide) (fun c => ?_) (fun c => ?_)
            · have h := h.1 (c)
              refine v_iconst (v := (nI 0)) (q := 463) dL_fits_462 rfl (by decide) ?_
              exact v_zret dL_fits_463 rfl (by decide) ⟨_, rfl, h⟩
            · have h := h.2 (c)
              refine v_iconst (v := (nI 1)) (q := 459) dL_fits_458 rfl (by decide) ?_
              refine v_goto (q := 463) dL_fits_459 (by decide) ?_
              exact v_zret dL_fits_463 rfl (by decide) ⟨_, rfl, h⟩
  · have h := h.2 (c)
    refine v_iload (q := 395) dL_fits_393 rfl rfl ?_
    refine v_aload_n (q := 396) dL_fits_395 rfl rfl ?_
    refine v_iload (q := 398) dL_fits_396 rfl rfl ?_
    refine v_iconst (v := (nI 5)) (q := 399) dL_fits_398 rfl (by decide) ?_
    refine v_callV (As := [.int v7, .int (nI 5)]) (n := 2) (q := 402) dL_fits_399 rfl lk_8_30 hd1 rfl rfl (Nat.le_of_ble_eq_true rfl) (CT.imp h (fun r s12 h => ?_))
    obtain ⟨x11, rfl, h⟩ := h
    show VV mL_fits d s00 402 [some (.ref 0), some (.int v1), some (.int v2), some (.int v3), some (.int v4), some (.int v5), some (.int v6), some (.int v7), none] [.int x11, .int v6] s12 (Qi K)
    refine v_iadd (q := 403) dL_fits_402 rfl ?_
    refine v_istore (q := 405) dL_fits_403 rfl (by decide) rfl ?_
    refine v_iinc (y := (v7 + nI 1)) (q := 408) dL_fits_405 rfl rfl (congrArg (fun z => v7 + z) (by decide)) (by decide) rfl ?_
    refine v_goto (q := 383) dL_fits_408 (by decide) ?_
    exact h
set_option maxRecDepth 20000 in
theorem bL_law_8 {d : Nat} {σ : SS} {sc : Scr} {K : Int32 → SS → Prop}   (hd1 : 1 ≤ d) (h : CTi mL_fits (d - 1) [.ref 0] σ (fun x1 s2 => ((x1 = 0) → (K (nI 0) s2)) ∧ ((¬ x1 = 0) → (CTi mX6_match (d - 1) [.ref 0] s2 (fun x3 s4 => ((¬ x3 = (-1000003)) → (K (nI 0) s4)) ∧ ((x3 = (-1000003)) → (CTi mX6_fee (d - 1) [.ref 0, .int (nI 0)] s4 (fun x5 s6 => ((¬ x5 = (-1000001)) → (K (nI 0) s6)) ∧ ((x5 = (-1000001)) → (CTi mX6_use (d - 1) [.ref 0, .int (nI 0)] s6 (fun x7 s8 => ((¬ x7 = (-1000001)) → (K (nI 0) s8)) ∧ ((x7 = (-1000001)) → (CTi mX6_textFault (d - 1) [.ref 0] s8 (fun x9 s10 => ((¬ x9 = 0) → (K (nI 0) s10)) ∧ ((x9 = 0) → (CTi mX6_undo (d - 1) [.ref 0] s10 (fun x11 s12 => ((x11 = (-1000003)) → ((sc.1 < 2 ^ 31 ∧ ¬ (nI 0) < 0) ∧ (∀ x13 : Int32, CTi mL_low (d - 1) [.int x13, .int (nI 6)] s12 (fun x14 s15 => VV mL_law d sc 80 [some (.ref 102), some (.ref 0), some (.int x13), some (.int ((nI 1) + x14)), some (.int (nI 0)), none, none, none, none, none, none, none, none, none, none, none, none, none, none, none] [] s15 (Qi K))))) ∧ ((¬ x11 = (-1000003)) → (K (nI 0) s12))))))))))))))))))) : VV mL_law d sc 8 [some (.ref 102), some (.ref 0), none, none, none, none, none, none, none, none, none, none, none, none, none, none, none, none, none, none] [] σ (Qi K) := by
  refine v_aload_n (q := 9) dL_law_8 rfl rfl ?_
  refine v_callS (As := [.ref 0]) (n := 1) (q := 12) dL_law_9 rfl lk_8_40 hd1 rfl (Nat.le_of_ble_eq_true rfl) (CT.imp h (fun r s2 h => ?_))
  obtain ⟨x1, rfl, h⟩ := h
  show VV mL_law d sc 12 [some (.ref 102), some (.ref 0), none, none, none, none, none, none, none, none, none, none, none, none, none, none, none, none, none, none] [.int x1] s2 (Qi K)
  refine v_if_eq (t := 60) (q := 15) dL_law_12 rfl (by decide) (fun c => ?_) (fun c => ?_)
  · have h := h.1 (c)
    refine v_iconst (v := (nI 0)) (q := 61) dL_law_60 rfl (by decide) ?_
    exact v_zret dL_law_61 rfl (by decide) ⟨_, rfl, h⟩
  · have h := h.2 (c)
    refine v_aload_n (q := 16) dL_law_15 rfl rfl ?_
    refine v_callV (As := []) (n := 0) (q := 19) dL_law_16 rfl lk_8_44 hd1 rfl rfl (Nat.le_of_ble_eq_true rfl) (CT.imp h (fun r s4 h => ?_))
    obtain ⟨x3, rfl, h⟩ := h
    show VV mL_law d sc 19 [some (.ref 102), some (.ref 0), none, none, none, none, none, none, none, none, none, none, none, none, none, none, none, none, none, none] [.int x3] s4 (Qi K)
    refine v_ldc (v := (-1000003)) (q := 21) dL_law_19 rfl cn_8_47 ?_
    refine v_icmp_ne (t := 60) (q := 24) dL_law_21 rfl (by decide) (fun c => ?_) (fun c => ?_)
    · have h := h.1 (c)
      refine v_iconst (v := (nI 0)) (q := 61) dL_law_60 rfl (by decide) ?_
      exact v_zret dL_law_61 rfl (by decide) ⟨_, rfl, h⟩
    · have h := h.2 (c)
      refine v_aload_n (q := 25) dL_law_24 rfl rfl ?_
      refine v_iconst (v := (nI 0)) (q := 26) dL_law_25 rfl (by decide) ?_
      refine v_callV (As := [.int (nI 0)]) (n := 1) (q := 29) dL_law_26 rfl lk_8_48 hd1 rfl rfl (Nat.le_of_ble_eq_true rfl) (CT.imp h (fun r s6 h => ?_))
      obtain ⟨x5, rfl, h⟩ := h
      show VV mL_law d sc 29 [some (.ref 102), some (.ref 0), none, none, none, none, none, none, none, none, none, none, none, none, none, none, none, none, none, none] [.int x5] s6 (Qi K)
      refine v_ldc (v := (-1000001)) (q := 31) dL_law_29 rfl cn_8_51 ?_
      refine v_icmp_ne (t := 60) (q := 34) dL_law_31 rfl (by decide) (fun c => ?_) (fun c => ?_)
      · have h := h.1 (c)
        refine v_iconst (v := (nI 0)) (q := 61) dL_law_60 rfl (by decide) ?_
        exact v_zret dL_law_61 rfl (by decide) ⟨_, rfl, h⟩
      · have h := h.2 (c)
        refine v_aload_n (q := 35) dL_law_34 rfl rfl ?_
        refine v_iconst (v := (nI 0)) (q := 36) dL_law_35 rfl (by decide) ?_
        refine v_callV (As := [.int (nI 0)]) (n := 1) (q := 39) dL_law_36 rfl lk_8_52 hd1 rfl rfl (Nat.le_of_ble_eq_true rfl) (CT.imp h (fun r s8 h => ?_))
        obtain ⟨x7, rfl, h⟩ := h
        show VV mL_law d sc 39 [some (.ref 102), some (.ref 0), none, none, none, none, none, none, none, none, none, none, none, none, none, none, none, none, none, none] [.int x7] s8 (Qi K)
        refine v_ldc (v := (-1000001)) (q := 41) dL_law_39 rfl cn_8_51 ?_
        refine v_icmp_ne (t := 60) (q := 44) dL_law_41 rfl (by decide) (fun c => ?_) (fun c => ?_)
        · have h := h.1 (c)
          refine v_iconst (v := (nI 0)) (q := 61) dL_law_60 rfl (by decide) ?_
          exact v_zret dL_law_61 rfl (by decide) ⟨_, rfl, h⟩
        · have h := h.2 (c)
          refine v_aload_n (q := 45) dL_law_44 rfl rfl ?_
          refine v_callV (As := []) (n := 0) (q := 48) dL_law_45 rfl lk_8_55 hd1 rfl rfl (Nat.le_of_ble_eq_true rfl) (CT.imp h (fun r s10 h => ?_))
          obtain ⟨x9, rfl, h⟩ := h
          show VV mL_law d sc 48 [some (.ref 102), some (.ref 0), none, none, none, none, none, none, none, none, none, none, none, none, none, none, none, none, none, none] [.int x9] s10 (Qi K)
          refine v_if_ne (t := 60) (q := 51) dL_law_48 rfl (by decide) (fun c => ?_) (fun c => ?_)
          · have h := h.1 (c)
            refine v_iconst (v := (nI 0)) (q := 61) dL_law_60 rfl (by decide) ?_
            exact v_zret dL_law_61 rfl (by decide) ⟨_, rfl, h⟩
          · have h := h.2 (c)
            refine v_aload_n (q := 52) dL_law_51 rfl rfl ?_
            refine v_callV (As := []) (n := 0) (q := 55) dL_law_52 rfl lk_8_58 hd1 rfl rfl (Nat.le_of_ble_eq_true rfl) (CT.imp h (fun r s12 h => ?_))
            obtain ⟨x11, rfl, h⟩ := h
            show VV mL_law d sc 55 [some (.ref 102), some (.ref 0), none, none, none, none, none, none, none, none, none, none, none, none, none, none, none, none, none, none] [.int x11] s12 (Qi K)
            refine v_ldc (v := (-1000003)) (q := 57) dL_law_55 rfl cn_8_47 ?_
            refine v_icmp_eq (t := 62) (q := 60) dL_law_57 rfl (by decide) (fun c => ?_) (fun c => ?_)
            · have h := h.1 (c)
              refine v_aload_n (q := 63) dL_law_62 rfl rfl ?_
              refine v_iconst (v := (nI 0)) (q := 64) dL_law_63 rfl (by decide) ?_
              refine v_cell (q := 67) dL_law_64 rfl rfl lk_8_61 hd1 (Nat.le_of_ble_eq_true rfl) h.1 (fun x13 => ?_)
              have h := h.2 x13
              refine v_istore_n (q := 68) dL_law_67 rfl (by decide) rfl ?_
              refine v_iconst (v := (nI 1)) (q := 69) dL_law_68 rfl (by decide) ?_
              refine v_iload_n (q := 70) dL_law_69 rfl rfl ?_
              refine v_bipush (v := (nI 6)) (q := 72) dL_law_70 rfl (by decide) ?_
              refine v_callS (As := [.int x13, .int (nI 6)]) (n := 2) (q := 75) dL_law_72 rfl lk_8_14 hd1 rfl (Nat.le_of_ble_eq_true rfl) (CT.imp h (fun r s15 h => ?_))
              obtain ⟨x14, rfl, h⟩ := h
              show VV mL_law d sc 75 [some (.ref 102), some (.ref 0), some (.int x13), none, none, none, none, none, none, none, none, none, none, none, none, none, none, none, none, none] [.int x14, .int (nI 1)] s15 (Qi K)
              refine v_iadd (q := 76) dL_law_75 rfl ?_
              refine v_istore_n (q := 77) dL_law_76 rfl (by decide) rfl ?_
              refine v_iconst (v := (nI 0)) (q := 78) dL_law_77 rfl (by decide) ?_
              refine v_istore (q := 80) dL_law_78 rfl (by decide) rfl ?_
              exact h
            · have h := h.2 (c)
              refine v_iconst (v := (nI 0)) (q := 61) dL_law_60 rfl (by decide) ?_
              exact v_zret dL_law_61 rfl (by decide) ⟨_, rfl, h⟩
set_option maxRecDepth 20000 in
theorem bL_law_80 {d : Nat} {σ : SS} {sc : Scr} {K : Int32 → SS → Prop} (v2 : Int32) (v3 : Int32) (v4 : Int32)  (hd1 : 1 ≤ d) (h : ((v3 ≤ v4) → (CTi mL_low (d - 1) [.int (v2 >>> ((nI 5) &&& 31)), .int (nI 100)] σ (fun x1 s2 => CTi mX6_set (d - 1) [.ref 0, .int (nI 0), .int ((nI 1) + x1)] s2 (fun x3 s4 => CTi mL_low (d - 1) [.int (v2 >>> ((nI 9) &&& 31)), .int (nI 51)] s4 (fun x5 s6 => CTi mX6_set (d - 1) [.ref 0, .int (nI 1), .int x5] s6 (fun x7 s8 => CTi mL_low (d - 1) [.int (v2 >>> ((nI 12) &&& 31)), .int (nI 81)] s8 (fun x9 s10 => CTi mX6_set (d - 1) [.ref 0, .int (nI 2), .int x9] s10 (fun x11 s12 => CTi mL_low (d - 1) [.int (v2 >>> ((nI 15) &&& 31)), .int (nI 20)] s12 (fun x13 s14 => CTi mX6_set (d - 1) [.ref 0, .int (nI 3), .int x13] s14 (fun x15 s16 => CTi mL_low (d - 1) [.int (v2 >>> ((nI 18) &&& 31)), .int (nI 100)] s16 (fun x17 s18 => CTi mX6_set (d - 1) [.ref 0, .int (nI 4), .int ((nI 1) + x17)] s18 (fun x19 s20 => CTi mL_low (d - 1) [.int (v2 >>> ((nI 21) &&& 31)), .int (nI 12)] s20 (fun x21 s22 => VV mL_law d sc 212 [some (.ref 102), some (.ref 0), some (.int v2), some (.int v3), some (.int ((nI 1) + x21)), some (.int (nI 0)), none, none, none, none, none, none, none, none, none, none, none, none, none, none] [] s22 (Qi K)))))))))))))) ∧ ((¬ v3 ≤ v4) → (CTi mX6_addMember (d - 1) [.ref 0] σ (fun x23 s24 => CTi mL_low (d - 1) [.int (v2 >>> (((nI 3) + ((nI 3) * v4)) &&& 31)), .int (nI 201)] s24 (fun x25 s26 => CTi mX6_setPrice (d - 1) [.ref 0, .int v4, .int x25] s26 (fun x27 s28 => VV mL_law d sc 80 [some (.ref 102), some (.ref 0), some (.int v2), some (.int v3), some (.int (v4 + nI 1)), none, none, none, none, none, none, none, none, none, none, none, none, none, none, none] [] s28 (Qi K))))))) : VV mL_law d sc 80 [some (.ref 102), some (.ref 0), some (.int v2), some (.int v3), some (.int v4), none, none, none, none, none, none, none, none, none, none, none, none, none, none, none] [] σ (Qi K) := by
  refine v_iload (q := 82) dL_law_80 rfl rfl ?_
  refine v_iload_n (q := 83) dL_law_82 rfl rfl ?_
  refine v_icmp_ge (t := 118) (q := 86) dL_law_83 rfl (by decide) (fun c => ?_) (fun c => ?_)
  · have h := h.1 (c)
    refine v_aload_n (q := 119) dL_law_118 rfl rfl ?_
    refine v_iconst (v := (nI 0)) (q := 120) dL_law_119 rfl (by decide) ?_
    refine v_iconst (v := (nI 1)) (q := 121) dL_law_120 rfl (by decide) ?_
    refine v_iload_n (q := 122) dL_law_121 rfl rfl ?_
    refine v_iconst (v := (nI 5)) (q := 123) dL_law_122 rfl (by decide) ?_
    refine v_ishr (q := 124) dL_law_123 rfl ?_
    refine v_bipush (v := (nI 100)) (q := 126) dL_law_124 rfl (by decide) ?_
    refine v_callS (As := [.int (v2 >>> ((nI 5) &&& 31)), .int (nI 100)]) (n := 2) (q := 129) dL_law_126 rfl lk_8_14 hd1 rfl (Nat.le_of_ble_eq_true rfl) (CT.imp h (fun r s2 h => ?_))
    obtain ⟨x1, rfl, h⟩ := h
    show VV mL_law d sc 129 [some (.ref 102), some (.ref 0), some (.int v2), some (.int v3), some (.int v4), none, none, none, none, none, none, none, none, none, none, none, none, none, none, none] [.int x1, .int (nI 1), .int (nI 0), .ref 0] s2 (Qi K)
    refine v_iadd (q := 130) dL_law_129 rfl ?_
    refine v_callV (As := [.int (nI 0), .int ((nI 1) + x1)]) (n := 2) (q := 133) dL_law_130 rfl lk_8_71 hd1 rfl rfl (Nat.le_of_ble_eq_true rfl) (CT.imp h (fun r s4 h => ?_))
    obtain ⟨x3, rfl, h⟩ := h
    show VV mL_law d sc 133 [some (.ref 102), some (.ref 0), some (.int v2), some (.int v3), some (.int v4), none, none, none, none, none, none, none, none, none, none, none, none, none, none, none] [.int x3] s4 (Qi K)
    refine v_pop (q := 134) dL_law_133 rfl rfl ?_
    refine v_aload_n (q := 135) dL_law_134 rfl rfl ?_
    refine v_iconst (v := (nI 1)) (q := 136) dL_law_135 rfl (by decide) ?_
    refine v_iload_n (q := 137) dL_law_136 rfl rfl ?_
    refine v_bipush (v := (nI 9)) (q := 139) dL_law_137 rfl (by decide) ?_
    refine v_ishr (q := 140) dL_law_139 rfl ?_
    refine v_bipush (v := (nI 51)) (q := 142) dL_law_140 rfl (by decide) ?_
    refine v_callS (As := [.int (v2 >>> ((nI 9) &&& 31)), .int (nI 51)]) (n := 2) (q := 145) dL_law_142 rfl lk_8_14 hd1 rfl (Nat.le_of_ble_eq_true rfl) (CT.imp h (fun r s6 h => ?_))
    obtain ⟨x5, rfl, h⟩ := h
    show VV mL_law d sc 145 [some (.ref 102), some (.ref 0), some (.int v2), some (.int v3), some (.int v4), none, none, none, none, none, none, none, none, none, none, none, none, none, none, none] [.int x5, .int (nI 1), .ref 0] s6 (Qi K)
    refine v_callV (As := [.int (nI 1), .int x5]) (n := 2) (q := 148) dL_law_145 rfl lk_8_71 hd1 rfl rfl (Nat.le_of_ble_eq_true rfl) (CT.imp h (fun r s8 h => ?_))
    obtain ⟨x7, rfl, h⟩ := h
    show VV mL_law d sc 148 [some (.ref 102), some (.ref 0), some (.int v2), some (.int v3), some (.int v4), none, none, none, none, none, none, none, none, none, none, none, none, none, none, none] [.int x7] s8 (Qi K)
    refine v_pop (q := 149) dL_law_148 rfl rfl ?_
    refine v_aload_n (q := 150) dL_law_149 rfl rfl ?_
    refine v_iconst (v := (nI 2)) (q := 151) dL_law_150 rfl (by decide) ?_
    refine v_iload_n (q := 152) dL_law_151 rfl rfl ?_
    refine v_bipush (v := (nI 12)) (q := 154) dL_law_152 rfl (by decide) ?_
    refine v_ishr (q := 155) dL_law_154 rfl ?_
    refine v_bipush (v := (nI 81)) (q := 157) dL_law_155 rfl (by decide) ?_
    refine v_callS (As := [.int (v2 >>> ((nI 12) &&& 31)), .int (nI 81)]) (n := 2) (q := 160) dL_law_157 rfl lk_8_14 hd1 rfl (Nat.le_of_ble_eq_true rfl) (CT.imp h (fun r s10 h => ?_))
    obtain ⟨x9, rfl, h⟩ := h
    show VV mL_law d sc 160 [some (.ref 102), some (.ref 0), some (.int v2), some (.int v3), some (.int v4), none, none, none, none, none, none, none, none, none, none, none, none, none, none, none] [.int x9, .int (nI 2), .ref 0] s10 (Qi K)
    refine v_callV (As := [.int (nI 2), .int x9]) (n := 2) (q := 163) dL_law_160 rfl lk_8_71 hd1 rfl rfl (Nat.le_of_ble_eq_true rfl) (CT.imp h (fun r s12 h => ?_))
    obtain ⟨x11, rfl, h⟩ := h
    show VV mL_law d sc 163 [some (.ref 102), some (.ref 0), some (.int v2), some (.int v3), some (.int v4), none, none, none, none, none, none, none, none, none, none, none, none, none, none, none] [.int x11] s12 (Qi K)
    refine v_pop (q := 164) dL_law_163 rfl rfl ?_
    refine v_aload_n (q := 165) dL_law_164 rfl rfl ?_
    refine v_iconst (v := (nI 3)) (q := 166) dL_law_165 rfl (by decide) ?_
    refine v_iload_n (q := 167) dL_law_166 rfl rfl ?_
    refine v_bipush (v := (nI 15)) (q := 169) dL_law_167 rfl (by decide) ?_
    refine v_ishr (q := 170) dL_law_169 rfl ?_
    refine v_bipush (v := (nI 20)) (q := 172) dL_law_170 rfl (by decide) ?_
    refine v_callS (As := [.int (v2 >>> ((nI 15) &&& 31)), .int (nI 20)]) (n := 2) (q := 175) dL_law_172 rfl lk_8_14 hd1 rfl (Nat.le_of_ble_eq_true rfl) (CT.imp h (fun r s14 h => ?_))
    obtain ⟨x13, rfl, h⟩ := h
    show VV mL_law d sc 175 [some (.ref 102), some (.ref 0), some (.int v2), some (.int v3), some (.int v4), none, none, none, none, none, none, none, none, none, none, none, none, none, none, none] [.int x13, .int (nI 3), .ref 0] s14 (Qi K)
    refine v_callV (As := [.int (nI 3), .int x13]) (n := 2) (q := 178) dL_law_175 rfl lk_8_71 hd1 rfl rfl (Nat.le_of_ble_eq_true rfl) (CT.imp h (fun r s16 h => ?_))
    obtain ⟨x15, rfl, h⟩ := h
    show VV mL_law d sc 178 [some (.ref 102), some (.ref 0), some (.int v2), some (.int v3), some (.int v4), none, none, none, none, none, none, none, none, none, none, none, none, none, none, none] [.int x15] s16 (Qi K)
    refine v_pop (q := 179) dL_law_178 rfl rfl ?_
    refine v_aload_n (q := 180) dL_law_179 rfl rfl ?_
    refine v_iconst (v := (nI 4)) (q := 181) dL_law_180 rfl (by decide) ?_
    refine v_iconst (v := (nI 1)) (q := 182) dL_law_181 rfl (by decide) ?_
    refine v_iload_n (q := 183) dL_law_182 rfl rfl ?_
    refine v_bipush (v := (nI 18)) (q := 185) dL_law_183 rfl (by decide) ?_
    refine v_ishr (q := 186) dL_law_185 rfl ?_
    refine v_bipush (v := (nI 100)) (q := 188) dL_law_186 rfl (by decide) ?_
    refine v_callS (As := [.int (v2 >>> ((nI 18) &&& 31)), .int (nI 100)]) (n := 2) (q := 191) dL_law_188 rfl lk_8_14 hd1 rfl (Nat.le_of_ble_eq_true rfl) (CT.imp h (fun r s18 h => ?_))
    obtain ⟨x17, rfl, h⟩ := h
    show VV mL_law d sc 191 [some (.ref 102), some (.ref 0), some (.int v2), some (.int v3), some (.int v4), none, none, none, none, none, none, none, none, none, none, none, none, none, none, none] [.int x17, .int (nI 1), .int (nI 4), .ref 0] s18 (Qi K)
    refine v_iadd (q := 192) dL_law_191 rfl ?_
    refine v_callV (As := [.int (nI 4), .int ((nI 1) + x17)]) (n := 2) (q := 195) dL_law_192 rfl lk_8_71 hd1 rfl rfl (Nat.le_of_ble_eq_true rfl) (CT.imp h (fun r s20 h => ?_))
    obtain ⟨x19, rfl, h⟩ := h
    show VV mL_law d sc 195 [some (.ref 102), some (.ref 0), some (.int v2), some (.int v3), some (.int v4), none, none, none, none, none, none, none, none, none, none, none, none, none, none, none] [.int x19] s20 (Qi K)
    refine v_pop (q := 196) dL_law_195 rfl rfl ?_
    refine v_iconst (v := (nI 1)) (q := 197) dL_law_196 rfl (by decide) ?_
    refine v_iload_n (q := 198) dL_law_197 rfl rfl ?_
    refine v_bipush (v := (nI 21)) (q := 200) dL_law_198 rfl (by decide) ?_
    refine v_ishr (q := 201) dL_law_200 rfl ?_
    refine v_bipush (v := (nI 12)) (q := 203) dL_law_201 rfl (by decide) ?_
    refine v_callS (As := [.int (v2 >>> ((nI 21) &&& 31)), .int (nI 12)]) (n := 2) (q := 206) dL_law_203 rfl lk_8_14 hd1 rfl (Nat.le_of_ble_eq_true rfl) (CT.imp h (fun r s22 h => ?_))
    obtain ⟨x21, rfl, h⟩ := h
    show VV mL_law d sc 206 [some (.ref 102), some (.ref 0), some (.int v2), some (.int v3), some (.int v4), none, none, none, none, none, none, none, none, none, none, none, none, none, none, none] [.int x21, .int (nI 1)] s22 (Qi K)
    refine v_iadd (q := 207) dL_law_206 rfl ?_
    refine v_istore (q := 209) dL_law_207 rfl (by decide) rfl ?_
    refine v_iconst (v := (nI 0)) (q := 210) dL_law_209 rfl (by decide) ?_
    refine v_istore (q := 212) dL_law_210 rfl (by decide) rfl ?_
    exact h
  · have h := h.2 (c)
    refine v_aload_n (q := 87) dL_law_86 rfl rfl ?_
    refine v_callV (As := []) (n := 0) (q := 90) dL_law_87 rfl lk_8_65 hd1 rfl rfl (Nat.le_of_ble_eq_true rfl) (CT.imp h (fun r s24 h => ?_))
    obtain ⟨x23, rfl, h⟩ := h
    show VV mL_law d sc 90 [some (.ref 102), some (.ref 0), some (.int v2), some (.int v3), some (.int v4), none, none, none, none, none, none, none, none, none, none, none, none, none, none, none] [.int x23] s24 (Qi K)
    refine v_pop (q := 91) dL_law_90 rfl rfl ?_
    refine v_aload_n (q := 92) dL_law_91 rfl rfl ?_
    refine v_iload (q := 94) dL_law_92 rfl rfl ?_
    refine v_iload_n (q := 95) dL_law_94 rfl rfl ?_
    refine v_iconst (v := (nI 3)) (q := 96) dL_law_95 rfl (by decide) ?_
    refine v_iconst (v := (nI 3)) (q := 97) dL_law_96 rfl (by decide) ?_
    refine v_iload (q := 99) dL_law_97 rfl rfl ?_
    refine v_imul (q := 100) dL_law_99 rfl ?_
    refine v_iadd (q := 101) dL_law_100 rfl ?_
    refine v_ishr (q := 102) dL_law_101 rfl ?_
    refine v_sipush (v := (nI 201)) (q := 105) dL_law_102 rfl (by decide) ?_
    refine v_callS (As := [.int (v2 >>> (((nI 3) + ((nI 3) * v4)) &&& 31)), .int (nI 201)]) (n := 2) (q := 108) dL_law_105 rfl lk_8_14 hd1 rfl (Nat.le_of_ble_eq_true rfl) (CT.imp h (fun r s26 h => ?_))
    obtain ⟨x25, rfl, h⟩ := h
    show VV mL_law d sc 108 [some (.ref 102), some (.ref 0), some (.int v2), some (.int v3), some (.int v4), none, none, none, none, none, none, none, none, none, none, none, none, none, none, none] [.int x25, .int v4, .ref 0] s26 (Qi K)
    refine v_callV (As := [.int v4, .int x25]) (n := 2) (q := 111) dL_law_108 rfl lk_8_68 hd1 rfl rfl (Nat.le_of_ble_eq_true rfl) (CT.imp h (fun r s28 h => ?_))
    obtain ⟨x27, rfl, h⟩ := h
    show VV mL_law d sc 111 [some (.ref 102), some (.ref 0), some (.int v2), some (.int v3), some (.int v4), none, none, none, none, none, none, none, none, none, none, none, none, none, none, none] [.int x27] s28 (Qi K)
    refine v_pop (q := 112) dL_law_111 rfl rfl ?_
    refine v_iinc (y := (v4 + nI 1)) (q := 115) dL_law_112 rfl rfl (congrArg (fun z => v4 + z) (by decide)) (by decide) rfl ?_
    refine v_goto (q := 80) dL_law_115 (by decide) ?_
    exact h
set_option maxRecDepth 20000 in
theorem bL_law_212 {d : Nat} {σ : SS} {sc : Scr} {K : Int32 → SS → Prop} (v2 : Int32) (v3 : Int32) (v4 : Int32) (v5 : Int32)  (hd1 : 1 ≤ d) (h : ((v4 ≤ v5) → (CTi mL_fits (d - 1) [.ref 0] σ (fun x1 s2 => ((¬ x1 = 0) → (VV mL_law d sc 368 [some (.ref 102), some (.ref 0), some (.int v2), some (.int v3), some (.int v4), some (.int (nI 0)), none, none, none, none, none, none, none, none, none, none, none, none, none, none] [] s2 (Qi K))) ∧ ((x1 = 0) → (K (nI 0) s2))))) ∧ ((¬ v4 ≤ v5) → ((sc.1 < 2 ^ 31 ∧ ¬ ((nI 1) + v5) < 0) ∧ (∀ x3 : Int32, CTi mL_low (d - 1) [.int x3, .int (nI 6)] σ (fun x4 s5 => (sc.1 < 2 ^ 31 ∧ ¬ ((nI 13) + v5) < 0) ∧ (∀ x6 : Int32, CTi mL_sentence (d - 1) [.ref 0, .int ((nI 1) + x4), .int x6] s5 (fun x7 s8 => ((v5 ≤ 0) → (VV mL_law d sc 280 [some (.ref 102), some (.ref 0), some (.int v2), some (.int v3), some (.int v4), some (.int v5), some (.int x3), some (.int x7), none, none, none, none, none, none, none, none, none, none, none, none] [] s8 (Qi K))) ∧ ((¬ v5 ≤ 0) → (((((x3 >>> ((nI 5) &&& 31)) &&& (nI 3)) ≤ 0) → (VV mL_law d sc 280 [some (.ref 102), some (.ref 0), some (.int v2), some (.int v3), some (.int v4), some (.int v5), some (.int x3), some (.int x7), none, none, none, none, none, none, none, none, none, none, none, none] [] s8 (Qi K))) ∧ ((¬ ((x3 >>> ((nI 5) &&& 31)) &&& (nI 3)) ≤ 0) → (CTi mL_low (d - 1) [.int (x3 >>> ((nI 7) &&& 31)), .int v5] s8 (fun x9 s10 => CTi mL_low (d - 1) [.int (x3 >>> ((nI 11) &&& 31)), .int v3] s10 (fun x11 s12 => CTi mL_low (d - 1) [.int (x3 >>> ((nI 14) &&& 31)), .int (nI 3)] s12 (fun x13 s14 => CTi mX6_addPhrase (d - 1) [.ref 0, .int x11, .int x13, .int x9] s14 (fun x15 s16 => ((¬ x15 = v5) → (K (nI 0) s16)) ∧ ((x15 = v5) → (CTi mX6_phrase (d - 1) [.ref 0, .int v5, .int (nI 1)] s16 (fun x17 s18 => ((¬ x17 = x7) → (K (nI 0) s18)) ∧ ((x17 = x7) → (CTi mX6_alike (d - 1) [.ref 0, .int v5] s18 (fun x19 s20 => ((¬ x19 = (nI 100)) → (K (nI 0) s20)) ∧ ((x19 = (nI 100)) → (CTi mX6_phrase (d - 1) [.ref 0, .int v5, .int (nI 3)] s20 (fun x21 s22 => ((x21 = x9) → (VV mL_law d sc 212 [some (.ref 102), some (.ref 0), some (.int v2), some (.int v3), some (.int v4), some (.int (v5 + nI 1)), none, none, none, none, none, none, none, none, none, none, none, none, none, none] [] s22 (Qi K))) ∧ ((¬ x21 = x9) → (K (nI 0) s22)))))))))))))))))))))))))) : VV mL_law d sc 212 [some (.ref 102), some (.ref 0), some (.int v2), some (.int v3), some (.int v4), some (.int v5), none, none, none, none, none, none, none, none, none, none, none, none, none, none] [] σ (Qi K) := by
  refine v_iload (q := 214) dL_law_212 rfl rfl ?_
  refine v_iload (q := 216) dL_law_214 rfl rfl ?_
  refine v_icmp_ge (t := 356) (q := 219) dL_law_216 rfl (by decide) (fun c => ?_) (fun c => ?_)
  · have h := h.1 (c)
    refine v_aload_n (q := 357) dL_law_356 rfl rfl ?_
    refine v_callS (As := [.ref 0]) (n := 1) (q := 360) dL_law_357 rfl lk_8_40 hd1 rfl (Nat.le_of_ble_eq_true rfl) (CT.imp h (fun r s2 h => ?_))
    obtain ⟨x1, rfl, h⟩ := h
    show VV mL_law d sc 360 [some (.ref 102), some (.ref 0), some (.int v2), some (.int v3), some (.int v4), some (.int v5), none, none, none, none, none, none, none, none, none, none, none, none, none, none] [.int x1] s2 (Qi K)
    refine v_if_ne (t := 365) (q := 363) dL_law_360 rfl (by decide) (fun c => ?_) (fun c => ?_)
    · have h := h.1 (c)
      refine v_iconst (v := (nI 0)) (q := 366) dL_law_365 rfl (by decide) ?_
      refine v_istore (q := 368) dL_law_366 rfl (by decide) rfl ?_
      exact h
    · have h := h.2 (c)
      refine v_iconst (v := (nI 0)) (q := 364) dL_law_363 rfl (by decide) ?_
      exact v_zret dL_law_364 rfl (by decide) ⟨_, rfl, h⟩
  · have h := h.2 (c)
    refine v_aload_n (q := 220) dL_law_219 rfl rfl ?_
    refine v_iconst (v := (nI 1)) (q := 221) dL_law_220 rfl (by decide) ?_
    refine v_iload (q := 223) dL_law_221 rfl rfl ?_
    refine v_iadd (q := 224) dL_law_223 rfl ?_
    refine v_cell (q := 227) dL_law_224 rfl rfl lk_8_61 hd1 (Nat.le_of_ble_eq_true rfl) h.1 (fun x3 => ?_)
    have h := h.2 x3
    refine v_istore (q := 229) dL_law_227 rfl (by decide) rfl ?_
    refine v_aload_n (q := 230) dL_law_229 rfl rfl ?_
    refine v_iconst (v := (nI 1)) (q := 231) dL_law_230 rfl (by decide) ?_
    refine v_iload (q := 233) dL_law_231 rfl rfl ?_
    refine v_bipush (v := (nI 6)) (q := 235) dL_law_233 rfl (by decide) ?_
    refine v_callS (As := [.int x3, .int (nI 6)]) (n := 2) (q := 238) dL_law_235 rfl lk_8_14 hd1 rfl (Nat.le_of_ble_eq_true rfl) (CT.imp h (fun r s5 h => ?_))
    obtain ⟨x4, rfl, h⟩ := h
    show VV mL_law d sc 238 [some (.ref 102), some (.ref 0), some (.int v2), some (.int v3), some (.int v4), some (.int v5), some (.int x3), none, none, none, none, none, none, none, none, none, none, none, none, none] [.int x4, .int (nI 1), .ref 0] s5 (Qi K)
    refine v_iadd (q := 239) dL_law_238 rfl ?_
    refine v_aload_n (q := 240) dL_law_239 rfl rfl ?_
    refine v_bipush (v := (nI 13)) (q := 242) dL_law_240 rfl (by decide) ?_
    refine v_iload (q := 244) dL_law_242 rfl rfl ?_
    refine v_iadd (q := 245) dL_law_244 rfl ?_
    refine v_cell (q := 248) dL_law_245 rfl rfl lk_8_61 hd1 (Nat.le_of_ble_eq_true rfl) h.1 (fun x6 => ?_)
    have h := h.2 x6
    refine v_callS (As := [.ref 0, .int ((nI 1) + x4), .int x6]) (n := 3) (q := 251) dL_law_248 rfl lk_8_74 hd1 rfl (Nat.le_of_ble_eq_true rfl) (CT.imp h (fun r s8 h => ?_))
    obtain ⟨x7, rfl, h⟩ := h
    show VV mL_law d sc 251 [some (.ref 102), some (.ref 0), some (.int v2), some (.int v3), some (.int v4), some (.int v5), some (.int x3), none, none, none, none, none, none, none, none, none, none, none, none, none] [.int x7] s8 (Qi K)
    refine v_istore (q := 253) dL_law_251 rfl (by decide) rfl ?_
    refine v_iload (q := 255) dL_law_253 rfl rfl ?_
    refine v_if_le (t := 280) (q := 258) dL_law_255 rfl (by decide) (fun c => ?_) (fun c => ?_)
    · have h := h.1 (c)
      exact h
    · have h := h.2 (c)
      refine v_iload (q := 260) dL_law_258 rfl rfl ?_
      refine v_iconst (v := (nI 5)) (q := 261) dL_law_260 rfl (by decide) ?_
      refine v_ishr (q := 262) dL_law_261 rfl ?_
      refine v_iconst (v := (nI 3)) (q := 263) dL_law_262 rfl (by decide) ?_
      refine v_iand (q := 264) dL_law_263 rfl ?_
      refine v_if_le (t := 280) (q := 267) dL_law_264 rfl (by decide) (fun c => ?_) (fun c => ?_)
      · have h := h.1 (c)
        exact h
      · have h := h.2 (c)
        refine v_iload (q := 269) dL_law_267 rfl rfl ?_
        refine v_bipush (v := (nI 7)) (q := 271) dL_law_269 rfl (by decide) ?_
        refine v_ishr (q := 272) dL_law_271 rfl ?_
        refine v_iload (q := 274) dL_law_272 rfl rfl ?_
        refine v_callS (As := [.int (x3 >>> ((nI 7) &&& 31)), .int v5]) (n := 2) (q := 277) dL_law_274 rfl lk_8_14 hd1 rfl (Nat.le_of_ble_eq_true rfl) (CT.imp h (fun r s10 h => ?_))
        obtain ⟨x9, rfl, h⟩ := h
        show VV mL_law d sc 277 [some (.ref 102), some (.ref 0), some (.int v2), some (.int v3), some (.int v4), some (.int v5), some (.int x3), some (.int x7), none, none, none, none, none, none, none, none, none, none, none, none] [.int x9] s10 (Qi K)
        refine v_goto (q := 282) dL_law_277 (by decide) ?_
        refine v_istore (q := 284) dL_law_282 rfl (by decide) rfl ?_
        refine v_aload_n (q := 285) dL_law_284 rfl rfl ?_
        refine v_iload (q := 287) dL_law_285 rfl rfl ?_
        refine v_bipush (v := (nI 11)) (q := 289) dL_law_287 rfl (by decide) ?_
        refine v_ishr (q := 290) dL_law_289 rfl ?_
        refine v_iload_n (q := 291) dL_law_290 rfl rfl ?_
        refine v_callS (As := [.int (x3 >>> ((nI 11) &&& 31)), .int v3]) (n := 2) (q := 294) dL_law_291 rfl lk_8_14 hd1 rfl (Nat.le_of_ble_eq_true rfl) (CT.imp h (fun r s12 h => ?_))
        obtain ⟨x11, rfl, h⟩ := h
        show VV mL_law d sc 294 [some (.ref 102), some (.ref 0), some (.int v2), some (.int v3), some (.int v4), some (.int v5), some (.int x3), some (.int x7), some (.int x9), none, none, none, none, none, none, none, none, none, none, none] [.int x11, .ref 0] s12 (Qi K)
        refine v_iload (q := 296) dL_law_294 rfl rfl ?_
        refine v_bipush (v := (nI 14)) (q := 298) dL_law_296 rfl (by decide) ?_
        refine v_ishr (q := 299) dL_law_298 rfl ?_
        refine v_iconst (v := (nI 3)) (q := 300) dL_law_299 rfl (by decide) ?_
        refine v_callS (As := [.int (x3 >>> ((nI 14) &&& 31)), .int (nI 3)]) (n := 2) (q := 303) dL_law_300 rfl lk_8_14 hd1 rfl (Nat.le_of_ble_eq_true rfl) (CT.imp h (fun r s14 h => ?_))
        obtain ⟨x13, rfl, h⟩ := h
        show VV mL_law d sc 303 [some (.ref 102), some (.ref 0), some (.int v2), some (.int v3), some (.int v4), some (.int v5), some (.int x3), some (.int x7), some (.int x9), none, none, none, none, none, none, none, none, none, none, none] [.int x13, .int x11, .ref 0] s14 (Qi K)
        refine v_iload (q := 305) dL_law_303 rfl rfl ?_
        refine v_callV (As := [.int x11, .int x13, .int x9]) (n := 3) (q := 308) dL_law_305 rfl lk_8_79 hd1 rfl rfl (Nat.le_of_ble_eq_true rfl) (CT.imp h (fun r s16 h => ?_))
        obtain ⟨x15, rfl, h⟩ := h
        show VV mL_law d sc 308 [some (.ref 102), some (.ref 0), some (.int v2), some (.int v3), some (.int v4), some (.int v5), some (.int x3), some (.int x7), some (.int x9), none, none, none, none, none, none, none, none, none, none, none] [.int x15] s16 (Qi K)
        refine v_iload (q := 310) dL_law_308 rfl rfl ?_
        refine v_icmp_ne (t := 348) (q := 313) dL_law_310 rfl (by decide) (fun c => ?_) (fun c => ?_)
        · have h := h.1 (c)
          refine v_iconst (v := (nI 0)) (q := 349) dL_law_348 rfl (by decide) ?_
          exact v_zret dL_law_349 rfl (by decide) ⟨_, rfl, h⟩
        · have h := h.2 (c)
          refine v_aload_n (q := 314) dL_law_313 rfl rfl ?_
          refine v_iload (q := 316) dL_law_314 rfl rfl ?_
          refine v_iconst (v := (nI 1)) (q := 317) dL_law_316 rfl (by decide) ?_
          refine v_callV (As := [.int v5, .int (nI 1)]) (n := 2) (q := 320) dL_law_317 rfl lk_8_30 hd1 rfl rfl (Nat.le_of_ble_eq_true rfl) (CT.imp h (fun r s18 h => ?_))
          obtain ⟨x17, rfl, h⟩ := h
          show VV mL_law d sc 320 [some (.ref 102), some (.ref 0), some (.int v2), some (.int v3), some (.int v4), some (.int v5), some (.int x3), some (.int x7), some (.int x9), none, none, none, none, none, none, none, none, none, none, none] [.int x17] s18 (Qi K)
          refine v_iload (q := 322) dL_law_320 rfl rfl ?_
          refine v_icmp_ne (t := 348) (q := 325) dL_law_322 rfl (by decide) (fun c => ?_) (fun c => ?_)
          · have h := h.1 (c)
            refine v_iconst (v := (nI 0)) (q := 349) dL_law_348 rfl (by decide) ?_
            exact v_zret dL_law_349 rfl (by decide) ⟨_, rfl, h⟩
          · have h := h.2 (c)
            refine v_aload_n (q := 326) dL_law_325 rfl rfl ?_
            refine v_iload (q := 328) dL_law_326 rfl rfl ?_
            refine v_callV (As := [.int v5]) (n := 1) (q := 331) dL_law_328 rfl lk_8_83 hd1 rfl rfl (Nat.le_of_ble_eq_true rfl) (CT.imp h (fun r s20 h => ?_))
            obtain ⟨x19, rfl, h⟩ := h
            show VV mL_law d sc 331 [some (.ref 102), some (.ref 0), some (.int v2), some (.int v3), some (.int v4), some (.int v5), some (.int x3), some (.int x7), some (.int x9), none, none, none, none, none, none, none, none, none, none, none] [.int x19] s20 (Qi K)
            refine v_bipush (v := (nI 100)) (q := 333) dL_law_331 rfl (by decide) ?_
            refine v_icmp_ne (t := 348) (q := 336) dL_law_333 rfl (by decide) (fun c => ?_) (fun c => ?_)
            · have h := h.1 (c)
              refine v_iconst (v := (nI 0)) (q := 349) dL_law_348 rfl (by decide) ?_
              exact v_zret dL_law_349 rfl (by decide) ⟨_, rfl, h⟩
            · have h := h.2 (c)
              refine v_aload_n (q := 337) dL_law_336 rfl rfl ?_
              refine v_iload (q := 339) dL_law_337 rfl rfl ?_
              refine v_iconst (v := (nI 3)) (q := 340) dL_law_339 rfl (by decide) ?_
              refine v_callV (As := [.int v5, .int (nI 3)]) (n := 2) (q := 343) dL_law_340 rfl lk_8_30 hd1 rfl rfl (Nat.le_of_ble_eq_true rfl) (CT.imp h (fun r s22 h => ?_))
              obtain ⟨x21, rfl, h⟩ := h
              show VV mL_law d sc 343 [some (.ref 102), some (.ref 0), some (.int v2), some (.int v3), some (.int v4), some (.int v5), some (.int x3), some (.int x7), some (.int x9), none, none, none, none, none, none, none, none, none, none, none] [.int x21] s22 (Qi K)
              refine v_iload (q := 345) dL_law_343 rfl rfl ?_
              refine v_icmp_eq (t := 350) (q := 348) dL_law_345 rfl (by decide) (fun c => ?_) (fun c => ?_)
              · have h := h.1 (c)
                refine v_iinc (y := (v5 + nI 1)) (q := 353) dL_law_350 rfl rfl (congrArg (fun z => v5 + z) (by decide)) (by decide) rfl ?_
                refine v_goto (q := 212) dL_law_353 (by decide) ?_
                exact v_msk [true, true, true, true, true, true, false, false, false, false, false, false, false, false, false, false, false, false, false, false] h
              · have h := h.2 (c)
                refine v_iconst (v := (nI 0)) (q := 349) dL_law_348 rfl (by decide) ?_
                exact v_zret dL_law_349 rfl (by decide) ⟨_, rfl, h⟩
set_option maxRecDepth 20000 in
theorem bL_law_280 {d : Nat} {σ : SS} {sc : Scr} {K : Int32 → SS → Prop} (v2 : Int32) (v3 : Int32) (v4 : Int32) (v5 : Int32) (v6 : Int32) (v7 : Int32)  (hd1 : 1 ≤ d) (h : CTi mL_low (d - 1) [.int (v6 >>> ((nI 11) &&& 31)), .int v3] σ (fun x1 s2 => CTi mL_low (d - 1) [.int (v6 >>> ((nI 14) &&& 31)), .int (nI 3)] s2 (fun x3 s4 => CTi mX6_addPhrase (d - 1) [.ref 0, .int x1, .int x3, .int (-1000000)] s4 (fun x5 s6 => ((¬ x5 = v5) → (K (nI 0) s6)) ∧ ((x5 = v5) → (CTi mX6_phrase (d - 1) [.ref 0, .int v5, .int (nI 1)] s6 (fun x7 s8 => ((¬ x7 = v7) → (K (nI 0) s8)) ∧ ((x7 = v7) → (CTi mX6_alike (d - 1) [.ref 0, .int v5] s8 (fun x9 s10 => ((¬ x9 = (nI 100)) → (K (nI 0) s10)) ∧ ((x9 = (nI 100)) → (CTi mX6_phrase (d - 1) [.ref 0, .int v5, .int (nI 3)] s10 (fun x11 s12 => ((x11 = (-1000000)) → (VV mL_law d sc 212 [some (.ref 102), some (.ref 0), some (.int v2), some (.int v3), some (.int v4), some (.int (v5 + nI 1)), none, none, none, none, none, none, none, none, none, none, none, none, none, none] [] s12 (Qi K))) ∧ ((¬ x11 = (-1000000)) → (K (nI 0) s12))))))))))))))) : VV mL_law d sc 280 [some (.ref 102), some (.ref 0), some (.int v2), some (.int v3), some (.int v4), some (.int v5), some (.int v6), some (.int v7), none, none, none, none, none, none, none, none, none, none, none, none] [] σ (Qi K) := by
  refine v_ldc (v := (-1000000)) (q := 282) dL_law_280 rfl cn_8_78 ?_
  refine v_istore (q := 284) dL_law_282 rfl (by decide) rfl ?_
  refine v_aload_n (q := 285) dL_law_284 rfl rfl ?_
  refine v_iload (q := 287) dL_law_285 rfl rfl ?_
  refine v_bipush (v := (nI 11)) (q := 289) dL_law_287 rfl (by decide) ?_
  refine v_ishr (q := 290) dL_law_289 rfl ?_
  refine v_iload_n (q := 291) dL_law_290 rfl rfl ?_
  refine v_callS (As := [.int (v6 >>> ((nI 11) &&& 31)), .int v3]) (n := 2) (q := 294) dL_law_291 rfl lk_8_14 hd1 rfl (Nat.le_of_ble_eq_true rfl) (CT.imp h (fun r s2 h => ?_))
  obtain ⟨x1, rfl, h⟩ := h
  show VV mL_law d sc 294 [some (.ref 102), some (.ref 0), some (.int v2), some (.int v3), some (.int v4), some (.int v5), some (.int v6), some (.int v7), some (.int (-1000000)), none, none, none, none, none, none, none, none, none, none, none] [.int x1, .ref 0] s2 (Qi K)
  refine v_iload (q := 296) dL_law_294 rfl rfl ?_
  refine v_bipush (v := (nI 14)) (q := 298) dL_law_296 rfl (by decide) ?_
  refine v_ishr (q := 299) dL_law_298 rfl ?_
  refine v_iconst (v := (nI 3)) (q := 300) dL_law_299 rfl (by decide) ?_
  refine v_callS (As := [.int (v6 >>> ((nI 14) &&& 31)), .int (nI 3)]) (n := 2) (q := 303) dL_law_300 rfl lk_8_14 hd1 rfl (Nat.le_of_ble_eq_true rfl) (CT.imp h (fun r s4 h => ?_))
  obtain ⟨x3, rfl, h⟩ := h
  show VV mL_law d sc 303 [some (.ref 102), some (.ref 0), some (.int v2), some (.int v3), some (.int v4), some (.int v5), some (.int v6), some (.int v7), some (.int (-1000000)), none, none, none, none, none, none, none, none, none, none, none] [.int x3, .int x1, .ref 0] s4 (Qi K)
  refine v_iload (q := 305) dL_law_303 rfl rfl ?_
  refine v_callV (As := [.int x1, .int x3, .int (-1000000)]) (n := 3) (q := 308) dL_law_305 rfl lk_8_79 hd1 rfl rfl (Nat.le_of_ble_eq_true rfl) (CT.imp h (fun r s6 h => ?_))
  obtain ⟨x5, rfl, h⟩ := h
  show VV mL_law d sc 308 [some (.ref 102), some (.ref 0), some (.int v2), some (.int v3), some (.int v4), some (.int v5), some (.int v6), some (.int v7), some (.int (-1000000)), none, none, none, none, none, none, none, none, none, none, none] [.int x5] s6 (Qi K)
  refine v_iload (q := 310) dL_law_308 rfl rfl ?_
  refine v_icmp_ne (t := 348) (q := 313) dL_law_310 rfl (by decide) (fun c => ?_) (fun c => ?_)
  · have h := h.1 (c)
    refine v_iconst (v := (nI 0)) (q := 349) dL_law_348 rfl (by decide) ?_
    exact v_zret dL_law_349 rfl (by decide) ⟨_, rfl, h⟩
  · have h := h.2 (c)
    refine v_aload_n (q := 314) dL_law_313 rfl rfl ?_
    refine v_iload (q := 316) dL_law_314 rfl rfl ?_
    refine v_iconst (v := (nI 1)) (q := 317) dL_law_316 rfl (by decide) ?_
    refine v_callV (As := [.int v5, .int (nI 1)]) (n := 2) (q := 320) dL_law_317 rfl lk_8_30 hd1 rfl rfl (Nat.le_of_ble_eq_true rfl) (CT.imp h (fun r s8 h => ?_))
    obtain ⟨x7, rfl, h⟩ := h
    show VV mL_law d sc 320 [some (.ref 102), some (.ref 0), some (.int v2), some (.int v3), some (.int v4), some (.int v5), some (.int v6), some (.int v7), some (.int (-1000000)), none, none, none, none, none, none, none, none, none, none, none] [.int x7] s8 (Qi K)
    refine v_iload (q := 322) dL_law_320 rfl rfl ?_
    refine v_icmp_ne (t := 348) (q := 325) dL_law_322 rfl (by decide) (fun c => ?_) (fun c => ?_)
    · have h := h.1 (c)
      refine v_iconst (v := (nI 0)) (q := 349) dL_law_348 rfl (by decide) ?_
      exact v_zret dL_law_349 rfl (by decide) ⟨_, rfl, h⟩
    · have h := h.2 (c)
      refine v_aload_n (q := 326) dL_law_325 rfl rfl ?_
      refine v_iload (q := 328) dL_law_326 rfl rfl ?_
      refine v_callV (As := [.int v5]) (n := 1) (q := 331) dL_law_328 rfl lk_8_83 hd1 rfl rfl (Nat.le_of_ble_eq_true rfl) (CT.imp h (fun r s10 h => ?_))
      obtain ⟨x9, rfl, h⟩ := h
      show VV mL_law d sc 331 [some (.ref 102), some (.ref 0), some (.int v2), some (.int v3), some (.int v4), some (.int v5), some (.int v6), some (.int v7), some (.int (-1000000)), none, none, none, none, none, none, none, none, none, none, none] [.int x9] s10 (Qi K)
      refine v_bipush (v := (nI 100)) (q := 333) dL_law_331 rfl (by decide) ?_
      refine v_icmp_ne (t := 348) (q := 336) dL_law_333 rfl (by decide) (fun c => ?_) (fun c => ?_)
      · have h := h.1 (c)
        refine v_iconst (v := (nI 0)) (q := 349) dL_law_348 rfl (by decide) ?_
        exact v_zret dL_law_349 rfl (by decide) ⟨_, rfl, h⟩
      · have h := h.2 (c)
        refine v_aload_n (q := 337) dL_law_336 rfl rfl ?_
        refine v_iload (q := 339) dL_law_337 rfl rfl ?_
        refine v_iconst (v := (nI 3)) (q := 340) dL_law_339 rfl (by decide) ?_
        refine v_callV (As := [.int v5, .int (nI 3)]) (n := 2) (q := 343) dL_law_340 rfl lk_8_30 hd1 rfl rfl (Nat.le_of_ble_eq_true rfl) (CT.imp h (fun r s12 h => ?_))
        obtain ⟨x11, rfl, h⟩ := h
        show VV mL_law d sc 343 [some (.ref 102), some (.ref 0), some (.int v2), some (.int v3), some (.int v4), some (.int v5), some (.int v6), some (.int v7), some (.int (-1000000)), none, none, none, none, none, none, none, none, none, none, none] [.int x11] s12 (Qi K)
        refine v_iload (q := 345) dL_law_343 rfl rfl ?_
        refine v_icmp_eq (t := 350) (q := 348) dL_law_345 rfl (by decide) (fun c => ?_) (fun c => ?_)
        · have h := h.1 (c)
          refine v_iinc (y := (v5 + nI 1)) (q := 353) dL_law_350 rfl rfl (congrArg (fun z => v5 + z) (by decide)) (by decide) rfl ?_
          refine v_goto (q := 212) dL_law_353 (by decide) ?_
          exact v_msk [true, true, true, true, true, true, false, false, false, false, false, false, false, false, false, false, false, false, false, false] h
        · have h := h.2 (c)
          refine v_iconst (v := (nI 0)) (q := 349) dL_law_348 rfl (by decide) ?_
          exact v_zret dL_law_349 rfl (by decide) ⟨_, rfl, h⟩
set_option maxRecDepth 20000 in
theorem bL_law_368 {d : Nat} {σ : SS} {sc : Scr} {K : Int32 → SS → Prop} (v2 : Int32) (v3 : Int32) (v4 : Int32) (v5 : Int32)  (hd1 : 1 ≤ d) (h : (((nI 12) ≤ v5) → ((sc.1 < 2 ^ 31 ∧ ¬ (nI 37) < 0) ∧ (∀ x1 : Int32, CTi mL_low (d - 1) [.int x1, .int v4] σ (fun x2 s3 => CTl mX6_digest (d - 1) [.ref 0] s3 (fun x4 s5 => CTi mX6_wouldPayBack (d - 1) [.ref 0, .int x2] s5 (fun x6 s7 => CTi mX6_count (d - 1) [.ref 0, .int (nI 2)] s7 (fun x8 s9 => VV mL_law d sc 965 [some (.ref 102), some (.ref 0), some (.int v2), some (.int v3), some (.int v4), some (.int x2), some (.long x4), none, some (.int x6), some (.int x8), some (.int (nI 0)), some (.int (nI 0)), none, none, none, none, none, none, none, none] [] s9 (Qi K)))))))) ∧ ((¬ (nI 12) ≤ v5) → ((sc.1 < 2 ^ 31 ∧ ¬ ((nI 25) + v5) < 0) ∧ (∀ x10 : Int32, CTi mL_low (d - 1) [.int x10, .int v3] σ (fun x11 s12 => CTi mL_low (d - 1) [.int (x10 >>> ((nI 3) &&& 31)), .int (nI 6)] s12 (fun x13 s14 => CTi mL_sentence (d - 1) [.ref 0, .int ((nI 1) + x13), .int (x10 >>> ((nI 6) &&& 31))] s14 (fun x15 s16 => CTi mX6_match (d - 1) [.ref 0] s16 (fun x17 s18 => VV mL_law d sc 425 [some (.ref 102), some (.ref 0), some (.int v2), some (.int v3), some (.int v4), some (.int v5), some (.int x10), some (.int x11), some (.int x15), some (.int x17), some (.int (nI 0)), none, none, none, none, none, none, none, none, none] [] s18 (Qi K))))))))) : VV mL_law d sc 368 [some (.ref 102), some (.ref 0), some (.int v2), some (.int v3), some (.int v4), some (.int v5), none, none, none, none, none, none, none, none, none, none, none, none, none, none] [] σ (Qi K) := by
  refine v_iload (q := 370) dL_law_368 rfl rfl ?_
  refine v_bipush (v := (nI 12)) (q := 372) dL_law_370 rfl (by decide) ?_
  refine v_icmp_ge (t := 925) (q := 375) dL_law_372 rfl (by decide) (fun c => ?_) (fun c => ?_)
  · have h := h.1 (c)
    refine v_aload_n (q := 926) dL_law_925 rfl rfl ?_
    refine v_bipush (v := (nI 37)) (q := 928) dL_law_926 rfl (by decide) ?_
    refine v_cell (q := 931) dL_law_928 rfl rfl lk_8_61 hd1 (Nat.le_of_ble_eq_true rfl) h.1 (fun x1 => ?_)
    have h := h.2 x1
    refine v_iload (q := 933) dL_law_931 rfl rfl ?_
    refine v_callS (As := [.int x1, .int v4]) (n := 2) (q := 936) dL_law_933 rfl lk_8_14 hd1 rfl (Nat.le_of_ble_eq_true rfl) (CT.imp h (fun r s3 h => ?_))
    obtain ⟨x2, rfl, h⟩ := h
    show VV mL_law d sc 936 [some (.ref 102), some (.ref 0), some (.int v2), some (.int v3), some (.int v4), some (.int v5), none, none, none, none, none, none, none, none, none, none, none, none, none, none] [.int x2] s3 (Qi K)
    refine v_istore (q := 938) dL_law_936 rfl (by decide) rfl ?_
    refine v_aload_n (q := 939) dL_law_938 rfl rfl ?_
    refine v_callV (As := []) (n := 0) (q := 942) dL_law_939 rfl lk_8_86 hd1 rfl rfl (Nat.le_of_ble_eq_true rfl) (CT.imp h (fun r s5 h => ?_))
    obtain ⟨x4, rfl, h⟩ := h
    show VV mL_law d sc 942 [some (.ref 102), some (.ref 0), some (.int v2), some (.int v3), some (.int v4), some (.int x2), none, none, none, none, none, none, none, none, none, none, none, none, none, none] [.long x4] s5 (Qi K)
    refine v_lstore (q := 944) dL_law_942 rfl (by decide) rfl ?_
    refine v_aload_n (q := 945) dL_law_944 rfl rfl ?_
    refine v_iload (q := 947) dL_law_945 rfl rfl ?_
    refine v_callV (As := [.int x2]) (n := 1) (q := 950) dL_law_947 rfl lk_8_99 hd1 rfl rfl (Nat.le_of_ble_eq_true rfl) (CT.imp h (fun r s7 h => ?_))
    obtain ⟨x6, rfl, h⟩ := h
    show VV mL_law d sc 950 [some (.ref 102), some (.ref 0), some (.int v2), some (.int v3), some (.int v4), some (.int x2), some (.long x4), none, none, none, none, none, none, none, none, none, none, none, none, none] [.int x6] s7 (Qi K)
    refine v_istore (q := 952) dL_law_950 rfl (by decide) rfl ?_
    refine v_aload_n (q := 953) dL_law_952 rfl rfl ?_
    refine v_iconst (v := (nI 2)) (q := 954) dL_law_953 rfl (by decide) ?_
    refine v_callV (As := [.int (nI 2)]) (n := 1) (q := 957) dL_law_954 rfl lk_8_24 hd1 rfl rfl (Nat.le_of_ble_eq_true rfl) (CT.imp h (fun r s9 h => ?_))
    obtain ⟨x8, rfl, h⟩ := h
    show VV mL_law d sc 957 [some (.ref 102), some (.ref 0), some (.int v2), some (.int v3), some (.int v4), some (.int x2), some (.long x4), none, some (.int x6), none, none, none, none, none, none, none, none, none, none, none] [.int x8] s9 (Qi K)
    refine v_istore (q := 959) dL_law_957 rfl (by decide) rfl ?_
    refine v_iconst (v := (nI 0)) (q := 960) dL_law_959 rfl (by decide) ?_
    refine v_istore (q := 962) dL_law_960 rfl (by decide) rfl ?_
    refine v_iconst (v := (nI 0)) (q := 963) dL_law_962 rfl (by decide) ?_
    refine v_istore (q := 965) dL_law_963 rfl (by decide) rfl ?_
    exact h
  · have h := h.2 (c)
    refine v_aload_n (q := 376) dL_law_375 rfl rfl ?_
    refine v_bipush (v := (nI 25)) (q := 378) dL_law_376 rfl (by decide) ?_
    refine v_iload (q := 380) dL_law_378 rfl rfl ?_
    refine v_iadd (q := 381) dL_law_380 rfl ?_
    refine v_cell (q := 384) dL_law_381 rfl rfl lk_8_61 hd1 (Nat.le_of_ble_eq_true rfl) h.1 (fun x10 => ?_)
    have h := h.2 x10
    refine v_istore (q := 386) dL_law_384 rfl (by decide) rfl ?_
    refine v_iload (q := 388) dL_law_386 rfl rfl ?_
    refine v_iload_n (q := 389) dL_law_388 rfl rfl ?_
    refine v_callS (As := [.int x10, .int v3]) (n := 2) (q := 392) dL_law_389 rfl lk_8_14 hd1 rfl (Nat.le_of_ble_eq_true rfl) (CT.imp h (fun r s12 h => ?_))
    obtain ⟨x11, rfl, h⟩ := h
    show VV mL_law d sc 392 [some (.ref 102), some (.ref 0), some (.int v2), some (.int v3), some (.int v4), some (.int v5), some (.int x10), none, none, none, none, none, none, none, none, none, none, none, none, none] [.int x11] s12 (Qi K)
    refine v_istore (q := 394) dL_law_392 rfl (by decide) rfl ?_
    refine v_aload_n (q := 395) dL_law_394 rfl rfl ?_
    refine v_iconst (v := (nI 1)) (q := 396) dL_law_395 rfl (by decide) ?_
    refine v_iload (q := 398) dL_law_396 rfl rfl ?_
    refine v_iconst (v := (nI 3)) (q := 399) dL_law_398 rfl (by decide) ?_
    refine v_ishr (q := 400) dL_law_399 rfl ?_
    refine v_bipush (v := (nI 6)) (q := 402) dL_law_400 rfl (by decide) ?_
    refine v_callS (As := [.int (x10 >>> ((nI 3) &&& 31)), .int (nI 6)]) (n := 2) (q := 405) dL_law_402 rfl lk_8_14 hd1 rfl (Nat.le_of_ble_eq_true rfl) (CT.imp h (fun r s14 h => ?_))
    obtain ⟨x13, rfl, h⟩ := h
    show VV mL_law d sc 405 [some (.ref 102), some (.ref 0), some (.int v2), some (.int v3), some (.int v4), some (.int v5), some (.int x10), some (.int x11), none, none, none, none, none, none, none, none, none, none, none, none] [.int x13, .int (nI 1), .ref 0] s14 (Qi K)
    refine v_iadd (q := 406) dL_law_405 rfl ?_
    refine v_iload (q := 408) dL_law_406 rfl rfl ?_
    refine v_bipush (v := (nI 6)) (q := 410) dL_law_408 rfl (by decide) ?_
    refine v_ishr (q := 411) dL_law_410 rfl ?_
    refine v_callS (As := [.ref 0, .int ((nI 1) + x13), .int (x10 >>> ((nI 6) &&& 31))]) (n := 3) (q := 414) dL_law_411 rfl lk_8_74 hd1 rfl (Nat.le_of_ble_eq_true rfl) (CT.imp h (fun r s16 h => ?_))
    obtain ⟨x15, rfl, h⟩ := h
    show VV mL_law d sc 414 [some (.ref 102), some (.ref 0), some (.int v2), some (.int v3), some (.int v4), some (.int v5), some (.int x10), some (.int x11), none, none, none, none, none, none, none, none, none, none, none, none] [.int x15] s16 (Qi K)
    refine v_istore (q := 416) dL_law_414 rfl (by decide) rfl ?_
    refine v_aload_n (q := 417) dL_law_416 rfl rfl ?_
    refine v_callV (As := []) (n := 0) (q := 420) dL_law_417 rfl lk_8_44 hd1 rfl rfl (Nat.le_of_ble_eq_true rfl) (CT.imp h (fun r s18 h => ?_))
    obtain ⟨x17, rfl, h⟩ := h
    show VV mL_law d sc 420 [some (.ref 102), some (.ref 0), some (.int v2), some (.int v3), some (.int v4), some (.int v5), some (.int x10), some (.int x11), some (.int x15), none, none, none, none, none, none, none, none, none, none, none] [.int x17] s18 (Qi K)
    refine v_istore (q := 422) dL_law_420 rfl (by decide) rfl ?_
    refine v_iconst (v := (nI 0)) (q := 423) dL_law_422 rfl (by decide) ?_
    refine v_istore (q := 425) dL_law_423 rfl (by decide) rfl ?_
    exact h
set_option maxRecDepth 20000 in
theorem bL_law_425 {d : Nat} {σ : SS} {sc : Scr} {K : Int32 → SS → Prop} (v2 : Int32) (v3 : Int32) (v4 : Int32) (v5 : Int32) (v6 : Int32) (v7 : Int32) (v8 : Int32) (v9 : Int32) (v10 : Int32)  (hd1 : 1 ≤ d) (h : ((v4 ≤ v10) → (CTi mX6_fee (d - 1) [.ref 0, .int v7] σ (fun x1 s2 => CTi mX6_member (d - 1) [.ref 0, .int v7, .int (nI 1)] s2 (fun x3 s4 => CTl mX6_digest (d - 1) [.ref 0] s4 (fun x5 s6 => CTi mX6_use (d - 1) [.ref 0, .int v7] s6 (fun x7 s8 => ((0 ≤ v9) → (CTi mX6_count (d - 1) [.ref 0, .int (nI 3)] s8 (fun x9 s10 => ((¬ x7 = (x9 - (nI 1))) → (K (nI 0) s10)) ∧ ((x7 = (x9 - (nI 1))) → (CTi mX6_note (d - 1) [.ref 0, .int x7, .int (nI 0)] s10 (fun x11 s12 => ((¬ x11 = v7) → (K (nI 0) s12)) ∧ ((x11 = v7) → (CTi mX6_note (d - 1) [.ref 0, .int x7, .int (nI 1)] s12 (fun x13 s14 => ((¬ x13 = v9) → (K (nI 0) s14)) ∧ ((x13 = v9) → (CTi mX6_note (d - 1) [.ref 0, .int x7, .int (nI 2)] s14 (fun x15 s16 => CTi mX6_alike (d - 1) [.ref 0, .int v9] s16 (fun x17 s18 => ((¬ x15 = x17) → (K (nI 0) s18)) ∧ ((x15 = x17) → (CTi mX6_note (d - 1) [.ref 0, .int x7, .int (nI 3)] s18 (fun x19 s20 => ((¬ x19 = x1) → (K (nI 0) s20)) ∧ ((x19 = x1) → (CTi mX6_note (d - 1) [.ref 0, .int x7, .int (nI 5)] s20 (fun x21 s22 => ((¬ x21 = 0) → (K (nI 0) s22)) ∧ ((x21 = 0) → (CTi mX6_member (d - 1) [.ref 0, .int v7, .int (nI 1)] s22 (fun x23 s24 => CTi mX6_note (d - 1) [.ref 0, .int x7, .int ((nI 7) + v7)] s24 (fun x25 s26 => ((x23 = ((x3 - x1) + x25)) → (VV mL_law d sc 727 [some (.ref 102), some (.ref 0), some (.int v2), some (.int v3), some (.int v4), some (.int v5), some (.int v6), some (.int v7), some (.int v8), some (.int v9), some (.int x1), some (.int x3), some (.long x5), none, some (.int x7), none, none, none, none, none] [] s26 (Qi K))) ∧ ((¬ x23 = ((x3 - x1) + x25)) → (K (nI 0) s26))))))))))))))))))))))))) ∧ ((¬ 0 ≤ v9) → (((¬ v9 = (-1000000)) → (K (nI 0) s8)) ∧ ((v9 = (-1000000)) → (((¬ x1 = (-1000000)) → (K (nI 0) s8)) ∧ ((x1 = (-1000000)) → (((¬ x7 = (-1000000)) → (K (nI 0) s8)) ∧ ((x7 = (-1000000)) → (CTl mX6_digest (d - 1) [.ref 0] s8 (fun x27 s28 => (((lg_cmp x27 x5) = 0) → (VV mL_law d sc 727 [some (.ref 102), some (.ref 0), some (.int v2), some (.int v3), some (.int v4), some (.int v5), some (.int v6), some (.int v7), some (.int v8), some (.int v9), some (.int x1), some (.int x3), some (.long x5), none, some (.int x7), none, none, none, none, none] [] s28 (Qi K))) ∧ ((¬ (lg_cmp x27 x5) = 0) → (K (nI 0) s28))))))))))))))))) ∧ ((¬ v4 ≤ v10) → (CTi mX6_phrase (d - 1) [.ref 0, .int v10, .int (nI 4)] σ (fun x29 s30 => ((¬ x29 = (nI 1)) → ((((nI 0) = 0) → (VV mL_law d sc 548 [some (.ref 102), some (.ref 0), some (.int v2), some (.int v3), some (.int v4), some (.int v5), some (.int v6), some (.int v7), some (.int v8), some (.int v9), some (.int v10), some (.int (nI 0)), none, none, none, none, none, none, none, none] [] s30 (Qi K))) ∧ ((¬ (nI 0) = 0) → (((v9 < 0) → (K (nI 0) s30)) ∧ ((¬ v9 < 0) → (CTi mX6_alike (d - 1) [.ref 0, .int v10] s30 (fun x31 s32 => CTi mX6_alike (d - 1) [.ref 0, .int v9] s32 (fun x33 s34 => ((x33 < x31) → (K (nI 0) s34)) ∧ ((¬ x33 < x31) → (CTi mX6_alike (d - 1) [.ref 0, .int v10] s34 (fun x35 s36 => CTi mX6_alike (d - 1) [.ref 0, .int v9] s36 (fun x37 s38 => ((¬ x35 = x37) → (VV mL_law d sc 548 [some (.ref 102), some (.ref 0), some (.int v2), some (.int v3), some (.int v4), some (.int v5), some (.int v6), some (.int v7), some (.int v8), some (.int v9), some (.int v10), some (.int (nI 0)), none, none, none, none, none, none, none, none] [] s38 (Qi K))) ∧ ((x35 = x37) → (CTi mX6_phrase (d - 1) [.ref 0, .int v10, .int (nI 5)] s38 (fun x39 s40 => CTi mX6_phrase (d - 1) [.ref 0, .int v9, .int (nI 5)] s40 (fun x41 s42 => ((x41 < x39) → (K (nI 0) s42)) ∧ ((¬ x41 < x39) → (CTi mX6_phrase (d - 1) [.ref 0, .int v10, .int (nI 5)] s42 (fun x43 s44 => CTi mX6_phrase (d - 1) [.ref 0, .int v9, .int (nI 5)] s44 (fun x45 s46 => ((¬ x43 = x45) → (VV mL_law d sc 548 [some (.ref 102), some (.ref 0), some (.int v2), some (.int v3), some (.int v4), some (.int v5), some (.int v6), some (.int v7), some (.int v8), some (.int v9), some (.int v10), some (.int (nI 0)), none, none, none, none, none, none, none, none] [] s46 (Qi K))) ∧ ((x43 = x45) → (((v9 ≤ v10) → (VV mL_law d sc 548 [some (.ref 102), some (.ref 0), some (.int v2), some (.int v3), some (.int v4), some (.int v5), some (.int v6), some (.int v7), some (.int v8), some (.int v9), some (.int v10), some (.int (nI 0)), none, none, none, none, none, none, none, none] [] s46 (Qi K))) ∧ ((¬ v9 ≤ v10) → (K (nI 0) s46)))))))))))))))))))))))) ∧ ((x29 = (nI 1)) → (CTi mX6_alike (d - 1) [.ref 0, .int v10] s30 (fun x47 s48 => CTi mX6_count (d - 1) [.ref 0, .int (nI 8)] s48 (fun x49 s50 => ((x47 < x49) → ((((nI 0) = 0) → (VV mL_law d sc 548 [some (.ref 102), some (.ref 0), some (.int v2), some (.int v3), some (.int v4), some (.int v5), some (.int v6), some (.int v7), some (.int v8), some (.int v9), some (.int v10), some (.int (nI 0)), none, none, none, none, none, none, none, none] [] s50 (Qi K))) ∧ ((¬ (nI 0) = 0) → (((v9 < 0) → (K (nI 0) s50)) ∧ ((¬ v9 < 0) → (CTi mX6_alike (d - 1) [.ref 0, .int v10] s50 (fun x51 s52 => CTi mX6_alike (d - 1) [.ref 0, .int v9] s52 (fun x53 s54 => ((x53 < x51) → (K (nI 0) s54)) ∧ ((¬ x53 < x51) → (CTi mX6_alike (d - 1) [.ref 0, .int v10] s54 (fun x55 s56 => CTi mX6_alike (d - 1) [.ref 0, .int v9] s56 (fun x57 s58 => ((¬ x55 = x57) → (VV mL_law d sc 548 [some (.ref 102), some (.ref 0), some (.int v2), some (.int v3), some (.int v4), some (.int v5), some (.int v6), some (.int v7), some (.int v8), some (.int v9), some (.int v10), some (.int (nI 0)), none, none, none, none, none, none, none, none] [] s58 (Qi K))) ∧ ((x55 = x57) → (CTi mX6_phrase (d - 1) [.ref 0, .int v10, .int (nI 5)] s58 (fun x59 s60 => CTi mX6_phrase (d - 1) [.ref 0, .int v9, .int (nI 5)] s60 (fun x61 s62 => ((x61 < x59) → (K (nI 0) s62)) ∧ ((¬ x61 < x59) → (CTi mX6_phrase (d - 1) [.ref 0, .int v10, .int (nI 5)] s62 (fun x63 s64 => CTi mX6_phrase (d - 1) [.ref 0, .int v9, .int (nI 5)] s64 (fun x65 s66 => ((¬ x63 = x65) → (VV mL_law d sc 548 [some (.ref 102), some (.ref 0), some (.int v2), some (.int v3), some (.int v4), some (.int v5), some (.int v6), some (.int v7), some (.int v8), some (.int v9), some (.int v10), some (.int (nI 0)), none, none, none, none, none, none, none, none] [] s66 (Qi K))) ∧ ((x63 = x65) → (((v9 ≤ v10) → (VV mL_law d sc 548 [some (.ref 102), some (.ref 0), some (.int v2), some (.int v3), some (.int v4), some (.int v5), some (.int v6), some (.int v7), some (.int v8), some (.int v9), some (.int v10), some (.int (nI 0)), none, none, none, none, none, none, none, none] [] s66 (Qi K))) ∧ ((¬ v9 ≤ v10) → (K (nI 0) s66)))))))))))))))))))))))) ∧ ((¬ x47 < x49) → ((((nI 1) = 0) → (VV mL_law d sc 548 [some (.ref 102), some (.ref 0), some (.int v2), some (.int v3), some (.int v4), some (.int v5), some (.int v6), some (.int v7), some (.int v8), some (.int v9), some (.int v10), some (.int (nI 1)), none, none, none, none, none, none, none, none] [] s50 (Qi K))) ∧ ((¬ (nI 1) = 0) → (((v9 < 0) → (K (nI 0) s50)) ∧ ((¬ v9 < 0) → (CTi mX6_alike (d - 1) [.ref 0, .int v10] s50 (fun x67 s68 => CTi mX6_alike (d - 1) [.ref 0, .int v9] s68 (fun x69 s70 => ((x69 < x67) → (K (nI 0) s70)) ∧ ((¬ x69 < x67) → (CTi mX6_alike (d - 1) [.ref 0, .int v10] s70 (fun x71 s72 => CTi mX6_alike (d - 1) [.ref 0, .int v9] s72 (fun x73 s74 => ((¬ x71 = x73) → (VV mL_law d sc 548 [some (.ref 102), some (.ref 0), some (.int v2), some (.int v3), some (.int v4), some (.int v5), some (.int v6), some (.int v7), some (.int v8), some (.int v9), some (.int v10), some (.int (nI 1)), none, none, none, none, none, none, none, none] [] s74 (Qi K))) ∧ ((x71 = x73) → (CTi mX6_phrase (d - 1) [.ref 0, .int v10, .int (nI 5)] s74 (fun x75 s76 => CTi mX6_phrase (d - 1) [.ref 0, .int v9, .int (nI 5)] s76 (fun x77 s78 => ((x77 < x75) → (K (nI 0) s78)) ∧ ((¬ x77 < x75) → (CTi mX6_phrase (d - 1) [.ref 0, .int v10, .int (nI 5)] s78 (fun x79 s80 => CTi mX6_phrase (d - 1) [.ref 0, .int v9, .int (nI 5)] s80 (fun x81 s82 => ((¬ x79 = x81) → (VV mL_law d sc 548 [some (.ref 102), some (.ref 0), some (.int v2), some (.int v3), some (.int v4), some (.int v5), some (.int v6), some (.int v7), some (.int v8), some (.int v9), some (.int v10), some (.int (nI 1)), none, none, none, none, none, none, none, none] [] s82 (Qi K))) ∧ ((x79 = x81) → (((v9 ≤ v10) → (VV mL_law d sc 548 [some (.ref 102), some (.ref 0), some (.int v2), some (.int v3), some (.int v4), some (.int v5), some (.int v6), some (.int v7), some (.int v8), some (.int v9), some (.int v10), some (.int (nI 1)), none, none, none, none, none, none, none, none] [] s82 (Qi K))) ∧ ((¬ v9 ≤ v10) → (K (nI 0) s82)))))))))))))))))))))))))))))))) : VV mL_law d sc 425 [some (.ref 102), some (.ref 0), some (.int v2), some (.int v3), some (.int v4), some (.int v5), some (.int v6), some (.int v7), some (.int v8), some (.int v9), some (.int v10), none, none, none, none, none, none, none, none, none] [] σ (Qi K) := by
  refine v_iload (q := 427) dL_law_425 rfl rfl ?_
  refine v_iload (q := 429) dL_law_427 rfl rfl ?_
  refine v_icmp_ge (t := 554) (q := 432) dL_law_429 rfl (by decide) (fun c => ?_) (fun c => ?_)
  · have h := h.1 (c)
    refine v_aload_n (q := 555) dL_law_554 rfl rfl ?_
    refine v_iload (q := 557) dL_law_555 rfl rfl ?_
    refine v_callV (As := [.int v7]) (n := 1) (q := 560) dL_law_557 rfl lk_8_48 hd1 rfl rfl (Nat.le_of_ble_eq_true rfl) (CT.imp h (fun r s2 h => ?_))
    obtain ⟨x1, rfl, h⟩ := h
    show VV mL_law d sc 560 [some (.ref 102), some (.ref 0), some (.int v2), some (.int v3), some (.int v4), some (.int v5), some (.int v6), some (.int v7), some (.int v8), some (.int v9), some (.int v10), none, none, none, none, none, none, none, none, none] [.int x1] s2 (Qi K)
    refine v_istore (q := 562) dL_law_560 rfl (by decide) rfl ?_
    refine v_aload_n (q := 563) dL_law_562 rfl rfl ?_
    refine v_iload (q := 565) dL_law_563 rfl rfl ?_
    refine v_iconst (v := (nI 1)) (q := 566) dL_law_565 rfl (by decide) ?_
    refine v_callV (As := [.int v7, .int (nI 1)]) (n := 2) (q := 569) dL_law_566 rfl lk_8_27 hd1 rfl rfl (Nat.le_of_ble_eq_true rfl) (CT.imp h (fun r s4 h => ?_))
    obtain ⟨x3, rfl, h⟩ := h
    show VV mL_law d sc 569 [some (.ref 102), some (.ref 0), some (.int v2), some (.int v3), some (.int v4), some (.int v5), some (.int v6), some (.int v7), some (.int v8), some (.int v9), some (.int x1), none, none, none, none, none, none, none, none, none] [.int x3] s4 (Qi K)
    refine v_istore (q := 571) dL_law_569 rfl (by decide) rfl ?_
    refine v_aload_n (q := 572) dL_law_571 rfl rfl ?_
    refine v_callV (As := []) (n := 0) (q := 575) dL_law_572 rfl lk_8_86 hd1 rfl rfl (Nat.le_of_ble_eq_true rfl) (CT.imp h (fun r s6 h => ?_))
    obtain ⟨x5, rfl, h⟩ := h
    show VV mL_law d sc 575 [some (.ref 102), some (.ref 0), some (.int v2), some (.int v3), some (.int v4), some (.int v5), some (.int v6), some (.int v7), some (.int v8), some (.int v9), some (.int x1), some (.int x3), none, none, none, none, none, none, none, none] [.long x5] s6 (Qi K)
    refine v_lstore (q := 577) dL_law_575 rfl (by decide) rfl ?_
    refine v_aload_n (q := 578) dL_law_577 rfl rfl ?_
    refine v_iload (q := 580) dL_law_578 rfl rfl ?_
    refine v_callV (As := [.int v7]) (n := 1) (q := 583) dL_law_580 rfl lk_8_52 hd1 rfl rfl (Nat.le_of_ble_eq_true rfl) (CT.imp h (fun r s8 h => ?_))
    obtain ⟨x7, rfl, h⟩ := h
    show VV mL_law d sc 583 [some (.ref 102), some (.ref 0), some (.int v2), some (.int v3), some (.int v4), some (.int v5), some (.int v6), some (.int v7), some (.int v8), some (.int v9), some (.int x1), some (.int x3), some (.long x5), none, none, none, none, none, none, none] [.int x7] s8 (Qi K)
    refine v_istore (q := 585) dL_law_583 rfl (by decide) rfl ?_
    refine v_iload (q := 587) dL_law_585 rfl rfl ?_
    refine v_if_ge (t := 624) (q := 590) dL_law_587 rfl (by decide) (fun c => ?_) (fun c => ?_)
    · have h := h.1 (c)
      refine v_iload (q := 626) dL_law_624 rfl rfl ?_
      refine v_aload_n (q := 627) dL_law_626 rfl rfl ?_
      refine v_iconst (v := (nI 3)) (q := 628) dL_law_627 rfl (by decide) ?_
      refine v_callV (As := [.int (nI 3)]) (n := 1) (q := 631) dL_law_628 rfl lk_8_24 hd1 rfl rfl (Nat.le_of_ble_eq_true rfl) (CT.imp h (fun r s10 h => ?_))
      obtain ⟨x9, rfl, h⟩ := h
      show VV mL_law d sc 631 [some (.ref 102), some (.ref 0), some (.int v2), some (.int v3), some (.int v4), some (.int v5), some (.int v6), some (.int v7), some (.int v8), some (.int v9), some (.int x1), some (.int x3), some (.long x5), none, some (.int x7), none, none, none, none, none] [.int x9, .int x7] s10 (Qi K)
      refine v_iconst (v := (nI 1)) (q := 632) dL_law_631 rfl (by decide) ?_
      refine v_isub (q := 633) dL_law_632 rfl ?_
      refine v_icmp_ne (t := 725) (q := 636) dL_law_633 rfl (by decide) (fun c => ?_) (fun c => ?_)
      · have h := h.1 (c)
        refine v_iconst (v := (nI 0)) (q := 726) dL_law_725 rfl (by decide) ?_
        exact v_zret dL_law_726 rfl (by decide) ⟨_, rfl, h⟩
      · have h := h.2 (c)
        refine v_aload_n (q := 637) dL_law_636 rfl rfl ?_
        refine v_iload (q := 639) dL_law_637 rfl rfl ?_
        refine v_iconst (v := (nI 0)) (q := 640) dL_law_639 rfl (by decide) ?_
        refine v_callV (As := [.int x7, .int (nI 0)]) (n := 2) (q := 643) dL_law_640 rfl lk_8_36 hd1 rfl rfl (Nat.le_of_ble_eq_true rfl) (CT.imp h (fun r s12 h => ?_))
        obtain ⟨x11, rfl, h⟩ := h
        show VV mL_law d sc 643 [some (.ref 102), some (.ref 0), some (.int v2), some (.int v3), some (.int v4), some (.int v5), some (.int v6), some (.int v7), some (.int v8), some (.int v9), some (.int x1), some (.int x3), some (.long x5), none, some (.int x7), none, none, none, none, none] [.int x11] s12 (Qi K)
        refine v_iload (q := 645) dL_law_643 rfl rfl ?_
        refine v_icmp_ne (t := 725) (q := 648) dL_law_645 rfl (by decide) (fun c => ?_) (fun c => ?_)
        · have h := h.1 (c)
          refine v_iconst (v := (nI 0)) (q := 726) dL_law_725 rfl (by decide) ?_
          exact v_zret dL_law_726 rfl (by decide) ⟨_, rfl, h⟩
        · have h := h.2 (c)
          refine v_aload_n (q := 649) dL_law_648 rfl rfl ?_
          refine v_iload (q := 651) dL_law_649 rfl rfl ?_
          refine v_iconst (v := (nI 1)) (q := 652) dL_law_651 rfl (by decide) ?_
          refine v_callV (As := [.int x7, .int (nI 1)]) (n := 2) (q := 655) dL_law_652 rfl lk_8_36 hd1 rfl rfl (Nat.le_of_ble_eq_true rfl) (CT.imp h (fun r s14 h => ?_))
          obtain ⟨x13, rfl, h⟩ := h
          show VV mL_law d sc 655 [some (.ref 102), some (.ref 0), some (.int v2), some (.int v3), some (.int v4), some (.int v5), some (.int v6), some (.int v7), some (.int v8), some (.int v9), some (.int x1), some (.int x3), some (.long x5), none, some (.int x7), none, none, none, none, none] [.int x13] s14 (Qi K)
          refine v_iload (q := 657) dL_law_655 rfl rfl ?_
          refine v_icmp_ne (t := 725) (q := 660) dL_law_657 rfl (by decide) (fun c => ?_) (fun c => ?_)
          · have h := h.1 (c)
            refine v_iconst (v := (nI 0)) (q := 726) dL_law_725 rfl (by decide) ?_
            exact v_zret dL_law_726 rfl (by decide) ⟨_, rfl, h⟩
          · have h := h.2 (c)
            refine v_aload_n (q := 661) dL_law_660 rfl rfl ?_
            refine v_iload (q := 663) dL_law_661 rfl rfl ?_
            refine v_iconst (v := (nI 2)) (q := 664) dL_law_663 rfl (by decide) ?_
            refine v_callV (As := [.int x7, .int (nI 2)]) (n := 2) (q := 667) dL_law_664 rfl lk_8_36 hd1 rfl rfl (Nat.le_of_ble_eq_true rfl) (CT.imp h (fun r s16 h => ?_))
            obtain ⟨x15, rfl, h⟩ := h
            show VV mL_law d sc 667 [some (.ref 102), some (.ref 0), some (.int v2), some (.int v3), some (.int v4), some (.int v5), some (.int v6), some (.int v7), some (.int v8), some (.int v9), some (.int x1), some (.int x3), some (.long x5), none, some (.int x7), none, none, none, none, none] [.int x15] s16 (Qi K)
            refine v_aload_n (q := 668) dL_law_667 rfl rfl ?_
            refine v_iload (q := 670) dL_law_668 rfl rfl ?_
            refine v_callV (As := [.int v9]) (n := 1) (q := 673) dL_law_670 rfl lk_8_83 hd1 rfl rfl (Nat.le_of_ble_eq_true rfl) (CT.imp h (fun r s18 h => ?_))
            obtain ⟨x17, rfl, h⟩ := h
            show VV mL_law d sc 673 [some (.ref 102), some (.ref 0), some (.int v2), some (.int v3), some (.int v4), some (.int v5), some (.int v6), some (.int v7), some (.int v8), some (.int v9), some (.int x1), some (.int x3), some (.long x5), none, some (.int x7), none, none, none, none, none] [.int x17, .int x15] s18 (Qi K)
            refine v_icmp_ne (t := 725) (q := 676) dL_law_673 rfl (by decide) (fun c => ?_) (fun c => ?_)
            · have h := h.1 (c)
              refine v_iconst (v := (nI 0)) (q := 726) dL_law_725 rfl (by decide) ?_
              exact v_zret dL_law_726 rfl (by decide) ⟨_, rfl, h⟩
            · have h := h.2 (c)
              refine v_aload_n (q := 677) dL_law_676 rfl rfl ?_
              refine v_iload (q := 679) dL_law_677 rfl rfl ?_
              refine v_iconst (v := (nI 3)) (q := 680) dL_law_679 rfl (by decide) ?_
              refine v_callV (As := [.int x7, .int (nI 3)]) (n := 2) (q := 683) dL_law_680 rfl lk_8_36 hd1 rfl rfl (Nat.le_of_ble_eq_true rfl) (CT.imp h (fun r s20 h => ?_))
              obtain ⟨x19, rfl, h⟩ := h
              show VV mL_law d sc 683 [some (.ref 102), some (.ref 0), some (.int v2), some (.int v3), some (.int v4), some (.int v5), some (.int v6), some (.int v7), some (.int v8), some (.int v9), some (.int x1), some (.int x3), some (.long x5), none, some (.int x7), none, none, none, none, none] [.int x19] s20 (Qi K)
              refine v_iload (q := 685) dL_law_683 rfl rfl ?_
              refine v_icmp_ne (t := 725) (q := 688) dL_law_685 rfl (by decide) (fun c => ?_) (fun c => ?_)
              · have h := h.1 (c)
                refine v_iconst (v := (nI 0)) (q := 726) dL_law_725 rfl (by decide) ?_
                exact v_zret dL_law_726 rfl (by decide) ⟨_, rfl, h⟩
              · have h := h.2 (c)
                refine v_aload_n (q := 689) dL_law_688 rfl rfl ?_
                refine v_iload (q := 691) dL_law_689 rfl rfl ?_
                refine v_iconst (v := (nI 5)) (q := 692) dL_law_691 rfl (by decide) ?_
                refine v_callV (As := [.int x7, .int (nI 5)]) (n := 2) (q := 695) dL_law_692 rfl lk_8_36 hd1 rfl rfl (Nat.le_of_ble_eq_true rfl) (CT.imp h (fun r s22 h => ?_))
                obtain ⟨x21, rfl, h⟩ := h
                show VV mL_law d sc 695 [some (.ref 102), some (.ref 0), some (.int v2), some (.int v3), some (.int v4), some (.int v5), some (.int v6), some (.int v7), some (.int v8), some (.int v9), some (.int x1), some (.int x3), some (.long x5), none, some (.int x7), none, none, none, none, none] [.int x21] s22 (Qi K)
                refine v_if_ne (t := 725) (q := 698) dL_law_695 rfl (by decide) (fun c => ?_) (fun c => ?_)
                · have h := h.1 (c)
                  refine v_iconst (v := (nI 0)) (q := 726) dL_law_725 rfl (by decide) ?_
                  exact v_zret dL_law_726 rfl (by decide) ⟨_, rfl, h⟩
                · have h := h.2 (c)
                  refine v_aload_n (q := 699) dL_law_698 rfl rfl ?_
                  refine v_iload (q := 701) dL_law_699 rfl rfl ?_
                  refine v_iconst (v := (nI 1)) (q := 702) dL_law_701 rfl (by decide) ?_
                  refine v_callV (As := [.int v7, .int (nI 1)]) (n := 2) (q := 705) dL_law_702 rfl lk_8_27 hd1 rfl rfl (Nat.le_of_ble_eq_true rfl) (CT.imp h (fun r s24 h => ?_))
                  obtain ⟨x23, rfl, h⟩ := h
                  show VV mL_law d sc 705 [some (.ref 102), some (.ref 0), some (.int v2), some (.int v3), some (.int v4), some (.int v5), some (.int v6), some (.int v7), some (.int v8), some (.int v9), some (.int x1), some (.int x3), some (.long x5), none, some (.int x7), none, none, none, none, none] [.int x23] s24 (Qi K)
                  refine v_iload (q := 707) dL_law_705 rfl rfl ?_
                  refine v_iload (q := 709) dL_law_707 rfl rfl ?_
                  refine v_isub (q := 710) dL_law_709 rfl ?_
                  refine v_aload_n (q := 711) dL_law_710 rfl rfl ?_
                  refine v_iload (q := 713) dL_law_711 rfl rfl ?_
                  refine v_bipush (v := (nI 7)) (q := 715) dL_law_713 rfl (by decide) ?_
                  refine v_iload (q := 717) dL_law_715 rfl rfl ?_
                  refine v_iadd (q := 718) dL_law_717 rfl ?_
                  refine v_callV (As := [.int x7, .int ((nI 7) + v7)]) (n := 2) (q := 721) dL_law_718 rfl lk_8_36 hd1 rfl rfl (Nat.le_of_ble_eq_true rfl) (CT.imp h (fun r s26 h => ?_))
                  obtain ⟨x25, rfl, h⟩ := h
                  show VV mL_law d sc 721 [some (.ref 102), some (.ref 0), some (.int v2), some (.int v3), some (.int v4), some (.int v5), some (.int v6), some (.int v7), some (.int v8), some (.int v9), some (.int x1), some (.int x3), some (.long x5), none, some (.int x7), none, none, none, none, none] [.int x25, .int (x3 - x1), .int x23] s26 (Qi K)
                  refine v_iadd (q := 722) dL_law_721 rfl ?_
                  refine v_icmp_eq (t := 727) (q := 725) dL_law_722 rfl (by decide) (fun c => ?_) (fun c => ?_)
                  · have h := h.1 (c)
                    exact h
                  · have h := h.2 (c)
                    refine v_iconst (v := (nI 0)) (q := 726) dL_law_725 rfl (by decide) ?_
                    exact v_zret dL_law_726 rfl (by decide) ⟨_, rfl, h⟩
    · have h := h.2 (c)
      refine v_iload (q := 592) dL_law_590 rfl rfl ?_
      refine v_ldc (v := (-1000000)) (q := 594) dL_law_592 rfl cn_8_78 ?_
      refine v_icmp_ne (t := 725) (q := 597) dL_law_594 rfl (by decide) (fun c => ?_) (fun c => ?_)
      · have h := h.1 (c)
        refine v_iconst (v := (nI 0)) (q := 726) dL_law_725 rfl (by decide) ?_
        exact v_zret dL_law_726 rfl (by decide) ⟨_, rfl, h⟩
      · have h := h.2 (c)
        refine v_iload (q := 599) dL_law_597 rfl rfl ?_
        refine v_ldc (v := (-1000000)) (q := 601) dL_law_599 rfl cn_8_78 ?_
        refine v_icmp_ne (t := 725) (q := 604) dL_law_601 rfl (by decide) (fun c => ?_) (fun c => ?_)
        · have h := h.1 (c)
          refine v_iconst (v := (nI 0)) (q := 726) dL_law_725 rfl (by decide) ?_
          exact v_zret dL_law_726 rfl (by decide) ⟨_, rfl, h⟩
        · have h := h.2 (c)
          refine v_iload (q := 606) dL_law_604 rfl rfl ?_
          refine v_ldc (v := (-1000000)) (q := 608) dL_law_606 rfl cn_8_78 ?_
          refine v_icmp_ne (t := 725) (q := 611) dL_law_608 rfl (by decide) (fun c => ?_) (fun c => ?_)
          · have h := h.1 (c)
            refine v_iconst (v := (nI 0)) (q := 726) dL_law_725 rfl (by decide) ?_
            exact v_zret dL_law_726 rfl (by decide) ⟨_, rfl, h⟩
          · have h := h.2 (c)
            refine v_aload_n (q := 612) dL_law_611 rfl rfl ?_
            refine v_callV (As := []) (n := 0) (q := 615) dL_law_612 rfl lk_8_86 hd1 rfl rfl (Nat.le_of_ble_eq_true rfl) (CT.imp h (fun r s28 h => ?_))
            obtain ⟨x27, rfl, h⟩ := h
            show VV mL_law d sc 615 [some (.ref 102), some (.ref 0), some (.int v2), some (.int v3), some (.int v4), some (.int v5), some (.int v6), some (.int v7), some (.int v8), some (.int v9), some (.int x1), some (.int x3), some (.long x5), none, some (.int x7), none, none, none, none, none] [.long x27] s28 (Qi K)
            refine v_lload (q := 617) dL_law_615 rfl rfl ?_
            refine v_lcmp (q := 618) dL_law_617 rfl ?_
            refine v_if_eq (t := 727) (q := 621) dL_law_618 rfl (by decide) (fun c => ?_) (fun c => ?_)
            · have h := h.1 (c)
              exact h
            · have h := h.2 (c)
              refine v_goto (q := 725) dL_law_621 (by decide) ?_
              refine v_iconst (v := (nI 0)) (q := 726) dL_law_725 rfl (by decide) ?_
              exact v_zret dL_law_726 rfl (by decide) ⟨_, rfl, h⟩
  · have h := h.2 (c)
    refine v_aload_n (q := 433) dL_law_432 rfl rfl ?_
    refine v_iload (q := 435) dL_law_433 rfl rfl ?_
    refine v_iconst (v := (nI 4)) (q := 436) dL_law_435 rfl (by decide) ?_
    refine v_callV (As := [.int v10, .int (nI 4)]) (n := 2) (q := 439) dL_law_436 rfl lk_8_30 hd1 rfl rfl (Nat.le_of_ble_eq_true rfl) (CT.imp h (fun r s30 h => ?_))
    obtain ⟨x29, rfl, h⟩ := h
    show VV mL_law d sc 439 [some (.ref 102), some (.ref 0), some (.int v2), some (.int v3), some (.int v4), some (.int v5), some (.int v6), some (.int v7), some (.int v8), some (.int v9), some (.int v10), none, none, none, none, none, none, none, none, none] [.int x29] s30 (Qi K)
    refine v_iconst (v := (nI 1)) (q := 440) dL_law_439 rfl (by decide) ?_
    refine v_icmp_ne (t := 462) (q := 443) dL_law_440 rfl (by decide) (fun c => ?_) (fun c => ?_)
    · have h := h.1 (c)
      refine v_iconst (v := (nI 0)) (q := 463) dL_law_462 rfl (by decide) ?_
      refine v_istore (q := 465) dL_law_463 rfl (by decide) rfl ?_
      refine v_iload (q := 467) dL_law_465 rfl rfl ?_
      refine v_if_eq (t := 548) (q := 470) dL_law_467 rfl (by decide) (fun c => ?_) (fun c => ?_)
      · have h := h.1 (c)
        exact h
      · have h := h.2 (c)
        refine v_iload (q := 472) dL_law_470 rfl rfl ?_
        refine v_if_lt (t := 546) (q := 475) dL_law_472 rfl (by decide) (fun c => ?_) (fun c => ?_)
        · have h := h.1 (c)
          refine v_iconst (v := (nI 0)) (q := 547) dL_law_546 rfl (by decide) ?_
          exact v_zret dL_law_547 rfl (by decide) ⟨_, rfl, h⟩
        · have h := h.2 (c)
          refine v_aload_n (q := 476) dL_law_475 rfl rfl ?_
          refine v_iload (q := 478) dL_law_476 rfl rfl ?_
          refine v_callV (As := [.int v10]) (n := 1) (q := 481) dL_law_478 rfl lk_8_83 hd1 rfl rfl (Nat.le_of_ble_eq_true rfl) (CT.imp h (fun r s32 h => ?_))
          obtain ⟨x31, rfl, h⟩ := h
          show VV mL_law d sc 481 [some (.ref 102), some (.ref 0), some (.int v2), some (.int v3), some (.int v4), some (.int v5), some (.int v6), some (.int v7), some (.int v8), some (.int v9), some (.int v10), some (.int (nI 0)), none, none, none, none, none, none, none, none] [.int x31] s32 (Qi K)
          refine v_aload_n (q := 482) dL_law_481 rfl rfl ?_
          refine v_iload (q := 484) dL_law_482 rfl rfl ?_
          refine v_callV (As := [.int v9]) (n := 1) (q := 487) dL_law_484 rfl lk_8_83 hd1 rfl rfl (Nat.le_of_ble_eq_true rfl) (CT.imp h (fun r s34 h => ?_))
          obtain ⟨x33, rfl, h⟩ := h
          show VV mL_law d sc 487 [some (.ref 102), some (.ref 0), some (.int v2), some (.int v3), some (.int v4), some (.int v5), some (.int v6), some (.int v7), some (.int v8), some (.int v9), some (.int v10), some (.int (nI 0)), none, none, none, none, none, none, none, none] [.int x33, .int x31] s34 (Qi K)
          refine v_icmp_gt (t := 546) (q := 490) dL_law_487 rfl (by decide) (fun c => ?_) (fun c => ?_)
          · have h := h.1 (c)
            refine v_iconst (v := (nI 0)) (q := 547) dL_law_546 rfl (by decide) ?_
            exact v_zret dL_law_547 rfl (by decide) ⟨_, rfl, h⟩
          · have h := h.2 (c)
            refine v_aload_n (q := 491) dL_law_490 rfl rfl ?_
            refine v_iload (q := 493) dL_law_491 rfl rfl ?_
            refine v_callV (As := [.int v10]) (n := 1) (q := 496) dL_law_493 rfl lk_8_83 hd1 rfl rfl (Nat.le_of_ble_eq_true rfl) (CT.imp h (fun r s36 h => ?_))
            obtain ⟨x35, rfl, h⟩ := h
            show VV mL_law d sc 496 [some (.ref 102), some (.ref 0), some (.int v2), some (.int v3), some (.int v4), some (.int v5), some (.int v6), some (.int v7), some (.int v8), some (.int v9), some (.int v10), some (.int (nI 0)), none, none, none, none, none, none, none, none] [.int x35] s36 (Qi K)
            refine v_aload_n (q := 497) dL_law_496 rfl rfl ?_
            refine v_iload (q := 499) dL_law_497 rfl rfl ?_
            refine v_callV (As := [.int v9]) (n := 1) (q := 502) dL_law_499 rfl lk_8_83 hd1 rfl rfl (Nat.le_of_ble_eq_true rfl) (CT.imp h (fun r s38 h => ?_))
            obtain ⟨x37, rfl, h⟩ := h
            show VV mL_law d sc 502 [some (.ref 102), some (.ref 0), some (.int v2), some (.int v3), some (.int v4), some (.int v5), some (.int v6), some (.int v7), some (.int v8), some (.int v9), some (.int v10), some (.int (nI 0)), none, none, none, none, none, none, none, none] [.int x37, .int x35] s38 (Qi K)
            refine v_icmp_ne (t := 548) (q := 505) dL_law_502 rfl (by decide) (fun c => ?_) (fun c => ?_)
            · have h := h.1 (c)
              exact h
            · have h := h.2 (c)
              refine v_aload_n (q := 506) dL_law_505 rfl rfl ?_
              refine v_iload (q := 508) dL_law_506 rfl rfl ?_
              refine v_iconst (v := (nI 5)) (q := 509) dL_law_508 rfl (by decide) ?_
              refine v_callV (As := [.int v10, .int (nI 5)]) (n := 2) (q := 512) dL_law_509 rfl lk_8_30 hd1 rfl rfl (Nat.le_of_ble_eq_true rfl) (CT.imp h (fun r s40 h => ?_))
              obtain ⟨x39, rfl, h⟩ := h
              show VV mL_law d sc 512 [some (.ref 102), some (.ref 0), some (.int v2), some (.int v3), some (.int v4), some (.int v5), some (.int v6), some (.int v7), some (.int v8), some (.int v9), some (.int v10), some (.int (nI 0)), none, none, none, none, none, none, none, none] [.int x39] s40 (Qi K)
              refine v_aload_n (q := 513) dL_law_512 rfl rfl ?_
              refine v_iload (q := 515) dL_law_513 rfl rfl ?_
              refine v_iconst (v := (nI 5)) (q := 516) dL_law_515 rfl (by decide) ?_
              refine v_callV (As := [.int v9, .int (nI 5)]) (n := 2) (q := 519) dL_law_516 rfl lk_8_30 hd1 rfl rfl (Nat.le_of_ble_eq_true rfl) (CT.imp h (fun r s42 h => ?_))
              obtain ⟨x41, rfl, h⟩ := h
              show VV mL_law d sc 519 [some (.ref 102), some (.ref 0), some (.int v2), some (.int v3), some (.int v4), some (.int v5), some (.int v6), some (.int v7), some (.int v8), some (.int v9), some (.int v10), some (.int (nI 0)), none, none, none, none, none, none, none, none] [.int x41, .int x39] s42 (Qi K)
              refine v_icmp_gt (t := 546) (q := 522) dL_law_519 rfl (by decide) (fun c => ?_) (fun c => ?_)
              · have h := h.1 (c)
                refine v_iconst (v := (nI 0)) (q := 547) dL_law_546 rfl (by decide) ?_
                exact v_zret dL_law_547 rfl (by decide) ⟨_, rfl, h⟩
              · have h := h.2 (c)
                refine v_aload_n (q := 523) dL_law_522 rfl rfl ?_
                refine v_iload (q := 525) dL_law_523 rfl rfl ?_
                refine v_iconst (v := (nI 5)) (q := 526) dL_law_525 rfl (by decide) ?_
                refine v_callV (As := [.int v10, .int (nI 5)]) (n := 2) (q := 529) dL_law_526 rfl lk_8_30 hd1 rfl rfl (Nat.le_of_ble_eq_true rfl) (CT.imp h (fun r s44 h => ?_))
                obtain ⟨x43, rfl, h⟩ := h
                show VV mL_law d sc 529 [some (.ref 102), some (.ref 0), some (.int v2), some (.int v3), some (.int v4), some (.int v5), some (.int v6), some (.int v7), some (.int v8), some (.int v9), some (.int v10), some (.int (nI 0)), none, none, none, none, none, none, none, none] [.int x43] s44 (Qi K)
                refine v_aload_n (q := 530) dL_law_529 rfl rfl ?_
                refine v_iload (q := 532) dL_law_530 rfl rfl ?_
                refine v_iconst (v := (nI 5)) (q := 533) dL_law_532 rfl (by decide) ?_
                refine v_callV (As := [.int v9, .int (nI 5)]) (n := 2) (q := 536) dL_law_533 rfl lk_8_30 hd1 rfl rfl (Nat.le_of_ble_eq_true rfl) (CT.imp h (fun r s46 h => ?_))
                obtain ⟨x45, rfl, h⟩ := h
                show VV mL_law d sc 536 [some (.ref 102), some (.ref 0), some (.int v2), some (.int v3), some (.int v4), some (.int v5), some (.int v6), some (.int v7), some (.int v8), some (.int v9), some (.int v10), some (.int (nI 0)), none, none, none, none, none, none, none, none] [.int x45, .int x43] s46 (Qi K)
                refine v_icmp_ne (t := 548) (q := 539) dL_law_536 rfl (by decide) (fun c => ?_) (fun c => ?_)
                · have h := h.1 (c)
                  exact h
                · have h := h.2 (c)
                  refine v_iload (q := 541) dL_law_539 rfl rfl ?_
                  refine v_iload (q := 543) dL_law_541 rfl rfl ?_
                  refine v_icmp_ge (t := 548) (q := 546) dL_law_543 rfl (by decide) (fun c => ?_) (fun c => ?_)
                  · have h := h.1 (c)
                    exact h
                  · have h := h.2 (c)
                    refine v_iconst (v := (nI 0)) (q := 547) dL_law_546 rfl (by decide) ?_
                    exact v_zret dL_law_547 rfl (by decide) ⟨_, rfl, h⟩
    · have h := h.2 (c)
      refine v_aload_n (q := 444) dL_law_443 rfl rfl ?_
      refine v_iload (q := 446) dL_law_444 rfl rfl ?_
      refine v_callV (As := [.int v10]) (n := 1) (q := 449) dL_law_446 rfl lk_8_83 hd1 rfl rfl (Nat.le_of_ble_eq_true rfl) (CT.imp h (fun r s48 h => ?_))
      obtain ⟨x47, rfl, h⟩ := h
      show VV mL_law d sc 449 [some (.ref 102), some (.ref 0), some (.int v2), some (.int v3), some (.int v4), some (.int v5), some (.int v6), some (.int v7), some (.int v8), some (.int v9), some (.int v10), none, none, none, none, none, none, none, none, none] [.int x47] s48 (Qi K)
      refine v_aload_n (q := 450) dL_law_449 rfl rfl ?_
      refine v_bipush (v := (nI 8)) (q := 452) dL_law_450 rfl (by decide) ?_
      refine v_callV (As := [.int (nI 8)]) (n := 1) (q := 455) dL_law_452 rfl lk_8_24 hd1 rfl rfl (Nat.le_of_ble_eq_true rfl) (CT.imp h (fun r s50 h => ?_))
      obtain ⟨x49, rfl, h⟩ := h
      show VV mL_law d sc 455 [some (.ref 102), some (.ref 0), some (.int v2), some (.int v3), some (.int v4), some (.int v5), some (.int v6), some (.int v7), some (.int v8), some (.int v9), some (.int v10), none, none, none, none, none, none, none, none, none] [.int x49, .int x47] s50 (Qi K)
      refine v_icmp_lt (t := 462) (q := 458) dL_law_455 rfl (by decide) (fun c => ?_) (fun c => ?_)
      · have h := h.1 (c)
        refine v_iconst (v := (nI 0)) (q := 463) dL_law_462 rfl (by decide) ?_
        refine v_istore (q := 465) dL_law_463 rfl (by decide) rfl ?_
        refine v_iload (q := 467) dL_law_465 rfl rfl ?_
        refine v_if_eq (t := 548) (q := 470) dL_law_467 rfl (by decide) (fun c => ?_) (fun c => ?_)
        · have h := h.1 (c)
          exact h
        · have h := h.2 (c)
          refine v_iload (q := 472) dL_law_470 rfl rfl ?_
          refine v_if_lt (t := 546) (q := 475) dL_law_472 rfl (by decide) (fun c => ?_) (fun c => ?_)
          · have h := h.1 (c)
            refine v_iconst (v := (nI 0)) (q := 547) dL_law_546 rfl (by decide) ?_
            exact v_zret dL_law_547 rfl (by decide) ⟨_, rfl, h⟩
          · have h := h.2 (c)
            refine v_aload_n (q := 476) dL_law_475 rfl rfl ?_
            refine v_iload (q := 478) dL_law_476 rfl rfl ?_
            refine v_callV (As := [.int v10]) (n := 1) (q := 481) dL_law_478 rfl lk_8_83 hd1 rfl rfl (Nat.le_of_ble_eq_true rfl) (CT.imp h (fun r s52 h => ?_))
            obtain ⟨x51, rfl, h⟩ := h
            show VV mL_law d sc 481 [some (.ref 102), some (.ref 0), some (.int v2), some (.int v3), some (.int v4), some (.int v5), some (.int v6), some (.int v7), some (.int v8), some (.int v9), some (.int v10), some (.int (nI 0)), none, none, none, none, none, none, none, none] [.int x51] s52 (Qi K)
            refine v_aload_n (q := 482) dL_law_481 rfl rfl ?_
            refine v_iload (q := 484) dL_law_482 rfl rfl ?_
            refine v_callV (As := [.int v9]) (n := 1) (q := 487) dL_law_484 rfl lk_8_83 hd1 rfl rfl (Nat.le_of_ble_eq_true rfl) (CT.imp h (fun r s54 h => ?_))
            obtain ⟨x53, rfl, h⟩ := h
            show VV mL_law d sc 487 [some (.ref 102), some (.ref 0), some (.int v2), some (.int v3), some (.int v4), some (.int v5), some (.int v6), some (.int v7), some (.int v8), some (.int v9), some (.int v10), some (.int (nI 0)), none, none, none, none, none, none, none, none] [.int x53, .int x51] s54 (Qi K)
            refine v_icmp_gt (t := 546) (q := 490) dL_law_487 rfl (by decide) (fun c => ?_) (fun c => ?_)
            · have h := h.1 (c)
              refine v_iconst (v := (nI 0)) (q := 547) dL_law_546 rfl (by decide) ?_
              exact v_zret dL_law_547 rfl (by decide) ⟨_, rfl, h⟩
            · have h := h.2 (c)
              refine v_aload_n (q := 491) dL_law_490 rfl rfl ?_
              refine v_iload (q := 493) dL_law_491 rfl rfl ?_
              refine v_callV (As := [.int v10]) (n := 1) (q := 496) dL_law_493 rfl lk_8_83 hd1 rfl rfl (Nat.le_of_ble_eq_true rfl) (CT.imp h (fun r s56 h => ?_))
              obtain ⟨x55, rfl, h⟩ := h
              show VV mL_law d sc 496 [some (.ref 102), some (.ref 0), some (.int v2), some (.int v3), some (.int v4), some (.int v5), some (.int v6), some (.int v7), some (.int v8), some (.int v9), some (.int v10), some (.int (nI 0)), none, none, none, none, none, none, none, none] [.int x55] s56 (Qi K)
              refine v_aload_n (q := 497) dL_law_496 rfl rfl ?_
              refine v_iload (q := 499) dL_law_497 rfl rfl ?_
              refine v_callV (As := [.int v9]) (n := 1) (q := 502) dL_law_499 rfl lk_8_83 hd1 rfl rfl (Nat.le_of_ble_eq_true rfl) (CT.imp h (fun r s58 h => ?_))
              obtain ⟨x57, rfl, h⟩ := h
              show VV mL_law d sc 502 [some (.ref 102), some (.ref 0), some (.int v2), some (.int v3), some (.int v4), some (.int v5), some (.int v6), some (.int v7), some (.int v8), some (.int v9), some (.int v10), some (.int (nI 0)), none, none, none, none, none, none, none, none] [.int x57, .int x55] s58 (Qi K)
              refine v_icmp_ne (t := 548) (q := 505) dL_law_502 rfl (by decide) (fun c => ?_) (fun c => ?_)
              · have h := h.1 (c)
                exact h
              · have h := h.2 (c)
                refine v_aload_n (q := 506) dL_law_505 rfl rfl ?_
                refine v_iload (q := 508) dL_law_506 rfl rfl ?_
                refine v_iconst (v := (nI 5)) (q := 509) dL_law_508 rfl (by decide) ?_
                refine v_callV (As := [.int v10, .int (nI 5)]) (n := 2) (q := 512) dL_law_509 rfl lk_8_30 hd1 rfl rfl (Nat.le_of_ble_eq_true rfl) (CT.imp h (fun r s60 h => ?_))
                obtain ⟨x59, rfl, h⟩ := h
                show VV mL_law d sc 512 [some (.ref 102), some (.ref 0), some (.int v2), some (.int v3), some (.int v4), some (.int v5), some (.int v6), some (.int v7), some (.int v8), some (.int v9), some (.int v10), some (.int (nI 0)), none, none, none, none, none, none, none, none] [.int x59] s60 (Qi K)
                refine v_aload_n (q := 513) dL_law_512 rfl rfl ?_
                refine v_iload (q := 515) dL_law_513 rfl rfl ?_
                refine v_iconst (v := (nI 5)) (q := 516) dL_law_515 rfl (by decide) ?_
                refine v_callV (As := [.int v9, .int (nI 5)]) (n := 2) (q := 519) dL_law_516 rfl lk_8_30 hd1 rfl rfl (Nat.le_of_ble_eq_true rfl) (CT.imp h (fun r s62 h => ?_))
                obtain ⟨x61, rfl, h⟩ := h
                show VV mL_law d sc 519 [some (.ref 102), some (.ref 0), some (.int v2), some (.int v3), some (.int v4), some (.int v5), some (.int v6), some (.int v7), some (.int v8), some (.int v9), some (.int v10), some (.int (nI 0)), none, none, none, none, none, none, none, none] [.int x61, .int x59] s62 (Qi K)
                refine v_icmp_gt (t := 546) (q := 522) dL_law_519 rfl (by decide) (fun c => ?_) (fun c => ?_)
                · have h := h.1 (c)
                  refine v_iconst (v := (nI 0)) (q := 547) dL_law_546 rfl (by decide) ?_
                  exact v_zret dL_law_547 rfl (by decide) ⟨_, rfl, h⟩
                · have h := h.2 (c)
                  refine v_aload_n (q := 523) dL_law_522 rfl rfl ?_
                  refine v_iload (q := 525) dL_law_523 rfl rfl ?_
                  refine v_iconst (v := (nI 5)) (q := 526) dL_law_525 rfl (by decide) ?_
                  refine v_callV (As := [.int v10, .int (nI 5)]) (n := 2) (q := 529) dL_law_526 rfl lk_8_30 hd1 rfl rfl (Nat.le_of_ble_eq_true rfl) (CT.imp h (fun r s64 h => ?_))
                  obtain ⟨x63, rfl, h⟩ := h
                  show VV mL_law d sc 529 [some (.ref 102), some (.ref 0), some (.int v2), some (.int v3), some (.int v4), some (.int v5), some (.int v6), some (.int v7), some (.int v8), some (.int v9), some (.int v10), some (.int (nI 0)), none, none, none, none, none, none, none, none] [.int x63] s64 (Qi K)
                  refine v_aload_n (q := 530) dL_law_529 rfl rfl ?_
                  refine v_iload (q := 532) dL_law_530 rfl rfl ?_
                  refine v_iconst (v := (nI 5)) (q := 533) dL_law_532 rfl (by decide) ?_
                  refine v_callV (As := [.int v9, .int (nI 5)]) (n := 2) (q := 536) dL_law_533 rfl lk_8_30 hd1 rfl rfl (Nat.le_of_ble_eq_true rfl) (CT.imp h (fun r s66 h => ?_))
                  obtain ⟨x65, rfl, h⟩ := h
                  show VV mL_law d sc 536 [some (.ref 102), some (.ref 0), some (.int v2), some (.int v3), some (.int v4), some (.int v5), some (.int v6), some (.int v7), some (.int v8), some (.int v9), some (.int v10), some (.int (nI 0)), none, none, none, none, none, none, none, none] [.int x65, .int x63] s66 (Qi K)
                  refine v_icmp_ne (t := 548) (q := 539) dL_law_536 rfl (by decide) (fun c => ?_) (fun c => ?_)
                  · have h := h.1 (c)
                    exact h
                  · have h := h.2 (c)
                    refine v_iload (q := 541) dL_law_539 rfl rfl ?_
                    refine v_iload (q := 543) dL_law_541 rfl rfl ?_
                    refine v_icmp_ge (t := 548) (q := 546) dL_law_543 rfl (by decide) (fun c => ?_) (fun c => ?_)
                    · have h := h.1 (c)
                      exact h
                    · have h := h.2 (c)
                      refine v_iconst (v := (nI 0)) (q := 547) dL_law_546 rfl (by decide) ?_
                      exact v_zret dL_law_547 rfl (by decide) ⟨_, rfl, h⟩
      · have h := h.2 (c)
        refine v_iconst (v := (nI 1)) (q := 459) dL_law_458 rfl (by decide) ?_
        refine v_goto (q := 463) dL_law_459 (by decide) ?_
        refine v_istore (q := 465) dL_law_463 rfl (by decide) rfl ?_
        refine v_iload (q := 467) dL_law_465 rfl rfl ?_
        refine v_if_eq (t := 548) (q := 470) dL_law_467 rfl (by decide) (fun c => ?_) (fun c => ?_)
        · have h := h.1 (c)
          exact h
        · have h := h.2 (c)
          refine v_iload (q := 472) dL_law_470 rfl rfl ?_
          refine v_if_lt (t := 546) (q := 475) dL_law_472 rfl (by decide) (fun c => ?_) (fun c => ?_)
          · have h := h.1 (c)
            refine v_iconst (v := (nI 0)) (q := 547) dL_law_546 rfl (by decide) ?_
            exact v_zret dL_law_547 rfl (by decide) ⟨_, rfl, h⟩
          · have h := h.2 (c)
            refine v_aload_n (q := 476) dL_law_475 rfl rfl ?_
            refine v_iload (q := 478) dL_law_476 rfl rfl ?_
            refine v_callV (As := [.int v10]) (n := 1) (q := 481) dL_law_478 rfl lk_8_83 hd1 rfl rfl (Nat.le_of_ble_eq_true rfl) (CT.imp h (fun r s68 h => ?_))
            obtain ⟨x67, rfl, h⟩ := h
            show VV mL_law d sc 481 [some (.ref 102), some (.ref 0), some (.int v2), some (.int v3), some (.int v4), some (.int v5), some (.int v6), some (.int v7), some (.int v8), some (.int v9), some (.int v10), some (.int (nI 1)), none, none, none, none, none, none, none, none] [.int x67] s68 (Qi K)
            refine v_aload_n (q := 482) dL_law_481 rfl rfl ?_
            refine v_iload (q := 484) dL_law_482 rfl rfl ?_
            refine v_callV (As := [.int v9]) (n := 1) (q := 487) dL_law_484 rfl lk_8_83 hd1 rfl rfl (Nat.le_of_ble_eq_true rfl) (CT.imp h (fun r s70 h => ?_))
            obtain ⟨x69, rfl, h⟩ := h
            show VV mL_law d sc 487 [some (.ref 102), some (.ref 0), some (.int v2), some (.int v3), some (.int v4), some (.int v5), some (.int v6), some (.int v7), some (.int v8), some (.int v9), some (.int v10), some (.int (nI 1)), none, none, none, none, none, none, none, none] [.int x69, .int x67] s70 (Qi K)
            refine v_icmp_gt (t := 546) (q := 490) dL_law_487 rfl (by decide) (fun c => ?_) (fun c => ?_)
            · have h := h.1 (c)
              refine v_iconst (v := (nI 0)) (q := 547) dL_law_546 rfl (by decide) ?_
              exact v_zret dL_law_547 rfl (by decide) ⟨_, rfl, h⟩
            · have h := h.2 (c)
              refine v_aload_n (q := 491) dL_law_490 rfl rfl ?_
              refine v_iload (q := 493) dL_law_491 rfl rfl ?_
              refine v_callV (As := [.int v10]) (n := 1) (q := 496) dL_law_493 rfl lk_8_83 hd1 rfl rfl (Nat.le_of_ble_eq_true rfl) (CT.imp h (fun r s72 h => ?_))
              obtain ⟨x71, rfl, h⟩ := h
              show VV mL_law d sc 496 [some (.ref 102), some (.ref 0), some (.int v2), some (.int v3), some (.int v4), some (.int v5), some (.int v6), some (.int v7), some (.int v8), some (.int v9), some (.int v10), some (.int (nI 1)), none, none, none, none, none, none, none, none] [.int x71] s72 (Qi K)
              refine v_aload_n (q := 497) dL_law_496 rfl rfl ?_
              refine v_iload (q := 499) dL_law_497 rfl rfl ?_
              refine v_callV (As := [.int v9]) (n := 1) (q := 502) dL_law_499 rfl lk_8_83 hd1 rfl rfl (Nat.le_of_ble_eq_true rfl) (CT.imp h (fun r s74 h => ?_))
              obtain ⟨x73, rfl, h⟩ := h
              show VV mL_law d sc 502 [some (.ref 102), some (.ref 0), some (.int v2), some (.int v3), some (.int v4), some (.int v5), some (.int v6), some (.int v7), some (.int v8), some (.int v9), some (.int v10), some (.int (nI 1)), none, none, none, none, none, none, none, none] [.int x73, .int x71] s74 (Qi K)
              refine v_icmp_ne (t := 548) (q := 505) dL_law_502 rfl (by decide) (fun c => ?_) (fun c => ?_)
              · have h := h.1 (c)
                exact h
              · have h := h.2 (c)
                refine v_aload_n (q := 506) dL_law_505 rfl rfl ?_
                refine v_iload (q := 508) dL_law_506 rfl rfl ?_
                refine v_iconst (v := (nI 5)) (q := 509) dL_law_508 rfl (by decide) ?_
                refine v_callV (As := [.int v10, .int (nI 5)]) (n := 2) (q := 512) dL_law_509 rfl lk_8_30 hd1 rfl rfl (Nat.le_of_ble_eq_true rfl) (CT.imp h (fun r s76 h => ?_))
                obtain ⟨x75, rfl, h⟩ := h
                show VV mL_law d sc 512 [some (.ref 102), some (.ref 0), some (.int v2), some (.int v3), some (.int v4), some (.int v5), some (.int v6), some (.int v7), some (.int v8), some (.int v9), some (.int v10), some (.int (nI 1)), none, none, none, none, none, none, none, none] [.int x75] s76 (Qi K)
                refine v_aload_n (q := 513) dL_law_512 rfl rfl ?_
                refine v_iload (q := 515) dL_law_513 rfl rfl ?_
                refine v_iconst (v := (nI 5)) (q := 516) dL_law_515 rfl (by decide) ?_
                refine v_callV (As := [.int v9, .int (nI 5)]) (n := 2) (q := 519) dL_law_516 rfl lk_8_30 hd1 rfl rfl (Nat.le_of_ble_eq_true rfl) (CT.imp h (fun r s78 h => ?_))
                obtain ⟨x77, rfl, h⟩ := h
                show VV mL_law d sc 519 [some (.ref 102), some (.ref 0), some (.int v2), some (.int v3), some (.int v4), some (.int v5), some (.int v6), some (.int v7), some (.int v8), some (.int v9), some (.int v10), some (.int (nI 1)), none, none, none, none, none, none, none, none] [.int x77, .int x75] s78 (Qi K)
                refine v_icmp_gt (t := 546) (q := 522) dL_law_519 rfl (by decide) (fun c => ?_) (fun c => ?_)
                · have h := h.1 (c)
                  refine v_iconst (v := (nI 0)) (q := 547) dL_law_546 rfl (by decide) ?_
                  exact v_zret dL_law_547 rfl (by decide) ⟨_, rfl, h⟩
                · have h := h.2 (c)
                  refine v_aload_n (q := 523) dL_law_522 rfl rfl ?_
                  refine v_iload (q := 525) dL_law_523 rfl rfl ?_
                  refine v_iconst (v := (nI 5)) (q := 526) dL_law_525 rfl (by decide) ?_
                  refine v_callV (As := [.int v10, .int (nI 5)]) (n := 2) (q := 529) dL_law_526 rfl lk_8_30 hd1 rfl rfl (Nat.le_of_ble_eq_true rfl) (CT.imp h (fun r s80 h => ?_))
                  obtain ⟨x79, rfl, h⟩ := h
                  show VV mL_law d sc 529 [some (.ref 102), some (.ref 0), some (.int v2), some (.int v3), some (.int v4), some (.int v5), some (.int v6), some (.int v7), some (.int v8), some (.int v9), some (.int v10), some (.int (nI 1)), none, none, none, none, none, none, none, none] [.int x79] s80 (Qi K)
                  refine v_aload_n (q := 530) dL_law_529 rfl rfl ?_
                  refine v_iload (q := 532) dL_law_530 rfl rfl ?_
                  refine v_iconst (v := (nI 5)) (q := 533) dL_law_532 rfl (by decide) ?_
                  refine v_callV (As := [.int v9, .int (nI 5)]) (n := 2) (q := 536) dL_law_533 rfl lk_8_30 hd1 rfl rfl (Nat.le_of_ble_eq_true rfl) (CT.imp h (fun r s82 h => ?_))
                  obtain ⟨x81, rfl, h⟩ := h
                  show VV mL_law d sc 536 [some (.ref 102), some (.ref 0), some (.int v2), some (.int v3), some (.int v4), some (.int v5), some (.int v6), some (.int v7), some (.int v8), some (.int v9), some (.int v10), some (.int (nI 1)), none, none, none, none, none, none, none, none] [.int x81, .int x79] s82 (Qi K)
                  refine v_icmp_ne (t := 548) (q := 539) dL_law_536 rfl (by decide) (fun c => ?_) (fun c => ?_)
                  · have h := h.1 (c)
                    exact h
                  · have h := h.2 (c)
                    refine v_iload (q := 541) dL_law_539 rfl rfl ?_
                    refine v_iload (q := 543) dL_law_541 rfl rfl ?_
                    refine v_icmp_ge (t := 548) (q := 546) dL_law_543 rfl (by decide) (fun c => ?_) (fun c => ?_)
                    · have h := h.1 (c)
                      exact h
                    · have h := h.2 (c)
                      refine v_iconst (v := (nI 0)) (q := 547) dL_law_546 rfl (by decide) ?_
                      exact v_zret dL_law_547 rfl (by decide) ⟨_, rfl, h⟩
set_option maxRecDepth 20000 in
theorem bL_law_548 {d : Nat} {σ : SS} {sc : Scr} {K : Int32 → SS → Prop} (v2 : Int32) (v3 : Int32) (v4 : Int32) (v5 : Int32) (v6 : Int32) (v7 : Int32) (v8 : Int32) (v9 : Int32) (v10 : Int32) (v11 : Int32)   (h : VV mL_law d sc 425 [some (.ref 102), some (.ref 0), some (.int v2), some (.int v3), some (.int v4), some (.int v5), some (.int v6), some (.int v7), some (.int v8), some (.int v9), some (.int (v10 + nI 1)), none, none, none, none, none, none, none, none, none] [] σ (Qi K)) : VV mL_law d sc 548 [some (.ref 102), some (.ref 0), some (.int v2), some (.int v3), some (.int v4), some (.int v5), some (.int v6), some (.int v7), some (.int v8), some (.int v9), some (.int v10), some (.int v11), none, none, none, none, none, none, none, none] [] σ (Qi K) := by
  refine v_iinc (y := (v10 + nI 1)) (q := 551) dL_law_548 rfl rfl (congrArg (fun z => v10 + z) (by decide)) (by decide) rfl ?_
  refine v_goto (q := 425) dL_law_551 (by decide) ?_
  exact v_msk [true, true, true, true, true, true, true, true, true, true, true, false, false, false, false, false, false, false, false, false] h
set_option maxRecDepth 20000 in
theorem bL_law_727 {d : Nat} {σ : SS} {sc : Scr} {K : Int32 → SS → Prop} (v2 : Int32) (v3 : Int32) (v4 : Int32) (v5 : Int32) (v6 : Int32) (v7 : Int32) (v8 : Int32) (v9 : Int32) (v10 : Int32) (v11 : Int32) (v12 : Int64) (v14 : Int32)  (hd1 : 1 ≤ d) (h : CTi mL_fits (d - 1) [.ref 0] σ (fun x1 s2 => ((x1 = 0) → (K (nI 0) s2)) ∧ ((¬ x1 = 0) → (((¬ ((v6 >>> ((nI 20) &&& 31)) &&& (nI 7)) = 0) → (VV mL_law d sc 764 [some (.ref 102), some (.ref 0), some (.int v2), some (.int v3), some (.int v4), some (.int v5), some (.int v6), some (.int v7), some (.int v8), some (.int v9), some (.int v10), some (.int v11), some (.long v12), none, some (.int v14), none, none, none, none, none] [] s2 (Qi K))) ∧ ((((v6 >>> ((nI 20) &&& 31)) &&& (nI 7)) = 0) → (CTi mX6_undo (d - 1) [.ref 0] s2 (fun x3 s4 => ((x3 < 0) → (K (nI 0) s4)) ∧ ((¬ x3 < 0) → (CTl mX6_digest (d - 1) [.ref 0] s4 (fun x5 s6 => (((lg_cmp x5 v12) = 0) → (VV mL_law d sc 764 [some (.ref 102), some (.ref 0), some (.int v2), some (.int v3), some (.int v4), some (.int v5), some (.int v6), some (.int v7), some (.int v8), some (.int v9), some (.int v10), some (.int v11), some (.long v12), none, some (.int v14), none, none, none, none, none] [] s6 (Qi K))) ∧ ((¬ (lg_cmp x5 v12) = 0) → (K (nI 0) s6)))))))))))) : VV mL_law d sc 727 [some (.ref 102), some (.ref 0), some (.int v2), some (.int v3), some (.int v4), some (.int v5), some (.int v6), some (.int v7), some (.int v8), some (.int v9), some (.int v10), some (.int v11), some (.long v12), none, some (.int v14), none, none, none, none, none] [] σ (Qi K) := by
  refine v_aload_n (q := 728) dL_law_727 rfl rfl ?_
  refine v_callS (As := [.ref 0]) (n := 1) (q := 731) dL_law_728 rfl lk_8_40 hd1 rfl (Nat.le_of_ble_eq_true rfl) (CT.imp h (fun r s2 h => ?_))
  obtain ⟨x1, rfl, h⟩ := h
  show VV mL_law d sc 731 [some (.ref 102), some (.ref 0), some (.int v2), some (.int v3), some (.int v4), some (.int v5), some (.int v6), some (.int v7), some (.int v8), some (.int v9), some (.int v10), some (.int v11), some (.long v12), none, some (.int v14), none, none, none, none, none] [.int x1] s2 (Qi K)
  refine v_if_eq (t := 762) (q := 734) dL_law_731 rfl (by decide) (fun c => ?_) (fun c => ?_)
  · have h := h.1 (c)
    refine v_iconst (v := (nI 0)) (q := 763) dL_law_762 rfl (by decide) ?_
    exact v_zret dL_law_763 rfl (by decide) ⟨_, rfl, h⟩
  · have h := h.2 (c)
    refine v_iload (q := 736) dL_law_734 rfl rfl ?_
    refine v_bipush (v := (nI 20)) (q := 738) dL_law_736 rfl (by decide) ?_
    refine v_ishr (q := 739) dL_law_738 rfl ?_
    refine v_bipush (v := (nI 7)) (q := 741) dL_law_739 rfl (by decide) ?_
    refine v_iand (q := 742) dL_law_741 rfl ?_
    refine v_if_ne (t := 764) (q := 745) dL_law_742 rfl (by decide) (fun c => ?_) (fun c => ?_)
    · have h := h.1 (c)
      exact h
    · have h := h.2 (c)
      refine v_aload_n (q := 746) dL_law_745 rfl rfl ?_
      refine v_callV (As := []) (n := 0) (q := 749) dL_law_746 rfl lk_8_58 hd1 rfl rfl (Nat.le_of_ble_eq_true rfl) (CT.imp h (fun r s4 h => ?_))
      obtain ⟨x3, rfl, h⟩ := h
      show VV mL_law d sc 749 [some (.ref 102), some (.ref 0), some (.int v2), some (.int v3), some (.int v4), some (.int v5), some (.int v6), some (.int v7), some (.int v8), some (.int v9), some (.int v10), some (.int v11), some (.long v12), none, some (.int v14), none, none, none, none, none] [.int x3] s4 (Qi K)
      refine v_if_lt (t := 762) (q := 752) dL_law_749 rfl (by decide) (fun c => ?_) (fun c => ?_)
      · have h := h.1 (c)
        refine v_iconst (v := (nI 0)) (q := 763) dL_law_762 rfl (by decide) ?_
        exact v_zret dL_law_763 rfl (by decide) ⟨_, rfl, h⟩
      · have h := h.2 (c)
        refine v_aload_n (q := 753) dL_law_752 rfl rfl ?_
        refine v_callV (As := []) (n := 0) (q := 756) dL_law_753 rfl lk_8_86 hd1 rfl rfl (Nat.le_of_ble_eq_true rfl) (CT.imp h (fun r s6 h => ?_))
        obtain ⟨x5, rfl, h⟩ := h
        show VV mL_law d sc 756 [some (.ref 102), some (.ref 0), some (.int v2), some (.int v3), some (.int v4), some (.int v5), some (.int v6), some (.int v7), some (.int v8), some (.int v9), some (.int v10), some (.int v11), some (.long v12), none, some (.int v14), none, none, none, none, none] [.long x5] s6 (Qi K)
        refine v_lload (q := 758) dL_law_756 rfl rfl ?_
        refine v_lcmp (q := 759) dL_law_758 rfl ?_
        refine v_if_eq (t := 764) (q := 762) dL_law_759 rfl (by decide) (fun c => ?_) (fun c => ?_)
        · have h := h.1 (c)
          exact h
        · have h := h.2 (c)
          refine v_iconst (v := (nI 0)) (q := 763) dL_law_762 rfl (by decide) ?_
          exact v_zret dL_law_763 rfl (by decide) ⟨_, rfl, h⟩
set_option maxRecDepth 20000 in
theorem bL_law_764 {d : Nat} {σ : SS} {sc : Scr} {K : Int32 → SS → Prop} (v2 : Int32) (v3 : Int32) (v4 : Int32) (v5 : Int32) (v6 : Int32) (v7 : Int32) (v8 : Int32) (v9 : Int32) (v10 : Int32) (v11 : Int32) (v12 : Int64) (v14 : Int32)  (hd1 : 1 ≤ d) (h : ((¬ ((v6 >>> ((nI 23) &&& 31)) &&& (nI 3)) = 0) → (VV mL_law d sc 791 [some (.ref 102), some (.ref 0), some (.int v2), some (.int v3), some (.int v4), some (.int v5), some (.int v6), some (.int v7), some (.int v8), some (.int v9), some (.int v10), some (.int v11), some (.long v12), none, some (.int v14), none, none, none, none, none] [] σ (Qi K))) ∧ ((((v6 >>> ((nI 23) &&& 31)) &&& (nI 3)) = 0) → (CTi mL_low (d - 1) [.int (v6 >>> ((nI 25) &&& 31)), .int (nI 9)] σ (fun x1 s2 => CTi mX6_pass (d - 1) [.ref 0, .int ((nI 1) + x1)] s2 (fun x3 s4 => VV mL_law d sc 791 [some (.ref 102), some (.ref 0), some (.int v2), some (.int v3), some (.int v4), some (.int v5), some (.int v6), some (.int v7), some (.int v8), some (.int v9), some (.int v10), some (.int v11), some (.long v12), none, some (.int v14), none, none, none, none, none] [] s4 (Qi K)))))) : VV mL_law d sc 764 [some (.ref 102), some (.ref 0), some (.int v2), some (.int v3), some (.int v4), some (.int v5), some (.int v6), some (.int v7), some (.int v8), some (.int v9), some (.int v10), some (.int v11), some (.long v12), none, some (.int v14), none, none, none, none, none] [] σ (Qi K) := by
  refine v_iload (q := 766) dL_law_764 rfl rfl ?_
  refine v_bipush (v := (nI 23)) (q := 768) dL_law_766 rfl (by decide) ?_
  refine v_ishr (q := 769) dL_law_768 rfl ?_
  refine v_iconst (v := (nI 3)) (q := 770) dL_law_769 rfl (by decide) ?_
  refine v_iand (q := 771) dL_law_770 rfl ?_
  refine v_if_ne (t := 791) (q := 774) dL_law_771 rfl (by decide) (fun c => ?_) (fun c => ?_)
  · have h := h.1 (c)
    exact h
  · have h := h.2 (c)
    refine v_aload_n (q := 775) dL_law_774 rfl rfl ?_
    refine v_iconst (v := (nI 1)) (q := 776) dL_law_775 rfl (by decide) ?_
    refine v_iload (q := 778) dL_law_776 rfl rfl ?_
    refine v_bipush (v := (nI 25)) (q := 780) dL_law_778 rfl (by decide) ?_
    refine v_ishr (q := 781) dL_law_780 rfl ?_
    refine v_bipush (v := (nI 9)) (q := 783) dL_law_781 rfl (by decide) ?_
    refine v_callS (As := [.int (v6 >>> ((nI 25) &&& 31)), .int (nI 9)]) (n := 2) (q := 786) dL_law_783 rfl lk_8_14 hd1 rfl (Nat.le_of_ble_eq_true rfl) (CT.imp h (fun r s2 h => ?_))
    obtain ⟨x1, rfl, h⟩ := h
    show VV mL_law d sc 786 [some (.ref 102), some (.ref 0), some (.int v2), some (.int v3), some (.int v4), some (.int v5), some (.int v6), some (.int v7), some (.int v8), some (.int v9), some (.int v10), some (.int v11), some (.long v12), none, some (.int v14), none, none, none, none, none] [.int x1, .int (nI 1), .ref 0] s2 (Qi K)
    refine v_iadd (q := 787) dL_law_786 rfl ?_
    refine v_callV (As := [.int ((nI 1) + x1)]) (n := 1) (q := 790) dL_law_787 rfl lk_8_90 hd1 rfl rfl (Nat.le_of_ble_eq_true rfl) (CT.imp h (fun r s4 h => ?_))
    obtain ⟨x3, rfl, h⟩ := h
    show VV mL_law d sc 790 [some (.ref 102), some (.ref 0), some (.int v2), some (.int v3), some (.int v4), some (.int v5), some (.int v6), some (.int v7), some (.int v8), some (.int v9), some (.int v10), some (.int v11), some (.long v12), none, some (.int v14), none, none, none, none, none] [.int x3] s4 (Qi K)
    refine v_pop (q := 791) dL_law_790 rfl rfl ?_
    exact h
set_option maxRecDepth 20000 in
theorem bL_law_791 {d : Nat} {σ : SS} {sc : Scr} {K : Int32 → SS → Prop} (v2 : Int32) (v3 : Int32) (v4 : Int32) (v5 : Int32) (v6 : Int32) (v7 : Int32) (v8 : Int32) (v9 : Int32) (v10 : Int32) (v11 : Int32) (v12 : Int64) (v14 : Int32)  (hd1 : 1 ≤ d) (h : CTi mX6_cheapest (d - 1) [.ref 0, .int v7] σ (fun x1 s2 => CTi mX6_piece (d - 1) [.ref 0, .int v7, .int (nI 0)] s2 (fun x3 s4 => VV mL_law d sc 817 [some (.ref 102), some (.ref 0), some (.int v2), some (.int v3), some (.int v4), some (.int v5), some (.int v6), some (.int v7), some (.int v8), some (.int v9), some (.int v10), some (.int v11), some (.long v12), none, some (.int v14), some (.int x1), some (.int (nI 0)), some (.int (nI 0)), some (.int (nI 0)), some (.int x3)] [] s4 (Qi K)))) : VV mL_law d sc 791 [some (.ref 102), some (.ref 0), some (.int v2), some (.int v3), some (.int v4), some (.int v5), some (.int v6), some (.int v7), some (.int v8), some (.int v9), some (.int v10), some (.int v11), some (.long v12), none, some (.int v14), none, none, none, none, none] [] σ (Qi K) := by
  refine v_aload_n (q := 792) dL_law_791 rfl rfl ?_
  refine v_iload (q := 794) dL_law_792 rfl rfl ?_
  refine v_callV (As := [.int v7]) (n := 1) (q := 797) dL_law_794 rfl lk_8_93 hd1 rfl rfl (Nat.le_of_ble_eq_true rfl) (CT.imp h (fun r s2 h => ?_))
  obtain ⟨x1, rfl, h⟩ := h
  show VV mL_law d sc 797 [some (.ref 102), some (.ref 0), some (.int v2), some (.int v3), some (.int v4), some (.int v5), some (.int v6), some (.int v7), some (.int v8), some (.int v9), some (.int v10), some (.int v11), some (.long v12), none, some (.int v14), none, none, none, none, none] [.int x1] s2 (Qi K)
  refine v_istore (q := 799) dL_law_797 rfl (by decide) rfl ?_
  refine v_iconst (v := (nI 0)) (q := 800) dL_law_799 rfl (by decide) ?_
  refine v_istore (q := 802) dL_law_800 rfl (by decide) rfl ?_
  refine v_iconst (v := (nI 0)) (q := 803) dL_law_802 rfl (by decide) ?_
  refine v_istore (q := 805) dL_law_803 rfl (by decide) rfl ?_
  refine v_iconst (v := (nI 0)) (q := 806) dL_law_805 rfl (by decide) ?_
  refine v_istore (q := 808) dL_law_806 rfl (by decide) rfl ?_
  refine v_aload_n (q := 809) dL_law_808 rfl rfl ?_
  refine v_iload (q := 811) dL_law_809 rfl rfl ?_
  refine v_iconst (v := (nI 0)) (q := 812) dL_law_811 rfl (by decide) ?_
  refine v_callV (As := [.int v7, .int (nI 0)]) (n := 2) (q := 815) dL_law_812 rfl lk_8_96 hd1 rfl rfl (Nat.le_of_ble_eq_true rfl) (CT.imp h (fun r s4 h => ?_))
  obtain ⟨x3, rfl, h⟩ := h
  show VV mL_law d sc 815 [some (.ref 102), some (.ref 0), some (.int v2), some (.int v3), some (.int v4), some (.int v5), some (.int v6), some (.int v7), some (.int v8), some (.int v9), some (.int v10), some (.int v11), some (.long v12), none, some (.int v14), some (.int x1), some (.int (nI 0)), some (.int (nI 0)), some (.int (nI 0)), none] [.int x3] s4 (Qi K)
  refine v_istore (q := 817) dL_law_815 rfl (by decide) rfl ?_
  exact h
set_option maxRecDepth 20000 in
theorem bL_law_817 {d : Nat} {σ : SS} {sc : Scr} {K : Int32 → SS → Prop} (v2 : Int32) (v3 : Int32) (v4 : Int32) (v5 : Int32) (v6 : Int32) (v7 : Int32) (v8 : Int32) (v9 : Int32) (v10 : Int32) (v11 : Int32) (v12 : Int64) (v14 : Int32) (v15 : Int32) (v16 : Int32) (v17 : Int32) (v18 : Int32) (v19 : Int32)  (hd1 : 1 ≤ d) (h : ((v19 < 0) → (((0 ≤ v15) → (((¬ v16 = v8) → (K (nI 0) σ)) ∧ ((v16 = v8) → (((v17 = v15) → (VV mL_law d sc 919 [some (.ref 102), some (.ref 0), some (.int v2), some (.int v3), some (.int v4), some (.int v5), some (.int v6), some (.int v7), some (.int v8), some (.int v9), some (.int v10), some (.int v11), some (.long v12), none, some (.int v14), some (.int v15), some (.int v16), some (.int v17), some (.int v18), some (.int v19)] [] σ (Qi K))) ∧ ((¬ v17 = v15) → (K (nI 0) σ)))))) ∧ ((¬ 0 ≤ v15) → (((¬ v15 = (-1000000)) → (K (nI 0) σ)) ∧ ((v15 = (-1000000)) → (((v18 = 0) → (VV mL_law d sc 919 [some (.ref 102), some (.ref 0), some (.int v2), some (.int v3), some (.int v4), some (.int v5), some (.int v6), some (.int v7), some (.int v8), some (.int v9), some (.int v10), some (.int v11), some (.long v12), none, some (.int v14), some (.int v15), some (.int v16), some (.int v17), some (.int v18), some (.int v19)] [] σ (Qi K))) ∧ ((¬ v18 = 0) → (K (nI 0) σ)))))))) ∧ ((¬ v19 < 0) → (CTi mX6_phrase (d - 1) [.ref 0, .int v19, .int (nI 1)] σ (fun x1 s2 => CTi mX6_phrase (d - 1) [.ref 0, .int v19, .int (nI 0)] s2 (fun x3 s4 => ((¬ x3 = v7) → (CTi mX6_phrase (d - 1) [.ref 0, .int v19, .int (nI 0)] s4 (fun x5 s6 => CTi mX6_member (d - 1) [.ref 0, .int x5, .int (nI 0)] s6 (fun x7 s8 => CTi mX6_piece (d - 1) [.ref 0, .int v7, .int (v18 + nI 1)] s8 (fun x9 s10 => VV mL_law d sc 817 [some (.ref 102), some (.ref 0), some (.int v2), some (.int v3), some (.int v4), some (.int v5), some (.int v6), some (.int v7), some (.int v8), some (.int v9), some (.int v10), some (.int v11), some (.long v12), none, some (.int v14), some (.int v15), some (.int (v16 + x1)), some (.int (v17 + x7)), some (.int (v18 + nI 1)), some (.int x9)] [] s10 (Qi K)))))) ∧ ((x3 = v7) → (CTi mX6_piece (d - 1) [.ref 0, .int v7, .int (v18 + nI 1)] s4 (fun x11 s12 => VV mL_law d sc 817 [some (.ref 102), some (.ref 0), some (.int v2), some (.int v3), some (.int v4), some (.int v5), some (.int v6), some (.int v7), some (.int v8), some (.int v9), some (.int v10), some (.int v11), some (.long v12), none, some (.int v14), some (.int v15), some (.int (v16 + x1)), some (.int (v17 + (nI 0))), some (.int (v18 + nI 1)), some (.int x11)] [] s12 (Qi K))))))))) : VV mL_law d sc 817 [some (.ref 102), some (.ref 0), some (.int v2), some (.int v3), some (.int v4), some (.int v5), some (.int v6), some (.int v7), some (.int v8), some (.int v9), some (.int v10), some (.int v11), some (.long v12), none, some (.int v14), some (.int v15), some (.int v16), some (.int v17), some (.int v18), some (.int v19)] [] σ (Qi K) := by
  refine v_iload (q := 819) dL_law_817 rfl rfl ?_
  refine v_if_lt (t := 883) (q := 822) dL_law_819 rfl (by decide) (fun c => ?_) (fun c => ?_)
  · have h := h.1 (c)
    refine v_iload (q := 885) dL_law_883 rfl rfl ?_
    refine v_if_ge (t := 903) (q := 888) dL_law_885 rfl (by decide) (fun c => ?_) (fun c => ?_)
    · have h := h.1 (c)
      refine v_iload (q := 905) dL_law_903 rfl rfl ?_
      refine v_iload (q := 907) dL_law_905 rfl rfl ?_
      refine v_icmp_ne (t := 917) (q := 910) dL_law_907 rfl (by decide) (fun c => ?_) (fun c => ?_)
      · have h := h.1 (c)
        refine v_iconst (v := (nI 0)) (q := 918) dL_law_917 rfl (by decide) ?_
        exact v_zret dL_law_918 rfl (by decide) ⟨_, rfl, h⟩
      · have h := h.2 (c)
        refine v_iload (q := 912) dL_law_910 rfl rfl ?_
        refine v_iload (q := 914) dL_law_912 rfl rfl ?_
        refine v_icmp_eq (t := 919) (q := 917) dL_law_914 rfl (by decide) (fun c => ?_) (fun c => ?_)
        · have h := h.1 (c)
          exact h
        · have h := h.2 (c)
          refine v_iconst (v := (nI 0)) (q := 918) dL_law_917 rfl (by decide) ?_
          exact v_zret dL_law_918 rfl (by decide) ⟨_, rfl, h⟩
    · have h := h.2 (c)
      refine v_iload (q := 890) dL_law_888 rfl rfl ?_
      refine v_ldc (v := (-1000000)) (q := 892) dL_law_890 rfl cn_8_78 ?_
      refine v_icmp_ne (t := 917) (q := 895) dL_law_892 rfl (by decide) (fun c => ?_) (fun c => ?_)
      · have h := h.1 (c)
        refine v_iconst (v := (nI 0)) (q := 918) dL_law_917 rfl (by decide) ?_
        exact v_zret dL_law_918 rfl (by decide) ⟨_, rfl, h⟩
      · have h := h.2 (c)
        refine v_iload (q := 897) dL_law_895 rfl rfl ?_
        refine v_if_eq (t := 919) (q := 900) dL_law_897 rfl (by decide) (fun c => ?_) (fun c => ?_)
        · have h := h.1 (c)
          exact h
        · have h := h.2 (c)
          refine v_goto (q := 917) dL_law_900 (by decide) ?_
          refine v_iconst (v := (nI 0)) (q := 918) dL_law_917 rfl (by decide) ?_
          exact v_zret dL_law_918 rfl (by decide) ⟨_, rfl, h⟩
  · have h := h.2 (c)
    refine v_iload (q := 824) dL_law_822 rfl rfl ?_
    refine v_aload_n (q := 825) dL_law_824 rfl rfl ?_
    refine v_iload (q := 827) dL_law_825 rfl rfl ?_
    refine v_iconst (v := (nI 1)) (q := 828) dL_law_827 rfl (by decide) ?_
    refine v_callV (As := [.int v19, .int (nI 1)]) (n := 2) (q := 831) dL_law_828 rfl lk_8_30 hd1 rfl rfl (Nat.le_of_ble_eq_true rfl) (CT.imp h (fun r s2 h => ?_))
    obtain ⟨x1, rfl, h⟩ := h
    show VV mL_law d sc 831 [some (.ref 102), some (.ref 0), some (.int v2), some (.int v3), some (.int v4), some (.int v5), some (.int v6), some (.int v7), some (.int v8), some (.int v9), some (.int v10), some (.int v11), some (.long v12), none, some (.int v14), some (.int v15), some (.int v16), some (.int v17), some (.int v18), some (.int v19)] [.int x1, .int v16] s2 (Qi K)
    refine v_iadd (q := 832) dL_law_831 rfl ?_
    refine v_istore (q := 834) dL_law_832 rfl (by decide) rfl ?_
    refine v_iload (q := 836) dL_law_834 rfl rfl ?_
    refine v_aload_n (q := 837) dL_law_836 rfl rfl ?_
    refine v_iload (q := 839) dL_law_837 rfl rfl ?_
    refine v_iconst (v := (nI 0)) (q := 840) dL_law_839 rfl (by decide) ?_
    refine v_callV (As := [.int v19, .int (nI 0)]) (n := 2) (q := 843) dL_law_840 rfl lk_8_30 hd1 rfl rfl (Nat.le_of_ble_eq_true rfl) (CT.imp h (fun r s4 h => ?_))
    obtain ⟨x3, rfl, h⟩ := h
    show VV mL_law d sc 843 [some (.ref 102), some (.ref 0), some (.int v2), some (.int v3), some (.int v4), some (.int v5), some (.int v6), some (.int v7), some (.int v8), some (.int v9), some (.int v10), some (.int v11), some (.long v12), none, some (.int v14), some (.int v15), some (.int (v16 + x1)), some (.int v17), some (.int v18), some (.int v19)] [.int x3, .int v17] s4 (Qi K)
    refine v_iload (q := 845) dL_law_843 rfl rfl ?_
    refine v_icmp_ne (t := 852) (q := 848) dL_law_845 rfl (by decide) (fun c => ?_) (fun c => ?_)
    · have h := h.1 (c)
      refine v_aload_n (q := 853) dL_law_852 rfl rfl ?_
      refine v_aload_n (q := 854) dL_law_853 rfl rfl ?_
      refine v_iload (q := 856) dL_law_854 rfl rfl ?_
      refine v_iconst (v := (nI 0)) (q := 857) dL_law_856 rfl (by decide) ?_
      refine v_callV (As := [.int v19, .int (nI 0)]) (n := 2) (q := 860) dL_law_857 rfl lk_8_30 hd1 rfl rfl (Nat.le_of_ble_eq_true rfl) (CT.imp h (fun r s6 h => ?_))
      obtain ⟨x5, rfl, h⟩ := h
      show VV mL_law d sc 860 [some (.ref 102), some (.ref 0), some (.int v2), some (.int v3), some (.int v4), some (.int v5), some (.int v6), some (.int v7), some (.int v8), some (.int v9), some (.int v10), some (.int v11), some (.long v12), none, some (.int v14), some (.int v15), some (.int (v16 + x1)), some (.int v17), some (.int v18), some (.int v19)] [.int x5, .ref 0, .int v17] s6 (Qi K)
      refine v_iconst (v := (nI 0)) (q := 861) dL_law_860 rfl (by decide) ?_
      refine v_callV (As := [.int x5, .int (nI 0)]) (n := 2) (q := 864) dL_law_861 rfl lk_8_27 hd1 rfl rfl (Nat.le_of_ble_eq_true rfl) (CT.imp h (fun r s8 h => ?_))
      obtain ⟨x7, rfl, h⟩ := h
      show VV mL_law d sc 864 [some (.ref 102), some (.ref 0), some (.int v2), some (.int v3), some (.int v4), some (.int v5), some (.int v6), some (.int v7), some (.int v8), some (.int v9), some (.int v10), some (.int v11), some (.long v12), none, some (.int v14), some (.int v15), some (.int (v16 + x1)), some (.int v17), some (.int v18), some (.int v19)] [.int x7, .int v17] s8 (Qi K)
      refine v_iadd (q := 865) dL_law_864 rfl ?_
      refine v_istore (q := 867) dL_law_865 rfl (by decide) rfl ?_
      refine v_iinc (y := (v18 + nI 1)) (q := 870) dL_law_867 rfl rfl (congrArg (fun z => v18 + z) (by decide)) (by decide) rfl ?_
      refine v_aload_n (q := 871) dL_law_870 rfl rfl ?_
      refine v_iload (q := 873) dL_law_871 rfl rfl ?_
      refine v_iload (q := 875) dL_law_873 rfl rfl ?_
      refine v_callV (As := [.int v7, .int (v18 + nI 1)]) (n := 2) (q := 878) dL_law_875 rfl lk_8_96 hd1 rfl rfl (Nat.le_of_ble_eq_true rfl) (CT.imp h (fun r s10 h => ?_))
      obtain ⟨x9, rfl, h⟩ := h
      show VV mL_law d sc 878 [some (.ref 102), some (.ref 0), some (.int v2), some (.int v3), some (.int v4), some (.int v5), some (.int v6), some (.int v7), some (.int v8), some (.int v9), some (.int v10), some (.int v11), some (.long v12), none, some (.int v14), some (.int v15), some (.int (v16 + x1)), some (.int (v17 + x7)), some (.int (v18 + nI 1)), some (.int v19)] [.int x9] s10 (Qi K)
      refine v_istore (q := 880) dL_law_878 rfl (by decide) rfl ?_
      refine v_goto (q := 817) dL_law_880 (by decide) ?_
      exact h
    · have h := h.2 (c)
      refine v_iconst (v := (nI 0)) (q := 849) dL_law_848 rfl (by decide) ?_
      refine v_goto (q := 864) dL_law_849 (by decide) ?_
      refine v_iadd (q := 865) dL_law_864 rfl ?_
      refine v_istore (q := 867) dL_law_865 rfl (by decide) rfl ?_
      refine v_iinc (y := (v18 + nI 1)) (q := 870) dL_law_867 rfl rfl (congrArg (fun z => v18 + z) (by decide)) (by decide) rfl ?_
      refine v_aload_n (q := 871) dL_law_870 rfl rfl ?_
      refine v_iload (q := 873) dL_law_871 rfl rfl ?_
      refine v_iload (q := 875) dL_law_873 rfl rfl ?_
      refine v_callV (As := [.int v7, .int (v18 + nI 1)]) (n := 2) (q := 878) dL_law_875 rfl lk_8_96 hd1 rfl rfl (Nat.le_of_ble_eq_true rfl) (CT.imp h (fun r s12 h => ?_))
      obtain ⟨x11, rfl, h⟩ := h
      show VV mL_law d sc 878 [some (.ref 102), some (.ref 0), some (.int v2), some (.int v3), some (.int v4), some (.int v5), some (.int v6), some (.int v7), some (.int v8), some (.int v9), some (.int v10), some (.int v11), some (.long v12), none, some (.int v14), some (.int v15), some (.int (v16 + x1)), some (.int (v17 + (nI 0))), some (.int (v18 + nI 1)), some (.int v19)] [.int x11] s12 (Qi K)
      refine v_istore (q := 880) dL_law_878 rfl (by decide) rfl ?_
      refine v_goto (q := 817) dL_law_880 (by decide) ?_
      exact h
set_option maxRecDepth 20000 in
theorem bL_law_919 {d : Nat} {σ : SS} {sc : Scr} {K : Int32 → SS → Prop} (v2 : Int32) (v3 : Int32) (v4 : Int32) (v5 : Int32) (v6 : Int32) (v7 : Int32) (v8 : Int32) (v9 : Int32) (v10 : Int32) (v11 : Int32) (v12 : Int64) (v14 : Int32) (v15 : Int32) (v16 : Int32) (v17 : Int32) (v18 : Int32) (v19 : Int32)   (h : VV mL_law d sc 368 [some (.ref 102), some (.ref 0), some (.int v2), some (.int v3), some (.int v4), some (.int (v5 + nI 1)), none, none, none, none, none, none, none, none, none, none, none, none, none, none] [] σ (Qi K)) : VV mL_law d sc 919 [some (.ref 102), some (.ref 0), some (.int v2), some (.int v3), some (.int v4), some (.int v5), some (.int v6), some (.int v7), some (.int v8), some (.int v9), some (.int v10), some (.int v11), some (.long v12), none, some (.int v14), some (.int v15), some (.int v16), some (.int v17), some (.int v18), some (.int v19)] [] σ (Qi K) := by
  refine v_iinc (y := (v5 + nI 1)) (q := 922) dL_law_919 rfl rfl (congrArg (fun z => v5 + z) (by decide)) (by decide) rfl ?_
  refine v_goto (q := 368) dL_law_922 (by decide) ?_
  exact v_msk [true, true, true, true, true, true, false, false, false, false, false, false, false, false, false, false, false, false, false, false] h
set_option maxRecDepth 20000 in
theorem bL_law_965 {d : Nat} {σ : SS} {sc : Scr} {K : Int32 → SS → Prop} (v2 : Int32) (v3 : Int32) (v4 : Int32) (v5 : Int32) (v6 : Int64) (v8 : Int32) (v9 : Int32) (v10 : Int32) (v11 : Int32)  (hd1 : 1 ≤ d) (h : CTi mX6_count (d - 1) [.ref 0, .int (nI 3)] σ (fun x1 s2 => ((x1 ≤ v11) → (CTi mX6_retract (d - 1) [.ref 0, .int v5] s2 (fun x3 s4 => ((x3 < (nI 1)) → (K (nI 0) s4)) ∧ ((¬ x3 < (nI 1)) → (CTi mX6_count (d - 1) [.ref 0, .int (nI 2)] s4 (fun x5 s6 => ((¬ x5 = (v9 - x3)) → (K (nI 0) s6)) ∧ ((x5 = (v9 - x3)) → (CTi mX6_phrase (d - 1) [.ref 0, .int v5, .int (nI 4)] s6 (fun x7 s8 => ((¬ x7 = 0) → (K (nI 0) s8)) ∧ ((x7 = 0) → (CTi mL_fits (d - 1) [.ref 0] s8 (fun x9 s10 => ((x9 = 0) → (K (nI 0) s10)) ∧ ((¬ x9 = 0) → (CTi mX6_retract (d - 1) [.ref 0, .int v5] s10 (fun x11 s12 => ((¬ x11 = (-1000003)) → (K (nI 0) s12)) ∧ ((x11 = (-1000003)) → (CTi mX6_wouldPayBack (d - 1) [.ref 0, .int v5] s12 (fun x13 s14 => ((x13 = (-1000003)) → (VV mL_law d sc 1079 [some (.ref 102), some (.ref 0), some (.int v2), some (.int v3), some (.int v4), some (.int v5), some (.long v6), none, some (.int v8), some (.int v9), some (.int v10), some (.int x3), some (.int (nI 0)), none, none, none, none, none, none, none] [] s14 (Qi K))) ∧ ((¬ x13 = (-1000003)) → (K (nI 0) s14)))))))))))))))))))) ∧ ((¬ x1 ≤ v11) → (CTi mX6_note (d - 1) [.ref 0, .int v11, .int (nI 5)] s2 (fun x15 s16 => ((¬ x15 = (nI 1)) → (VV mL_law d sc 965 [some (.ref 102), some (.ref 0), some (.int v2), some (.int v3), some (.int v4), some (.int v5), some (.long v6), none, some (.int v8), some (.int v9), some (.int (v10 + (nI 0))), some (.int (v11 + nI 1)), none, none, none, none, none, none, none, none] [] s16 (Qi K))) ∧ ((x15 = (nI 1)) → (CTi mX6_note (d - 1) [.ref 0, .int v11, .int (nI 3)] s16 (fun x17 s18 => VV mL_law d sc 965 [some (.ref 102), some (.ref 0), some (.int v2), some (.int v3), some (.int v4), some (.int v5), some (.long v6), none, some (.int v8), some (.int v9), some (.int (v10 + x17)), some (.int (v11 + nI 1)), none, none, none, none, none, none, none, none] [] s18 (Qi K))))))))) : VV mL_law d sc 965 [some (.ref 102), some (.ref 0), some (.int v2), some (.int v3), some (.int v4), some (.int v5), some (.long v6), none, some (.int v8), some (.int v9), some (.int v10), some (.int v11), none, none, none, none, none, none, none, none] [] σ (Qi K) := by
  refine v_iload (q := 967) dL_law_965 rfl rfl ?_
  refine v_aload_n (q := 968) dL_law_967 rfl rfl ?_
  refine v_iconst (v := (nI 3)) (q := 969) dL_law_968 rfl (by decide) ?_
  refine v_callV (As := [.int (nI 3)]) (n := 1) (q := 972) dL_law_969 rfl lk_8_24 hd1 rfl rfl (Nat.le_of_ble_eq_true rfl) (CT.imp h (fun r s2 h => ?_))
  obtain ⟨x1, rfl, h⟩ := h
  show VV mL_law d sc 972 [some (.ref 102), some (.ref 0), some (.int v2), some (.int v3), some (.int v4), some (.int v5), some (.long v6), none, some (.int v8), some (.int v9), some (.int v10), some (.int v11), none, none, none, none, none, none, none, none] [.int x1, .int v11] s2 (Qi K)
  refine v_icmp_ge (t := 1008) (q := 975) dL_law_972 rfl (by decide) (fun c => ?_) (fun c => ?_)
  · have h := h.1 (c)
    refine v_aload_n (q := 1009) dL_law_1008 rfl rfl ?_
    refine v_iload (q := 1011) dL_law_1009 rfl rfl ?_
    refine v_callV (As := [.int v5]) (n := 1) (q := 1014) dL_law_1011 rfl lk_8_102 hd1 rfl rfl (Nat.le_of_ble_eq_true rfl) (CT.imp h (fun r s4 h => ?_))
    obtain ⟨x3, rfl, h⟩ := h
    show VV mL_law d sc 1014 [some (.ref 102), some (.ref 0), some (.int v2), some (.int v3), some (.int v4), some (.int v5), some (.long v6), none, some (.int v8), some (.int v9), some (.int v10), some (.int v11), none, none, none, none, none, none, none, none] [.int x3] s4 (Qi K)
    refine v_istore (q := 1016) dL_law_1014 rfl (by decide) rfl ?_
    refine v_iload (q := 1018) dL_law_1016 rfl rfl ?_
    refine v_iconst (v := (nI 1)) (q := 1019) dL_law_1018 rfl (by decide) ?_
    refine v_icmp_lt (t := 1074) (q := 1022) dL_law_1019 rfl (by decide) (fun c => ?_) (fun c => ?_)
    · have h := h.1 (c)
      refine v_iconst (v := (nI 0)) (q := 1075) dL_law_1074 rfl (by decide) ?_
      exact v_zret dL_law_1075 rfl (by decide) ⟨_, rfl, h⟩
    · have h := h.2 (c)
      refine v_aload_n (q := 1023) dL_law_1022 rfl rfl ?_
      refine v_iconst (v := (nI 2)) (q := 1024) dL_law_1023 rfl (by decide) ?_
      refine v_callV (As := [.int (nI 2)]) (n := 1) (q := 1027) dL_law_1024 rfl lk_8_24 hd1 rfl rfl (Nat.le_of_ble_eq_true rfl) (CT.imp h (fun r s6 h => ?_))
      obtain ⟨x5, rfl, h⟩ := h
      show VV mL_law d sc 1027 [some (.ref 102), some (.ref 0), some (.int v2), some (.int v3), some (.int v4), some (.int v5), some (.long v6), none, some (.int v8), some (.int v9), some (.int v10), some (.int x3), none, none, none, none, none, none, none, none] [.int x5] s6 (Qi K)
      refine v_iload (q := 1029) dL_law_1027 rfl rfl ?_
      refine v_iload (q := 1031) dL_law_1029 rfl rfl ?_
      refine v_isub (q := 1032) dL_law_1031 rfl ?_
      refine v_icmp_ne (t := 1074) (q := 1035) dL_law_1032 rfl (by decide) (fun c => ?_) (fun c => ?_)
      · have h := h.1 (c)
        refine v_iconst (v := (nI 0)) (q := 1075) dL_law_1074 rfl (by decide) ?_
        exact v_zret dL_law_1075 rfl (by decide) ⟨_, rfl, h⟩
      · have h := h.2 (c)
        refine v_aload_n (q := 1036) dL_law_1035 rfl rfl ?_
        refine v_iload (q := 1038) dL_law_1036 rfl rfl ?_
        refine v_iconst (v := (nI 4)) (q := 1039) dL_law_1038 rfl (by decide) ?_
        refine v_callV (As := [.int v5, .int (nI 4)]) (n := 2) (q := 1042) dL_law_1039 rfl lk_8_30 hd1 rfl rfl (Nat.le_of_ble_eq_true rfl) (CT.imp h (fun r s8 h => ?_))
        obtain ⟨x7, rfl, h⟩ := h
        show VV mL_law d sc 1042 [some (.ref 102), some (.ref 0), some (.int v2), some (.int v3), some (.int v4), some (.int v5), some (.long v6), none, some (.int v8), some (.int v9), some (.int v10), some (.int x3), none, none, none, none, none, none, none, none] [.int x7] s8 (Qi K)
        refine v_if_ne (t := 1074) (q := 1045) dL_law_1042 rfl (by decide) (fun c => ?_) (fun c => ?_)
        · have h := h.1 (c)
          refine v_iconst (v := (nI 0)) (q := 1075) dL_law_1074 rfl (by decide) ?_
          exact v_zret dL_law_1075 rfl (by decide) ⟨_, rfl, h⟩
        · have h := h.2 (c)
          refine v_aload_n (q := 1046) dL_law_1045 rfl rfl ?_
          refine v_callS (As := [.ref 0]) (n := 1) (q := 1049) dL_law_1046 rfl lk_8_40 hd1 rfl (Nat.le_of_ble_eq_true rfl) (CT.imp h (fun r s10 h => ?_))
          obtain ⟨x9, rfl, h⟩ := h
          show VV mL_law d sc 1049 [some (.ref 102), some (.ref 0), some (.int v2), some (.int v3), some (.int v4), some (.int v5), some (.long v6), none, some (.int v8), some (.int v9), some (.int v10), some (.int x3), none, none, none, none, none, none, none, none] [.int x9] s10 (Qi K)
          refine v_if_eq (t := 1074) (q := 1052) dL_law_1049 rfl (by decide) (fun c => ?_) (fun c => ?_)
          · have h := h.1 (c)
            refine v_iconst (v := (nI 0)) (q := 1075) dL_law_1074 rfl (by decide) ?_
            exact v_zret dL_law_1075 rfl (by decide) ⟨_, rfl, h⟩
          · have h := h.2 (c)
            refine v_aload_n (q := 1053) dL_law_1052 rfl rfl ?_
            refine v_iload (q := 1055) dL_law_1053 rfl rfl ?_
            refine v_callV (As := [.int v5]) (n := 1) (q := 1058) dL_law_1055 rfl lk_8_102 hd1 rfl rfl (Nat.le_of_ble_eq_true rfl) (CT.imp h (fun r s12 h => ?_))
            obtain ⟨x11, rfl, h⟩ := h
            show VV mL_law d sc 1058 [some (.ref 102), some (.ref 0), some (.int v2), some (.int v3), some (.int v4), some (.int v5), some (.long v6), none, some (.int v8), some (.int v9), some (.int v10), some (.int x3), none, none, none, none, none, none, none, none] [.int x11] s12 (Qi K)
            refine v_ldc (v := (-1000003)) (q := 1060) dL_law_1058 rfl cn_8_47 ?_
            refine v_icmp_ne (t := 1074) (q := 1063) dL_law_1060 rfl (by decide) (fun c => ?_) (fun c => ?_)
            · have h := h.1 (c)
              refine v_iconst (v := (nI 0)) (q := 1075) dL_law_1074 rfl (by decide) ?_
              exact v_zret dL_law_1075 rfl (by decide) ⟨_, rfl, h⟩
            · have h := h.2 (c)
              refine v_aload_n (q := 1064) dL_law_1063 rfl rfl ?_
              refine v_iload (q := 1066) dL_law_1064 rfl rfl ?_
              refine v_callV (As := [.int v5]) (n := 1) (q := 1069) dL_law_1066 rfl lk_8_99 hd1 rfl rfl (Nat.le_of_ble_eq_true rfl) (CT.imp h (fun r s14 h => ?_))
              obtain ⟨x13, rfl, h⟩ := h
              show VV mL_law d sc 1069 [some (.ref 102), some (.ref 0), some (.int v2), some (.int v3), some (.int v4), some (.int v5), some (.long v6), none, some (.int v8), some (.int v9), some (.int v10), some (.int x3), none, none, none, none, none, none, none, none] [.int x13] s14 (Qi K)
              refine v_ldc (v := (-1000003)) (q := 1071) dL_law_1069 rfl cn_8_47 ?_
              refine v_icmp_eq (t := 1076) (q := 1074) dL_law_1071 rfl (by decide) (fun c => ?_) (fun c => ?_)
              · have h := h.1 (c)
                refine v_iconst (v := (nI 0)) (q := 1077) dL_law_1076 rfl (by decide) ?_
                refine v_istore (q := 1079) dL_law_1077 rfl (by decide) rfl ?_
                exact h
              · have h := h.2 (c)
                refine v_iconst (v := (nI 0)) (q := 1075) dL_law_1074 rfl (by decide) ?_
                exact v_zret dL_law_1075 rfl (by decide) ⟨_, rfl, h⟩
  · have h := h.2 (c)
    refine v_iload (q := 977) dL_law_975 rfl rfl ?_
    refine v_aload_n (q := 978) dL_law_977 rfl rfl ?_
    refine v_iload (q := 980) dL_law_978 rfl rfl ?_
    refine v_iconst (v := (nI 5)) (q := 981) dL_law_980 rfl (by decide) ?_
    refine v_callV (As := [.int v11, .int (nI 5)]) (n := 2) (q := 984) dL_law_981 rfl lk_8_36 hd1 rfl rfl (Nat.le_of_ble_eq_true rfl) (CT.imp h (fun r s16 h => ?_))
    obtain ⟨x15, rfl, h⟩ := h
    show VV mL_law d sc 984 [some (.ref 102), some (.ref 0), some (.int v2), some (.int v3), some (.int v4), some (.int v5), some (.long v6), none, some (.int v8), some (.int v9), some (.int v10), some (.int v11), none, none, none, none, none, none, none, none] [.int x15, .int v10] s16 (Qi K)
    refine v_iconst (v := (nI 1)) (q := 985) dL_law_984 rfl (by decide) ?_
    refine v_icmp_ne (t := 998) (q := 988) dL_law_985 rfl (by decide) (fun c => ?_) (fun c => ?_)
    · have h := h.1 (c)
      refine v_iconst (v := (nI 0)) (q := 999) dL_law_998 rfl (by decide) ?_
      refine v_iadd (q := 1000) dL_law_999 rfl ?_
      refine v_istore (q := 1002) dL_law_1000 rfl (by decide) rfl ?_
      refine v_iinc (y := (v11 + nI 1)) (q := 1005) dL_law_1002 rfl rfl (congrArg (fun z => v11 + z) (by decide)) (by decide) rfl ?_
      refine v_goto (q := 965) dL_law_1005 (by decide) ?_
      exact h
    · have h := h.2 (c)
      refine v_aload_n (q := 989) dL_law_988 rfl rfl ?_
      refine v_iload (q := 991) dL_law_989 rfl rfl ?_
      refine v_iconst (v := (nI 3)) (q := 992) dL_law_991 rfl (by decide) ?_
      refine v_callV (As := [.int v11, .int (nI 3)]) (n := 2) (q := 995) dL_law_992 rfl lk_8_36 hd1 rfl rfl (Nat.le_of_ble_eq_true rfl) (CT.imp h (fun r s18 h => ?_))
      obtain ⟨x17, rfl, h⟩ := h
      show VV mL_law d sc 995 [some (.ref 102), some (.ref 0), some (.int v2), some (.int v3), some (.int v4), some (.int v5), some (.long v6), none, some (.int v8), some (.int v9), some (.int v10), some (.int v11), none, none, none, none, none, none, none, none] [.int x17, .int v10] s18 (Qi K)
      refine v_goto (q := 999) dL_law_995 (by decide) ?_
      refine v_iadd (q := 1000) dL_law_999 rfl ?_
      refine v_istore (q := 1002) dL_law_1000 rfl (by decide) rfl ?_
      refine v_iinc (y := (v11 + nI 1)) (q := 1005) dL_law_1002 rfl rfl (congrArg (fun z => v11 + z) (by decide)) (by decide) rfl ?_
      refine v_goto (q := 965) dL_law_1005 (by decide) ?_
      exact h
set_option maxRecDepth 20000 in
theorem bL_law_1079 {d : Nat} {σ : SS} {sc : Scr} {K : Int32 → SS → Prop} (v2 : Int32) (v3 : Int32) (v4 : Int32) (v5 : Int32) (v6 : Int64) (v8 : Int32) (v9 : Int32) (v10 : Int32) (v11 : Int32) (v12 : Int32)  (hd1 : 1 ≤ d) (h : CTi mX6_count (d - 1) [.ref 0, .int (nI 3)] σ (fun x1 s2 => ((x1 ≤ v12) → (((¬ v10 = (-v8)) → (K (nI 0) s2)) ∧ ((v10 = (-v8)) → (CTi mX6_undo (d - 1) [.ref 0] s2 (fun x3 s4 => ((x3 < 0) → (K (nI 0) s4)) ∧ ((¬ x3 < 0) → (CTl mX6_digest (d - 1) [.ref 0] s4 (fun x5 s6 => (((lg_cmp x5 v6) = 0) → (CTi mX6_setPrice (d - 1) [.ref 0, .int v3, .int (nI 1)] s6 (fun x7 s8 => ((¬ x7 = (-1000001)) → (K (nI 0) s8)) ∧ ((x7 = (-1000001)) → (CTi mX6_setPrice (d - 1) [.ref 0, .int (nI 0), .int (nI 201)] s8 (fun x9 s10 => ((¬ x9 = (-1000002)) → (K (nI 0) s10)) ∧ ((x9 = (-1000002)) → (CTi mX6_set (d - 1) [.ref 0, .int (nI 0), .int (nI 0)] s10 (fun x11 s12 => ((¬ x11 = (-1000002)) → (K (nI 0) s12)) ∧ ((x11 = (-1000002)) → (CTi mX6_set (d - 1) [.ref 0, .int (nI 5), .int (nI 0)] s12 (fun x13 s14 => ((¬ x13 = (-1000001)) → (K (nI 0) s14)) ∧ ((x13 = (-1000001)) → (CTi mX6_addPhrase (d - 1) [.ref 0, .int (nI 0), .int (nI 1000), .int (-1000000)] s14 (fun x15 s16 => ((¬ x15 = (-1000002)) → (K (nI 0) s16)) ∧ ((x15 = (-1000002)) → (CTi mX6_addPhrase (d - 1) [.ref 0, .int (nI 0), .int (nI 0), .int v4] s16 (fun x17 s18 => ((¬ x17 = (-1000001)) → (K (nI 0) s18)) ∧ ((x17 = (-1000001)) → (CTi mX6_word (d - 1) [.ref 0, .int (nI 0), .int (-1)] s18 (fun x19 s20 => ((¬ x19 = (-1000002)) → (K (nI 0) s20)) ∧ ((x19 = (-1000002)) → (CTi mX6_pass (d - 1) [.ref 0, .int (nI 101)] s20 (fun x21 s22 => ((¬ x21 = (-1000002)) → (K (nI 0) s22)) ∧ ((x21 = (-1000002)) → (CTi mX6_count (d - 1) [.ref 0, .int (nI 14)] s22 (fun x23 s24 => ((¬ x23 = (-1000002)) → (K (nI 0) s24)) ∧ ((x23 = (-1000002)) → (CTl mX6_digest (d - 1) [.ref 0] s24 (fun x25 s26 => ((¬ (lg_cmp x25 v6) = 0) → (K (nI 0) s26)) ∧ (((lg_cmp x25 v6) = 0) → (K (nI 1) s26)))))))))))))))))))))))))))))))) ∧ ((¬ (lg_cmp x5 v6) = 0) → (K (nI 0) s6)))))))))) ∧ ((¬ x1 ≤ v12) → (CTi mX6_note (d - 1) [.ref 0, .int v12, .int (nI 5)] s2 (fun x27 s28 => ((¬ x27 = (nI 1)) → (CTi mX6_note (d - 1) [.ref 0, .int v12, .int (nI 5)] s28 (fun x29 s30 => ((¬ x29 = (nI 1)) → (VV mL_law d sc 1145 [some (.ref 102), some (.ref 0), some (.int v2), some (.int v3), some (.int v4), some (.int v5), some (.long v6), none, some (.int v8), some (.int v9), some (.int (v10 - (nI 0))), some (.int v11), some (.int v12), none, none, none, none, none, none, none] [] s30 (Qi K))) ∧ ((x29 = (nI 1)) → (CTi mX6_note (d - 1) [.ref 0, .int v12, .int (nI 1)] s30 (fun x31 s32 => CTi mX6_phrase (d - 1) [.ref 0, .int x31, .int (nI 4)] s32 (fun x33 s34 => ((¬ x33 = (nI 1)) → (VV mL_law d sc 1145 [some (.ref 102), some (.ref 0), some (.int v2), some (.int v3), some (.int v4), some (.int v5), some (.long v6), none, some (.int v8), some (.int v9), some (.int (v10 - (nI 0))), some (.int v11), some (.int v12), none, none, none, none, none, none, none] [] s34 (Qi K))) ∧ ((x33 = (nI 1)) → (K (nI 0) s34))))))))) ∧ ((x27 = (nI 1)) → (CTi mX6_note (d - 1) [.ref 0, .int v12, .int (nI 3)] s28 (fun x35 s36 => CTi mX6_note (d - 1) [.ref 0, .int v12, .int (nI 5)] s36 (fun x37 s38 => ((¬ x37 = (nI 1)) → (VV mL_law d sc 1145 [some (.ref 102), some (.ref 0), some (.int v2), some (.int v3), some (.int v4), some (.int v5), some (.long v6), none, some (.int v8), some (.int v9), some (.int (v10 - x35)), some (.int v11), some (.int v12), none, none, none, none, none, none, none] [] s38 (Qi K))) ∧ ((x37 = (nI 1)) → (CTi mX6_note (d - 1) [.ref 0, .int v12, .int (nI 1)] s38 (fun x39 s40 => CTi mX6_phrase (d - 1) [.ref 0, .int x39, .int (nI 4)] s40 (fun x41 s42 => ((¬ x41 = (nI 1)) → (VV mL_law d sc 1145 [some (.ref 102), some (.ref 0), some (.int v2), some (.int v3), some (.int v4), some (.int v5), some (.long v6), none, some (.int v8), some (.int v9), some (.int (v10 - x35)), some (.int v11), some (.int v12), none, none, none, none, none, none, none] [] s42 (Qi K))) ∧ ((x41 = (nI 1)) → (K (nI 0) s42))))))))))))))) : VV mL_law d sc 1079 [some (.ref 102), some (.ref 0), some (.int v2), some (.int v3), some (.int v4), some (.int v5), some (.long v6), none, some (.int v8), some (.int v9), some (.int v10), some (.int v11), some (.int v12), none, none, none, none, none, none, none] [] σ (Qi K) := by
  refine v_iload (q := 1081) dL_law_1079 rfl rfl ?_
  refine v_aload_n (q := 1082) dL_law_1081 rfl rfl ?_
  refine v_iconst (v := (nI 3)) (q := 1083) dL_law_1082 rfl (by decide) ?_
  refine v_callV (As := [.int (nI 3)]) (n := 1) (q := 1086) dL_law_1083 rfl lk_8_24 hd1 rfl rfl (Nat.le_of_ble_eq_true rfl) (CT.imp h (fun r s2 h => ?_))
  obtain ⟨x1, rfl, h⟩ := h
  show VV mL_law d sc 1086 [some (.ref 102), some (.ref 0), some (.int v2), some (.int v3), some (.int v4), some (.int v5), some (.long v6), none, some (.int v8), some (.int v9), some (.int v10), some (.int v11), some (.int v12), none, none, none, none, none, none, none] [.int x1, .int v12] s2 (Qi K)
  refine v_icmp_ge (t := 1151) (q := 1089) dL_law_1086 rfl (by decide) (fun c => ?_) (fun c => ?_)
  · have h := h.1 (c)
    refine v_iload (q := 1153) dL_law_1151 rfl rfl ?_
    refine v_iload (q := 1155) dL_law_1153 rfl rfl ?_
    refine v_ineg (q := 1156) dL_law_1155 rfl ?_
    refine v_icmp_ne (t := 1176) (q := 1159) dL_law_1156 rfl (by decide) (fun c => ?_) (fun c => ?_)
    · have h := h.1 (c)
      refine v_iconst (v := (nI 0)) (q := 1177) dL_law_1176 rfl (by decide) ?_
      exact v_zret dL_law_1177 rfl (by decide) ⟨_, rfl, h⟩
    · have h := h.2 (c)
      refine v_aload_n (q := 1160) dL_law_1159 rfl rfl ?_
      refine v_callV (As := []) (n := 0) (q := 1163) dL_law_1160 rfl lk_8_58 hd1 rfl rfl (Nat.le_of_ble_eq_true rfl) (CT.imp h (fun r s4 h => ?_))
      obtain ⟨x3, rfl, h⟩ := h
      show VV mL_law d sc 1163 [some (.ref 102), some (.ref 0), some (.int v2), some (.int v3), some (.int v4), some (.int v5), some (.long v6), none, some (.int v8), some (.int v9), some (.int v10), some (.int v11), some (.int v12), none, none, none, none, none, none, none] [.int x3] s4 (Qi K)
      refine v_if_lt (t := 1176) (q := 1166) dL_law_1163 rfl (by decide) (fun c => ?_) (fun c => ?_)
      · have h := h.1 (c)
        refine v_iconst (v := (nI 0)) (q := 1177) dL_law_1176 rfl (by decide) ?_
        exact v_zret dL_law_1177 rfl (by decide) ⟨_, rfl, h⟩
      · have h := h.2 (c)
        refine v_aload_n (q := 1167) dL_law_1166 rfl rfl ?_
        refine v_callV (As := []) (n := 0) (q := 1170) dL_law_1167 rfl lk_8_86 hd1 rfl rfl (Nat.le_of_ble_eq_true rfl) (CT.imp h (fun r s6 h => ?_))
        obtain ⟨x5, rfl, h⟩ := h
        show VV mL_law d sc 1170 [some (.ref 102), some (.ref 0), some (.int v2), some (.int v3), some (.int v4), some (.int v5), some (.long v6), none, some (.int v8), some (.int v9), some (.int v10), some (.int v11), some (.int v12), none, none, none, none, none, none, none] [.long x5] s6 (Qi K)
        refine v_lload (q := 1172) dL_law_1170 rfl rfl ?_
        refine v_lcmp (q := 1173) dL_law_1172 rfl ?_
        refine v_if_eq (t := 1178) (q := 1176) dL_law_1173 rfl (by decide) (fun c => ?_) (fun c => ?_)
        · have h := h.1 (c)
          refine v_aload_n (q := 1179) dL_law_1178 rfl rfl ?_
          refine v_iload_n (q := 1180) dL_law_1179 rfl rfl ?_
          refine v_iconst (v := (nI 1)) (q := 1181) dL_law_1180 rfl (by decide) ?_
          refine v_callV (As := [.int v3, .int (nI 1)]) (n := 2) (q := 1184) dL_law_1181 rfl lk_8_68 hd1 rfl rfl (Nat.le_of_ble_eq_true rfl) (CT.imp h (fun r s8 h => ?_))
          obtain ⟨x7, rfl, h⟩ := h
          show VV mL_law d sc 1184 [some (.ref 102), some (.ref 0), some (.int v2), some (.int v3), some (.int v4), some (.int v5), some (.long v6), none, some (.int v8), some (.int v9), some (.int v10), some (.int v11), some (.int v12), none, none, none, none, none, none, none] [.int x7] s8 (Qi K)
          refine v_ldc (v := (-1000001)) (q := 1186) dL_law_1184 rfl cn_8_51 ?_
          refine v_icmp_ne (t := 1299) (q := 1189) dL_law_1186 rfl (by decide) (fun c => ?_) (fun c => ?_)
          · have h := h.1 (c)
            refine v_iconst (v := (nI 0)) (q := 1300) dL_law_1299 rfl (by decide) ?_
            exact v_zret dL_law_1300 rfl (by decide) ⟨_, rfl, h⟩
          · have h := h.2 (c)
            refine v_aload_n (q := 1190) dL_law_1189 rfl rfl ?_
            refine v_iconst (v := (nI 0)) (q := 1191) dL_law_1190 rfl (by decide) ?_
            refine v_sipush (v := (nI 201)) (q := 1194) dL_law_1191 rfl (by decide) ?_
            refine v_callV (As := [.int (nI 0), .int (nI 201)]) (n := 2) (q := 1197) dL_law_1194 rfl lk_8_68 hd1 rfl rfl (Nat.le_of_ble_eq_true rfl) (CT.imp h (fun r s10 h => ?_))
            obtain ⟨x9, rfl, h⟩ := h
            show VV mL_law d sc 1197 [some (.ref 102), some (.ref 0), some (.int v2), some (.int v3), some (.int v4), some (.int v5), some (.long v6), none, some (.int v8), some (.int v9), some (.int v10), some (.int v11), some (.int v12), none, none, none, none, none, none, none] [.int x9] s10 (Qi K)
            refine v_ldc (v := (-1000002)) (q := 1199) dL_law_1197 rfl cn_8_105 ?_
            refine v_icmp_ne (t := 1299) (q := 1202) dL_law_1199 rfl (by decide) (fun c => ?_) (fun c => ?_)
            · have h := h.1 (c)
              refine v_iconst (v := (nI 0)) (q := 1300) dL_law_1299 rfl (by decide) ?_
              exact v_zret dL_law_1300 rfl (by decide) ⟨_, rfl, h⟩
            · have h := h.2 (c)
              refine v_aload_n (q := 1203) dL_law_1202 rfl rfl ?_
              refine v_iconst (v := (nI 0)) (q := 1204) dL_law_1203 rfl (by decide) ?_
              refine v_iconst (v := (nI 0)) (q := 1205) dL_law_1204 rfl (by decide) ?_
              refine v_callV (As := [.int (nI 0), .int (nI 0)]) (n := 2) (q := 1208) dL_law_1205 rfl lk_8_71 hd1 rfl rfl (Nat.le_of_ble_eq_true rfl) (CT.imp h (fun r s12 h => ?_))
              obtain ⟨x11, rfl, h⟩ := h
              show VV mL_law d sc 1208 [some (.ref 102), some (.ref 0), some (.int v2), some (.int v3), some (.int v4), some (.int v5), some (.long v6), none, some (.int v8), some (.int v9), some (.int v10), some (.int v11), some (.int v12), none, none, none, none, none, none, none] [.int x11] s12 (Qi K)
              refine v_ldc (v := (-1000002)) (q := 1210) dL_law_1208 rfl cn_8_105 ?_
              refine v_icmp_ne (t := 1299) (q := 1213) dL_law_1210 rfl (by decide) (fun c => ?_) (fun c => ?_)
              · have h := h.1 (c)
                refine v_iconst (v := (nI 0)) (q := 1300) dL_law_1299 rfl (by decide) ?_
                exact v_zret dL_law_1300 rfl (by decide) ⟨_, rfl, h⟩
              · have h := h.2 (c)
                refine v_aload_n (q := 1214) dL_law_1213 rfl rfl ?_
                refine v_iconst (v := (nI 5)) (q := 1215) dL_law_1214 rfl (by decide) ?_
                refine v_iconst (v := (nI 0)) (q := 1216) dL_law_1215 rfl (by decide) ?_
                refine v_callV (As := [.int (nI 5), .int (nI 0)]) (n := 2) (q := 1219) dL_law_1216 rfl lk_8_71 hd1 rfl rfl (Nat.le_of_ble_eq_true rfl) (CT.imp h (fun r s14 h => ?_))
                obtain ⟨x13, rfl, h⟩ := h
                show VV mL_law d sc 1219 [some (.ref 102), some (.ref 0), some (.int v2), some (.int v3), some (.int v4), some (.int v5), some (.long v6), none, some (.int v8), some (.int v9), some (.int v10), some (.int v11), some (.int v12), none, none, none, none, none, none, none] [.int x13] s14 (Qi K)
                refine v_ldc (v := (-1000001)) (q := 1221) dL_law_1219 rfl cn_8_51 ?_
                refine v_icmp_ne (t := 1299) (q := 1224) dL_law_1221 rfl (by decide) (fun c => ?_) (fun c => ?_)
                · have h := h.1 (c)
                  refine v_iconst (v := (nI 0)) (q := 1300) dL_law_1299 rfl (by decide) ?_
                  exact v_zret dL_law_1300 rfl (by decide) ⟨_, rfl, h⟩
                · have h := h.2 (c)
                  refine v_aload_n (q := 1225) dL_law_1224 rfl rfl ?_
                  refine v_iconst (v := (nI 0)) (q := 1226) dL_law_1225 rfl (by decide) ?_
                  refine v_sipush (v := (nI 1000)) (q := 1229) dL_law_1226 rfl (by decide) ?_
                  refine v_ldc (v := (-1000000)) (q := 1231) dL_law_1229 rfl cn_8_78 ?_
                  refine v_callV (As := [.int (nI 0), .int (nI 1000), .int (-1000000)]) (n := 3) (q := 1234) dL_law_1231 rfl lk_8_79 hd1 rfl rfl (Nat.le_of_ble_eq_true rfl) (CT.imp h (fun r s16 h => ?_))
                  obtain ⟨x15, rfl, h⟩ := h
                  show VV mL_law d sc 1234 [some (.ref 102), some (.ref 0), some (.int v2), some (.int v3), some (.int v4), some (.int v5), some (.long v6), none, some (.int v8), some (.int v9), some (.int v10), some (.int v11), some (.int v12), none, none, none, none, none, none, none] [.int x15] s16 (Qi K)
                  refine v_ldc (v := (-1000002)) (q := 1236) dL_law_1234 rfl cn_8_105 ?_
                  refine v_icmp_ne (t := 1299) (q := 1239) dL_law_1236 rfl (by decide) (fun c => ?_) (fun c => ?_)
                  · have h := h.1 (c)
                    refine v_iconst (v := (nI 0)) (q := 1300) dL_law_1299 rfl (by decide) ?_
                    exact v_zret dL_law_1300 rfl (by decide) ⟨_, rfl, h⟩
                  · have h := h.2 (c)
                    refine v_aload_n (q := 1240) dL_law_1239 rfl rfl ?_
                    refine v_iconst (v := (nI 0)) (q := 1241) dL_law_1240 rfl (by decide) ?_
                    refine v_iconst (v := (nI 0)) (q := 1242) dL_law_1241 rfl (by decide) ?_
                    refine v_iload (q := 1244) dL_law_1242 rfl rfl ?_
                    refine v_callV (As := [.int (nI 0), .int (nI 0), .int v4]) (n := 3) (q := 1247) dL_law_1244 rfl lk_8_79 hd1 rfl rfl (Nat.le_of_ble_eq_true rfl) (CT.imp h (fun r s18 h => ?_))
                    obtain ⟨x17, rfl, h⟩ := h
                    show VV mL_law d sc 1247 [some (.ref 102), some (.ref 0), some (.int v2), some (.int v3), some (.int v4), some (.int v5), some (.long v6), none, some (.int v8), some (.int v9), some (.int v10), some (.int v11), some (.int v12), none, none, none, none, none, none, none] [.int x17] s18 (Qi K)
                    refine v_ldc (v := (-1000001)) (q := 1249) dL_law_1247 rfl cn_8_51 ?_
                    refine v_icmp_ne (t := 1299) (q := 1252) dL_law_1249 rfl (by decide) (fun c => ?_) (fun c => ?_)
                    · have h := h.1 (c)
                      refine v_iconst (v := (nI 0)) (q := 1300) dL_law_1299 rfl (by decide) ?_
                      exact v_zret dL_law_1300 rfl (by decide) ⟨_, rfl, h⟩
                    · have h := h.2 (c)
                      refine v_aload_n (q := 1253) dL_law_1252 rfl rfl ?_
                      refine v_iconst (v := (nI 0)) (q := 1254) dL_law_1253 rfl (by decide) ?_
                      refine v_iconst (v := (-1)) (q := 1255) dL_law_1254 rfl (by decide) ?_
                      refine v_callV (As := [.int (nI 0), .int (-1)]) (n := 2) (q := 1258) dL_law_1255 rfl lk_8_106 hd1 rfl rfl (Nat.le_of_ble_eq_true rfl) (CT.imp h (fun r s20 h => ?_))
                      obtain ⟨x19, rfl, h⟩ := h
                      show VV mL_law d sc 1258 [some (.ref 102), some (.ref 0), some (.int v2), some (.int v3), some (.int v4), some (.int v5), some (.long v6), none, some (.int v8), some (.int v9), some (.int v10), some (.int v11), some (.int v12), none, none, none, none, none, none, none] [.int x19] s20 (Qi K)
                      refine v_ldc (v := (-1000002)) (q := 1260) dL_law_1258 rfl cn_8_105 ?_
                      refine v_icmp_ne (t := 1299) (q := 1263) dL_law_1260 rfl (by decide) (fun c => ?_) (fun c => ?_)
                      · have h := h.1 (c)
                        refine v_iconst (v := (nI 0)) (q := 1300) dL_law_1299 rfl (by decide) ?_
                        exact v_zret dL_law_1300 rfl (by decide) ⟨_, rfl, h⟩
                      · have h := h.2 (c)
                        refine v_aload_n (q := 1264) dL_law_1263 rfl rfl ?_
                        refine v_bipush (v := (nI 101)) (q := 1266) dL_law_1264 rfl (by decide) ?_
                        refine v_callV (As := [.int (nI 101)]) (n := 1) (q := 1269) dL_law_1266 rfl lk_8_90 hd1 rfl rfl (Nat.le_of_ble_eq_true rfl) (CT.imp h (fun r s22 h => ?_))
                        obtain ⟨x21, rfl, h⟩ := h
                        show VV mL_law d sc 1269 [some (.ref 102), some (.ref 0), some (.int v2), some (.int v3), some (.int v4), some (.int v5), some (.long v6), none, some (.int v8), some (.int v9), some (.int v10), some (.int v11), some (.int v12), none, none, none, none, none, none, none] [.int x21] s22 (Qi K)
                        refine v_ldc (v := (-1000002)) (q := 1271) dL_law_1269 rfl cn_8_105 ?_
                        refine v_icmp_ne (t := 1299) (q := 1274) dL_law_1271 rfl (by decide) (fun c => ?_) (fun c => ?_)
                        · have h := h.1 (c)
                          refine v_iconst (v := (nI 0)) (q := 1300) dL_law_1299 rfl (by decide) ?_
                          exact v_zret dL_law_1300 rfl (by decide) ⟨_, rfl, h⟩
                        · have h := h.2 (c)
                          refine v_aload_n (q := 1275) dL_law_1274 rfl rfl ?_
                          refine v_bipush (v := (nI 14)) (q := 1277) dL_law_1275 rfl (by decide) ?_
                          refine v_callV (As := [.int (nI 14)]) (n := 1) (q := 1280) dL_law_1277 rfl lk_8_24 hd1 rfl rfl (Nat.le_of_ble_eq_true rfl) (CT.imp h (fun r s24 h => ?_))
                          obtain ⟨x23, rfl, h⟩ := h
                          show VV mL_law d sc 1280 [some (.ref 102), some (.ref 0), some (.int v2), some (.int v3), some (.int v4), some (.int v5), some (.long v6), none, some (.int v8), some (.int v9), some (.int v10), some (.int v11), some (.int v12), none, none, none, none, none, none, none] [.int x23] s24 (Qi K)
                          refine v_ldc (v := (-1000002)) (q := 1282) dL_law_1280 rfl cn_8_105 ?_
                          refine v_icmp_ne (t := 1299) (q := 1285) dL_law_1282 rfl (by decide) (fun c => ?_) (fun c => ?_)
                          · have h := h.1 (c)
                            refine v_iconst (v := (nI 0)) (q := 1300) dL_law_1299 rfl (by decide) ?_
                            exact v_zret dL_law_1300 rfl (by decide) ⟨_, rfl, h⟩
                          · have h := h.2 (c)
                            refine v_aload_n (q := 1286) dL_law_1285 rfl rfl ?_
                            refine v_callV (As := []) (n := 0) (q := 1289) dL_law_1286 rfl lk_8_86 hd1 rfl rfl (Nat.le_of_ble_eq_true rfl) (CT.imp h (fun r s26 h => ?_))
                            obtain ⟨x25, rfl, h⟩ := h
                            show VV mL_law d sc 1289 [some (.ref 102), some (.ref 0), some (.int v2), some (.int v3), some (.int v4), some (.int v5), some (.long v6), none, some (.int v8), some (.int v9), some (.int v10), some (.int v11), some (.int v12), none, none, none, none, none, none, none] [.long x25] s26 (Qi K)
                            refine v_lload (q := 1291) dL_law_1289 rfl rfl ?_
                            refine v_lcmp (q := 1292) dL_law_1291 rfl ?_
                            refine v_if_ne (t := 1299) (q := 1295) dL_law_1292 rfl (by decide) (fun c => ?_) (fun c => ?_)
                            · have h := h.1 (c)
                              refine v_iconst (v := (nI 0)) (q := 1300) dL_law_1299 rfl (by decide) ?_
                              exact v_zret dL_law_1300 rfl (by decide) ⟨_, rfl, h⟩
                            · have h := h.2 (c)
                              refine v_iconst (v := (nI 1)) (q := 1296) dL_law_1295 rfl (by decide) ?_
                              refine v_goto (q := 1300) dL_law_1296 (by decide) ?_
                              exact v_zret dL_law_1300 rfl (by decide) ⟨_, rfl, h⟩
        · have h := h.2 (c)
          refine v_iconst (v := (nI 0)) (q := 1177) dL_law_1176 rfl (by decide) ?_
          exact v_zret dL_law_1177 rfl (by decide) ⟨_, rfl, h⟩
  · have h := h.2 (c)
    refine v_iload (q := 1091) dL_law_1089 rfl rfl ?_
    refine v_aload_n (q := 1092) dL_law_1091 rfl rfl ?_
    refine v_iload (q := 1094) dL_law_1092 rfl rfl ?_
    refine v_iconst (v := (nI 5)) (q := 1095) dL_law_1094 rfl (by decide) ?_
    refine v_callV (As := [.int v12, .int (nI 5)]) (n := 2) (q := 1098) dL_law_1095 rfl lk_8_36 hd1 rfl rfl (Nat.le_of_ble_eq_true rfl) (CT.imp h (fun r s28 h => ?_))
    obtain ⟨x27, rfl, h⟩ := h
    show VV mL_law d sc 1098 [some (.ref 102), some (.ref 0), some (.int v2), some (.int v3), some (.int v4), some (.int v5), some (.long v6), none, some (.int v8), some (.int v9), some (.int v10), some (.int v11), some (.int v12), none, none, none, none, none, none, none] [.int x27, .int v10] s28 (Qi K)
    refine v_iconst (v := (nI 1)) (q := 1099) dL_law_1098 rfl (by decide) ?_
    refine v_icmp_ne (t := 1112) (q := 1102) dL_law_1099 rfl (by decide) (fun c => ?_) (fun c => ?_)
    · have h := h.1 (c)
      refine v_iconst (v := (nI 0)) (q := 1113) dL_law_1112 rfl (by decide) ?_
      refine v_isub (q := 1114) dL_law_1113 rfl ?_
      refine v_istore (q := 1116) dL_law_1114 rfl (by decide) rfl ?_
      refine v_aload_n (q := 1117) dL_law_1116 rfl rfl ?_
      refine v_iload (q := 1119) dL_law_1117 rfl rfl ?_
      refine v_iconst (v := (nI 5)) (q := 1120) dL_law_1119 rfl (by decide) ?_
      refine v_callV (As := [.int v12, .int (nI 5)]) (n := 2) (q := 1123) dL_law_1120 rfl lk_8_36 hd1 rfl rfl (Nat.le_of_ble_eq_true rfl) (CT.imp h (fun r s30 h => ?_))
      obtain ⟨x29, rfl, h⟩ := h
      show VV mL_law d sc 1123 [some (.ref 102), some (.ref 0), some (.int v2), some (.int v3), some (.int v4), some (.int v5), some (.long v6), none, some (.int v8), some (.int v9), some (.int (v10 - (nI 0))), some (.int v11), some (.int v12), none, none, none, none, none, none, none] [.int x29] s30 (Qi K)
      refine v_iconst (v := (nI 1)) (q := 1124) dL_law_1123 rfl (by decide) ?_
      refine v_icmp_ne (t := 1145) (q := 1127) dL_law_1124 rfl (by decide) (fun c => ?_) (fun c => ?_)
      · have h := h.1 (c)
        exact h
      · have h := h.2 (c)
        refine v_aload_n (q := 1128) dL_law_1127 rfl rfl ?_
        refine v_aload_n (q := 1129) dL_law_1128 rfl rfl ?_
        refine v_iload (q := 1131) dL_law_1129 rfl rfl ?_
        refine v_iconst (v := (nI 1)) (q := 1132) dL_law_1131 rfl (by decide) ?_
        refine v_callV (As := [.int v12, .int (nI 1)]) (n := 2) (q := 1135) dL_law_1132 rfl lk_8_36 hd1 rfl rfl (Nat.le_of_ble_eq_true rfl) (CT.imp h (fun r s32 h => ?_))
        obtain ⟨x31, rfl, h⟩ := h
        show VV mL_law d sc 1135 [some (.ref 102), some (.ref 0), some (.int v2), some (.int v3), some (.int v4), some (.int v5), some (.long v6), none, some (.int v8), some (.int v9), some (.int (v10 - (nI 0))), some (.int v11), some (.int v12), none, none, none, none, none, none, none] [.int x31, .ref 0] s32 (Qi K)
        refine v_iconst (v := (nI 4)) (q := 1136) dL_law_1135 rfl (by decide) ?_
        refine v_callV (As := [.int x31, .int (nI 4)]) (n := 2) (q := 1139) dL_law_1136 rfl lk_8_30 hd1 rfl rfl (Nat.le_of_ble_eq_true rfl) (CT.imp h (fun r s34 h => ?_))
        obtain ⟨x33, rfl, h⟩ := h
        show VV mL_law d sc 1139 [some (.ref 102), some (.ref 0), some (.int v2), some (.int v3), some (.int v4), some (.int v5), some (.long v6), none, some (.int v8), some (.int v9), some (.int (v10 - (nI 0))), some (.int v11), some (.int v12), none, none, none, none, none, none, none] [.int x33] s34 (Qi K)
        refine v_iconst (v := (nI 1)) (q := 1140) dL_law_1139 rfl (by decide) ?_
        refine v_icmp_ne (t := 1145) (q := 1143) dL_law_1140 rfl (by decide) (fun c => ?_) (fun c => ?_)
        · have h := h.1 (c)
          exact h
        · have h := h.2 (c)
          refine v_iconst (v := (nI 0)) (q := 1144) dL_law_1143 rfl (by decide) ?_
          exact v_zret dL_law_1144 rfl (by decide) ⟨_, rfl, h⟩
    · have h := h.2 (c)
      refine v_aload_n (q := 1103) dL_law_1102 rfl rfl ?_
      refine v_iload (q := 1105) dL_law_1103 rfl rfl ?_
      refine v_iconst (v := (nI 3)) (q := 1106) dL_law_1105 rfl (by decide) ?_
      refine v_callV (As := [.int v12, .int (nI 3)]) (n := 2) (q := 1109) dL_law_1106 rfl lk_8_36 hd1 rfl rfl (Nat.le_of_ble_eq_true rfl) (CT.imp h (fun r s36 h => ?_))
      obtain ⟨x35, rfl, h⟩ := h
      show VV mL_law d sc 1109 [some (.ref 102), some (.ref 0), some (.int v2), some (.int v3), some (.int v4), some (.int v5), some (.long v6), none, some (.int v8), some (.int v9), some (.int v10), some (.int v11), some (.int v12), none, none, none, none, none, none, none] [.int x35, .int v10] s36 (Qi K)
      refine v_goto (q := 1113) dL_law_1109 (by decide) ?_
      refine v_isub (q := 1114) dL_law_1113 rfl ?_
      refine v_istore (q := 1116) dL_law_1114 rfl (by decide) rfl ?_
      refine v_aload_n (q := 1117) dL_law_1116 rfl rfl ?_
      refine v_iload (q := 1119) dL_law_1117 rfl rfl ?_
      refine v_iconst (v := (nI 5)) (q := 1120) dL_law_1119 rfl (by decide) ?_
      refine v_callV (As := [.int v12, .int (nI 5)]) (n := 2) (q := 1123) dL_law_1120 rfl lk_8_36 hd1 rfl rfl (Nat.le_of_ble_eq_true rfl) (CT.imp h (fun r s38 h => ?_))
      obtain ⟨x37, rfl, h⟩ := h
      show VV mL_law d sc 1123 [some (.ref 102), some (.ref 0), some (.int v2), some (.int v3), some (.int v4), some (.int v5), some (.long v6), none, some (.int v8), some (.int v9), some (.int (v10 - x35)), some (.int v11), some (.int v12), none, none, none, none, none, none, none] [.int x37] s38 (Qi K)
      refine v_iconst (v := (nI 1)) (q := 1124) dL_law_1123 rfl (by decide) ?_
      refine v_icmp_ne (t := 1145) (q := 1127) dL_law_1124 rfl (by decide) (fun c => ?_) (fun c => ?_)
      · have h := h.1 (c)
        exact h
      · have h := h.2 (c)
        refine v_aload_n (q := 1128) dL_law_1127 rfl rfl ?_
        refine v_aload_n (q := 1129) dL_law_1128 rfl rfl ?_
        refine v_iload (q := 1131) dL_law_1129 rfl rfl ?_
        refine v_iconst (v := (nI 1)) (q := 1132) dL_law_1131 rfl (by decide) ?_
        refine v_callV (As := [.int v12, .int (nI 1)]) (n := 2) (q := 1135) dL_law_1132 rfl lk_8_36 hd1 rfl rfl (Nat.le_of_ble_eq_true rfl) (CT.imp h (fun r s40 h => ?_))
        obtain ⟨x39, rfl, h⟩ := h
        show VV mL_law d sc 1135 [some (.ref 102), some (.ref 0), some (.int v2), some (.int v3), some (.int v4), some (.int v5), some (.long v6), none, some (.int v8), some (.int v9), some (.int (v10 - x35)), some (.int v11), some (.int v12), none, none, none, none, none, none, none] [.int x39, .ref 0] s40 (Qi K)
        refine v_iconst (v := (nI 4)) (q := 1136) dL_law_1135 rfl (by decide) ?_
        refine v_callV (As := [.int x39, .int (nI 4)]) (n := 2) (q := 1139) dL_law_1136 rfl lk_8_30 hd1 rfl rfl (Nat.le_of_ble_eq_true rfl) (CT.imp h (fun r s42 h => ?_))
        obtain ⟨x41, rfl, h⟩ := h
        show VV mL_law d sc 1139 [some (.ref 102), some (.ref 0), some (.int v2), some (.int v3), some (.int v4), some (.int v5), some (.long v6), none, some (.int v8), some (.int v9), some (.int (v10 - x35)), some (.int v11), some (.int v12), none, none, none, none, none, none, none] [.int x41] s42 (Qi K)
        refine v_iconst (v := (nI 1)) (q := 1140) dL_law_1139 rfl (by decide) ?_
        refine v_icmp_ne (t := 1145) (q := 1143) dL_law_1140 rfl (by decide) (fun c => ?_) (fun c => ?_)
        · have h := h.1 (c)
          exact h
        · have h := h.2 (c)
          refine v_iconst (v := (nI 0)) (q := 1144) dL_law_1143 rfl (by decide) ?_
          exact v_zret dL_law_1144 rfl (by decide) ⟨_, rfl, h⟩
set_option maxRecDepth 20000 in
theorem bL_law_1145 {d : Nat} {σ : SS} {sc : Scr} {K : Int32 → SS → Prop} (v2 : Int32) (v3 : Int32) (v4 : Int32) (v5 : Int32) (v6 : Int64) (v8 : Int32) (v9 : Int32) (v10 : Int32) (v11 : Int32) (v12 : Int32)   (h : VV mL_law d sc 1079 [some (.ref 102), some (.ref 0), some (.int v2), some (.int v3), some (.int v4), some (.int v5), some (.long v6), none, some (.int v8), some (.int v9), some (.int v10), some (.int v11), some (.int (v12 + nI 1)), none, none, none, none, none, none, none] [] σ (Qi K)) : VV mL_law d sc 1145 [some (.ref 102), some (.ref 0), some (.int v2), some (.int v3), some (.int v4), some (.int v5), some (.long v6), none, some (.int v8), some (.int v9), some (.int v10), some (.int v11), some (.int v12), none, none, none, none, none, none, none] [] σ (Qi K) := by
  refine v_iinc (y := (v12 + nI 1)) (q := 1148) dL_law_1145 rfl rfl (congrArg (fun z => v12 + z) (by decide)) (by decide) rfl ?_
  refine v_goto (q := 1079) dL_law_1148 (by decide) ?_
  exact h
