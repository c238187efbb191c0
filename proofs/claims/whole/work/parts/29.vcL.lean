/-! VC by program: the law -/
set_option maxRecDepth 20000 in
theorem bL_law_18 {d : Nat} {σ : SS} {sc : Scr} {K : Int32 → SS → Prop} (v3 : Int32)  (hd1 : 1 ≤ d) (h : ((((nI sc.1) - (nI 4)) < v3) → (K (nI 1) σ)) ∧ ((¬ ((nI sc.1) - (nI 4)) < v3) → ((vp_in v3 sc.1) ∧ ((((sc.2 v3.toNatClampNeg) &&& (nI 31)) = nI 0 → (CTi mX6_addMember (d - 1) [.ref 0] σ (fun x1 s2 => CTi mX7_addMember (d - 1) [.ref 11] s2 (fun x3 s4 => ((x1 = x3) → (VV mL_law d sc 18 [some (.ref 102), some (.ref 0), some (.ref 11), some (.int (v3 + nI 4))] [] s4 (Qi K))) ∧ ((¬ x1 = x3) → (K (nI 0) s4)))))) ∧ (((sc.2 v3.toNatClampNeg) &&& (nI 31)) = nI 1 → ((vp_in (v3 + (nI 1)) sc.1) ∧ ((vp_in (v3 + (nI 2)) sc.1) ∧ (CTi mX6_setPrice (d - 1) [.ref 0, .int (sc.2 (v3 + (nI 1)).toNatClampNeg), .int (sc.2 (v3 + (nI 2)).toNatClampNeg)] σ (fun x5 s6 => (vp_in (v3 + (nI 1)) sc.1) ∧ ((vp_in (v3 + (nI 2)) sc.1) ∧ (CTi mX7_setPrice (d - 1) [.ref 11, .int (sc.2 (v3 + (nI 1)).toNatClampNeg), .int (sc.2 (v3 + (nI 2)).toNatClampNeg)] s6 (fun x7 s8 => ((x5 = x7) → (VV mL_law d sc 18 [some (.ref 102), some (.ref 0), some (.ref 11), some (.int (v3 + nI 4))] [] s8 (Qi K))) ∧ ((¬ x5 = x7) → (K (nI 0) s8)))))))))) ∧ (((sc.2 v3.toNatClampNeg) &&& (nI 31)) = nI 2 → ((vp_in (v3 + (nI 1)) sc.1) ∧ ((vp_in (v3 + (nI 2)) sc.1) ∧ (CTi mX6_set (d - 1) [.ref 0, .int (sc.2 (v3 + (nI 1)).toNatClampNeg), .int (sc.2 (v3 + (nI 2)).toNatClampNeg)] σ (fun x9 s10 => (vp_in (v3 + (nI 1)) sc.1) ∧ ((vp_in (v3 + (nI 2)) sc.1) ∧ (CTi mX7_set (d - 1) [.ref 11, .int (sc.2 (v3 + (nI 1)).toNatClampNeg), .int (sc.2 (v3 + (nI 2)).toNatClampNeg)] s10 (fun x11 s12 => ((x9 = x11) → (VV mL_law d sc 18 [some (.ref 102), some (.ref 0), some (.ref 11), some (.int (v3 + nI 4))] [] s12 (Qi K))) ∧ ((¬ x9 = x11) → (K (nI 0) s12)))))))))) ∧ (((sc.2 v3.toNatClampNeg) &&& (nI 31)) = nI 3 → ((vp_in (v3 + (nI 1)) sc.1) ∧ (CTi mX6_count (d - 1) [.ref 0, .int (sc.2 (v3 + (nI 1)).toNatClampNeg)] σ (fun x13 s14 => (vp_in (v3 + (nI 1)) sc.1) ∧ (CTi mX7_count (d - 1) [.ref 11, .int (sc.2 (v3 + (nI 1)).toNatClampNeg)] s14 (fun x15 s16 => ((x13 = x15) → (VV mL_law d sc 18 [some (.ref 102), some (.ref 0), some (.ref 11), some (.int (v3 + nI 4))] [] s16 (Qi K))) ∧ ((¬ x13 = x15) → (K (nI 0) s16)))))))) ∧ (((sc.2 v3.toNatClampNeg) &&& (nI 31)) = nI 4 → ((vp_in (v3 + (nI 1)) sc.1) ∧ ((vp_in (v3 + (nI 2)) sc.1) ∧ (CTi mX6_member (d - 1) [.ref 0, .int (sc.2 (v3 + (nI 1)).toNatClampNeg), .int (sc.2 (v3 + (nI 2)).toNatClampNeg)] σ (fun x17 s18 => (vp_in (v3 + (nI 1)) sc.1) ∧ ((vp_in (v3 + (nI 2)) sc.1) ∧ (CTi mX7_member (d - 1) [.ref 11, .int (sc.2 (v3 + (nI 1)).toNatClampNeg), .int (sc.2 (v3 + (nI 2)).toNatClampNeg)] s18 (fun x19 s20 => ((x17 = x19) → (VV mL_law d sc 18 [some (.ref 102), some (.ref 0), some (.ref 11), some (.int (v3 + nI 4))] [] s20 (Qi K))) ∧ ((¬ x17 = x19) → (K (nI 0) s20)))))))))) ∧ (((sc.2 v3.toNatClampNeg) &&& (nI 31)) = nI 5 → ((vp_in (v3 + (nI 1)) sc.1) ∧ ((vp_in (v3 + (nI 2)) sc.1) ∧ ((vp_in (v3 + (nI 3)) sc.1) ∧ (CTi mX6_addPhrase (d - 1) [.ref 0, .int (sc.2 (v3 + (nI 1)).toNatClampNeg), .int (sc.2 (v3 + (nI 2)).toNatClampNeg), .int (sc.2 (v3 + (nI 3)).toNatClampNeg)] σ (fun x21 s22 => (vp_in (v3 + (nI 1)) sc.1) ∧ ((vp_in (v3 + (nI 2)) sc.1) ∧ ((vp_in (v3 + (nI 3)) sc.1) ∧ (CTi mX7_addPhrase (d - 1) [.ref 11, .int (sc.2 (v3 + (nI 1)).toNatClampNeg), .int (sc.2 (v3 + (nI 2)).toNatClampNeg), .int (sc.2 (v3 + (nI 3)).toNatClampNeg)] s22 (fun x23 s24 => ((x21 = x23) → (VV mL_law d sc 18 [some (.ref 102), some (.ref 0), some (.ref 11), some (.int (v3 + nI 4))] [] s24 (Qi K))) ∧ ((¬ x21 = x23) → (K (nI 0) s24)))))))))))) ∧ (((sc.2 v3.toNatClampNeg) &&& (nI 31)) = nI 6 → ((vp_in (v3 + (nI 1)) sc.1) ∧ ((vp_in (v3 + (nI 2)) sc.1) ∧ (CTi mX6_phrase (d - 1) [.ref 0, .int (sc.2 (v3 + (nI 1)).toNatClampNeg), .int (sc.2 (v3 + (nI 2)).toNatClampNeg)] σ (fun x25 s26 => (vp_in (v3 + (nI 1)) sc.1) ∧ ((vp_in (v3 + (nI 2)) sc.1) ∧ (CTi mX7_phrase (d - 1) [.ref 11, .int (sc.2 (v3 + (nI 1)).toNatClampNeg), .int (sc.2 (v3 + (nI 2)).toNatClampNeg)] s26 (fun x27 s28 => ((x25 = x27) → (VV mL_law d sc 18 [some (.ref 102), some (.ref 0), some (.ref 11), some (.int (v3 + nI 4))] [] s28 (Qi K))) ∧ ((¬ x25 = x27) → (K (nI 0) s28)))))))))) ∧ (((sc.2 v3.toNatClampNeg) &&& (nI 31)) = nI 7 → ((vp_in (v3 + (nI 1)) sc.1) ∧ ((vp_in (v3 + (nI 2)) sc.1) ∧ (CTi mX6_word (d - 1) [.ref 0, .int (sc.2 (v3 + (nI 1)).toNatClampNeg), .int (sc.2 (v3 + (nI 2)).toNatClampNeg)] σ (fun x29 s30 => (vp_in (v3 + (nI 1)) sc.1) ∧ ((vp_in (v3 + (nI 2)) sc.1) ∧ (CTi mX7_word (d - 1) [.ref 11, .int (sc.2 (v3 + (nI 1)).toNatClampNeg), .int (sc.2 (v3 + (nI 2)).toNatClampNeg)] s30 (fun x31 s32 => ((x29 = x31) → (VV mL_law d sc 18 [some (.ref 102), some (.ref 0), some (.ref 11), some (.int (v3 + nI 4))] [] s32 (Qi K))) ∧ ((¬ x29 = x31) → (K (nI 0) s32)))))))))) ∧ (((sc.2 v3.toNatClampNeg) &&& (nI 31)) = nI 8 → ((vp_in (v3 + (nI 1)) sc.1) ∧ ((vp_in (v3 + (nI 2)) sc.1) ∧ (CTi mX6_score (d - 1) [.ref 0, .int (sc.2 (v3 + (nI 1)).toNatClampNeg), .int (sc.2 (v3 + (nI 2)).toNatClampNeg)] σ (fun x33 s34 => (vp_in (v3 + (nI 1)) sc.1) ∧ ((vp_in (v3 + (nI 2)) sc.1) ∧ (CTi mX7_score (d - 1) [.ref 11, .int (sc.2 (v3 + (nI 1)).toNatClampNeg), .int (sc.2 (v3 + (nI 2)).toNatClampNeg)] s34 (fun x35 s36 => ((x33 = x35) → (VV mL_law d sc 18 [some (.ref 102), some (.ref 0), some (.ref 11), some (.int (v3 + nI 4))] [] s36 (Qi K))) ∧ ((¬ x33 = x35) → (K (nI 0) s36)))))))))) ∧ (((sc.2 v3.toNatClampNeg) &&& (nI 31)) = nI 9 → (CTi mX6_agreed (d - 1) [.ref 0] σ (fun x37 s38 => CTi mX7_agreed (d - 1) [.ref 11] s38 (fun x39 s40 => ((x37 = x39) → (VV mL_law d sc 18 [some (.ref 102), some (.ref 0), some (.ref 11), some (.int (v3 + nI 4))] [] s40 (Qi K))) ∧ ((¬ x37 = x39) → (K (nI 0) s40)))))) ∧ (((sc.2 v3.toNatClampNeg) &&& (nI 31)) = nI 10 → (CTi mX6_match (d - 1) [.ref 0] σ (fun x41 s42 => CTi mX7_match (d - 1) [.ref 11] s42 (fun x43 s44 => ((x41 = x43) → (VV mL_law d sc 18 [some (.ref 102), some (.ref 0), some (.ref 11), some (.int (v3 + nI 4))] [] s44 (Qi K))) ∧ ((¬ x41 = x43) → (K (nI 0) s44)))))) ∧ (((sc.2 v3.toNatClampNeg) &&& (nI 31)) = nI 11 → ((vp_in (v3 + (nI 1)) sc.1) ∧ (CTi mX6_alike (d - 1) [.ref 0, .int (sc.2 (v3 + (nI 1)).toNatClampNeg)] σ (fun x45 s46 => (vp_in (v3 + (nI 1)) sc.1) ∧ (CTi mX7_alike (d - 1) [.ref 11, .int (sc.2 (v3 + (nI 1)).toNatClampNeg)] s46 (fun x47 s48 => ((x45 = x47) → (VV mL_law d sc 18 [some (.ref 102), some (.ref 0), some (.ref 11), some (.int (v3 + nI 4))] [] s48 (Qi K))) ∧ ((¬ x45 = x47) → (K (nI 0) s48)))))))) ∧ (((sc.2 v3.toNatClampNeg) &&& (nI 31)) = nI 12 → ((vp_in (v3 + (nI 1)) sc.1) ∧ (CTi mX6_fee (d - 1) [.ref 0, .int (sc.2 (v3 + (nI 1)).toNatClampNeg)] σ (fun x49 s50 => (vp_in (v3 + (nI 1)) sc.1) ∧ (CTi mX7_fee (d - 1) [.ref 11, .int (sc.2 (v3 + (nI 1)).toNatClampNeg)] s50 (fun x51 s52 => ((x49 = x51) → (VV mL_law d sc 18 [some (.ref 102), some (.ref 0), some (.ref 11), some (.int (v3 + nI 4))] [] s52 (Qi K))) ∧ ((¬ x49 = x51) → (K (nI 0) s52)))))))) ∧ (((sc.2 v3.toNatClampNeg) &&& (nI 31)) = nI 13 → ((vp_in (v3 + (nI 1)) sc.1) ∧ (CTi mX6_use (d - 1) [.ref 0, .int (sc.2 (v3 + (nI 1)).toNatClampNeg)] σ (fun x53 s54 => (vp_in (v3 + (nI 1)) sc.1) ∧ (CTi mX7_use (d - 1) [.ref 11, .int (sc.2 (v3 + (nI 1)).toNatClampNeg)] s54 (fun x55 s56 => ((x53 = x55) → (VV mL_law d sc 18 [some (.ref 102), some (.ref 0), some (.ref 11), some (.int (v3 + nI 4))] [] s56 (Qi K))) ∧ ((¬ x53 = x55) → (K (nI 0) s56)))))))) ∧ (((sc.2 v3.toNatClampNeg) &&& (nI 31)) = nI 14 → ((vp_in (v3 + (nI 1)) sc.1) ∧ ((vp_in (v3 + (nI 2)) sc.1) ∧ (CTi mX6_note (d - 1) [.ref 0, .int (sc.2 (v3 + (nI 1)).toNatClampNeg), .int (sc.2 (v3 + (nI 2)).toNatClampNeg)] σ (fun x57 s58 => (vp_in (v3 + (nI 1)) sc.1) ∧ ((vp_in (v3 + (nI 2)) sc.1) ∧ (CTi mX7_note (d - 1) [.ref 11, .int (sc.2 (v3 + (nI 1)).toNatClampNeg), .int (sc.2 (v3 + (nI 2)).toNatClampNeg)] s58 (fun x59 s60 => ((x57 = x59) → (VV mL_law d sc 18 [some (.ref 102), some (.ref 0), some (.ref 11), some (.int (v3 + nI 4))] [] s60 (Qi K))) ∧ ((¬ x57 = x59) → (K (nI 0) s60)))))))))) ∧ (((sc.2 v3.toNatClampNeg) &&& (nI 31)) = nI 15 → ((vp_in (v3 + (nI 1)) sc.1) ∧ (CTi mX6_retract (d - 1) [.ref 0, .int (sc.2 (v3 + (nI 1)).toNatClampNeg)] σ (fun x61 s62 => (vp_in (v3 + (nI 1)) sc.1) ∧ (CTi mX7_retract (d - 1) [.ref 11, .int (sc.2 (v3 + (nI 1)).toNatClampNeg)] s62 (fun x63 s64 => ((x61 = x63) → (VV mL_law d sc 18 [some (.ref 102), some (.ref 0), some (.ref 11), some (.int (v3 + nI 4))] [] s64 (Qi K))) ∧ ((¬ x61 = x63) → (K (nI 0) s64)))))))) ∧ (((sc.2 v3.toNatClampNeg) &&& (nI 31)) = nI 16 → ((vp_in (v3 + (nI 1)) sc.1) ∧ (CTi mX6_wouldPayBack (d - 1) [.ref 0, .int (sc.2 (v3 + (nI 1)).toNatClampNeg)] σ (fun x65 s66 => (vp_in (v3 + (nI 1)) sc.1) ∧ (CTi mX7_wouldPayBack (d - 1) [.ref 11, .int (sc.2 (v3 + (nI 1)).toNatClampNeg)] s66 (fun x67 s68 => ((x65 = x67) → (VV mL_law d sc 18 [some (.ref 102), some (.ref 0), some (.ref 11), some (.int (v3 + nI 4))] [] s68 (Qi K))) ∧ ((¬ x65 = x67) → (K (nI 0) s68)))))))) ∧ (((sc.2 v3.toNatClampNeg) &&& (nI 31)) = nI 17 → ((vp_in (v3 + (nI 1)) sc.1) ∧ (CTi mX6_pass (d - 1) [.ref 0, .int (sc.2 (v3 + (nI 1)).toNatClampNeg)] σ (fun x69 s70 => (vp_in (v3 + (nI 1)) sc.1) ∧ (CTi mX7_pass (d - 1) [.ref 11, .int (sc.2 (v3 + (nI 1)).toNatClampNeg)] s70 (fun x71 s72 => ((x69 = x71) → (VV mL_law d sc 18 [some (.ref 102), some (.ref 0), some (.ref 11), some (.int (v3 + nI 4))] [] s72 (Qi K))) ∧ ((¬ x69 = x71) → (K (nI 0) s72)))))))) ∧ (((sc.2 v3.toNatClampNeg) &&& (nI 31)) = nI 18 → ((vp_in (v3 + (nI 1)) sc.1) ∧ (CTi mX6_cheapest (d - 1) [.ref 0, .int (sc.2 (v3 + (nI 1)).toNatClampNeg)] σ (fun x73 s74 => (vp_in (v3 + (nI 1)) sc.1) ∧ (CTi mX7_cheapest (d - 1) [.ref 11, .int (sc.2 (v3 + (nI 1)).toNatClampNeg)] s74 (fun x75 s76 => ((x73 = x75) → (VV mL_law d sc 18 [some (.ref 102), some (.ref 0), some (.ref 11), some (.int (v3 + nI 4))] [] s76 (Qi K))) ∧ ((¬ x73 = x75) → (K (nI 0) s76)))))))) ∧ (((sc.2 v3.toNatClampNeg) &&& (nI 31)) = nI 19 → ((vp_in (v3 + (nI 1)) sc.1) ∧ ((vp_in (v3 + (nI 2)) sc.1) ∧ (CTi mX6_piece (d - 1) [.ref 0, .int (sc.2 (v3 + (nI 1)).toNatClampNeg), .int (sc.2 (v3 + (nI 2)).toNatClampNeg)] σ (fun x77 s78 => (vp_in (v3 + (nI 1)) sc.1) ∧ ((vp_in (v3 + (nI 2)) sc.1) ∧ (CTi mX7_piece (d - 1) [.ref 11, .int (sc.2 (v3 + (nI 1)).toNatClampNeg), .int (sc.2 (v3 + (nI 2)).toNatClampNeg)] s78 (fun x79 s80 => ((x77 = x79) → (VV mL_law d sc 18 [some (.ref 102), some (.ref 0), some (.ref 11), some (.int (v3 + nI 4))] [] s80 (Qi K))) ∧ ((¬ x77 = x79) → (K (nI 0) s80)))))))))) ∧ (((sc.2 v3.toNatClampNeg) &&& (nI 31)) = nI 20 → ((vp_in (v3 + (nI 1)) sc.1) ∧ (CTi mX6_type (d - 1) [.ref 0, .int (sc.2 (v3 + (nI 1)).toNatClampNeg)] σ (fun x81 s82 => (vp_in (v3 + (nI 1)) sc.1) ∧ (CTi mX7_type (d - 1) [.ref 11, .int (sc.2 (v3 + (nI 1)).toNatClampNeg)] s82 (fun x83 s84 => ((x81 = x83) → (VV mL_law d sc 18 [some (.ref 102), some (.ref 0), some (.ref 11), some (.int (v3 + nI 4))] [] s84 (Qi K))) ∧ ((¬ x81 = x83) → (K (nI 0) s84)))))))) ∧ (((sc.2 v3.toNatClampNeg) &&& (nI 31)) = nI 21 → (CTi mX6_clearText (d - 1) [.ref 0] σ (fun x85 s86 => CTi mX7_clearText (d - 1) [.ref 11] s86 (fun x87 s88 => ((x85 = x87) → (VV mL_law d sc 18 [some (.ref 102), some (.ref 0), some (.ref 11), some (.int (v3 + nI 4))] [] s88 (Qi K))) ∧ ((¬ x85 = x87) → (K (nI 0) s88)))))) ∧ (((sc.2 v3.toNatClampNeg) &&& (nI 31)) = nI 22 → (CTi mX6_textFault (d - 1) [.ref 0] σ (fun x89 s90 => CTi mX7_textFault (d - 1) [.ref 11] s90 (fun x91 s92 => ((x89 = x91) → (VV mL_law d sc 18 [some (.ref 102), some (.ref 0), some (.ref 11), some (.int (v3 + nI 4))] [] s92 (Qi K))) ∧ ((¬ x89 = x91) → (K (nI 0) s92)))))) ∧ (((sc.2 v3.toNatClampNeg) &&& (nI 31)) = nI 23 → (CTi mX6_undo (d - 1) [.ref 0] σ (fun x93 s94 => CTi mX7_undo (d - 1) [.ref 11] s94 (fun x95 s96 => ((x93 = x95) → (VV mL_law d sc 18 [some (.ref 102), some (.ref 0), some (.ref 11), some (.int (v3 + nI 4))] [] s96 (Qi K))) ∧ ((¬ x93 = x95) → (K (nI 0) s96)))))) ∧ (((sc.2 v3.toNatClampNeg) &&& (nI 31)) = nI 24 → (CTl mX6_digest (d - 1) [.ref 0] σ (fun x97 s98 => CTl mX7_digest (d - 1) [.ref 11] s98 (fun x99 s100 => (((lg_cmp x97 x99) = 0) → (VV mL_law d sc 18 [some (.ref 102), some (.ref 0), some (.ref 11), some (.int (v3 + nI 4))] [] s100 (Qi K))) ∧ ((¬ (lg_cmp x97 x99) = 0) → (K (nI 0) s100)))))) ∧ ((∀ k : Nat, k < 25 → ¬ ((sc.2 v3.toNatClampNeg) &&& (nI 31)) = nI k) → (VV mL_law d sc 18 [some (.ref 102), some (.ref 0), some (.ref 11), some (.int (v3 + nI 4))] [] σ (Qi K))))))) : VV mL_law d sc 18 [some (.ref 102), some (.ref 0), some (.ref 11), some (.int v3)] [] σ (Qi K) := by
  refine v_iload_n (q := 19) dL_law_18 rfl rfl ?_
  refine v_aload_n (q := 20) dL_law_19 rfl rfl ?_
  refine v_slen (q := 21) rfl dL_law_20 rfl ?_
  refine v_iconst (v := (nI 4)) (q := 22) dL_law_21 rfl (by decide) ?_
  refine v_isub (q := 23) dL_law_22 rfl ?_
  refine v_icmp_gt (t := 760) (q := 26) dL_law_23 rfl (by decide) (fun c => ?_) (fun c => ?_)
  · have h := h.1 (c)
    refine v_iconst (v := (nI 1)) (q := 761) dL_law_760 rfl (by decide) ?_
    exact v_zret dL_law_761 rfl (by decide) ⟨_, rfl, h⟩
  · have h := h.2 (c)
    refine v_aload_n (q := 27) dL_law_26 rfl rfl ?_
    refine v_iload_n (q := 28) dL_law_27 rfl rfl ?_
    refine v_sld (q := 29) rfl dL_law_28 rfl h.1 ?_
    have h := h.2
    refine v_bipush (v := (nI 31)) (q := 31) dL_law_29 rfl (by decide) ?_
    refine v_iand (q := 32) dL_law_31 rfl ?_
    refine v_tsw (n := 25) (t := 754) (tg := fun k => match k with | 0 => 148 | 1 => 161 | 2 => 194 | 3 => 227 | 4 => 250 | 5 => 283 | 6 => 326 | 7 => 359 | 8 => 392 | 9 => 425 | 10 => 438 | 11 => 451 | 12 => 474 | 13 => 497 | 14 => 520 | 15 => 553 | 16 => 576 | 17 => 599 | 18 => 622 | 19 => 645 | 20 => 678 | 21 => 701 | 22 => 714 | 23 => 727 | _ => 740) dL_law_32 rfl (by decide) ?_ (by decide) (fun k hk c => ?_) (fun c => ?_)
    · intro k hk
      rcases (show k = 0 ∨ k = 1 ∨ k = 2 ∨ k = 3 ∨ k = 4 ∨ k = 5 ∨ k = 6 ∨ k = 7 ∨ k = 8 ∨ k = 9 ∨ k = 10 ∨ k = 11 ∨ k = 12 ∨ k = 13 ∨ k = 14 ∨ k = 15 ∨ k = 16 ∨ k = 17 ∨ k = 18 ∨ k = 19 ∨ k = 20 ∨ k = 21 ∨ k = 22 ∨ k = 23 ∨ k = 24 by omega) with rfl | rfl | rfl | rfl | rfl | rfl | rfl | rfl | rfl | rfl | rfl | rfl | rfl | rfl | rfl | rfl | rfl | rfl | rfl | rfl | rfl | rfl | rfl | rfl | rfl
      all_goals exact ⟨_, rfl, by decide⟩
    · rcases (show k = 0 ∨ k = 1 ∨ k = 2 ∨ k = 3 ∨ k = 4 ∨ k = 5 ∨ k = 6 ∨ k = 7 ∨ k = 8 ∨ k = 9 ∨ k = 10 ∨ k = 11 ∨ k = 12 ∨ k = 13 ∨ k = 14 ∨ k = 15 ∨ k = 16 ∨ k = 17 ∨ k = 18 ∨ k = 19 ∨ k = 20 ∨ k = 21 ∨ k = 22 ∨ k = 23 ∨ k = 24 by omega) with rfl | rfl | rfl | rfl | rfl | rfl | rfl | rfl | rfl | rfl | rfl | rfl | rfl | rfl | rfl | rfl | rfl | rfl | rfl | rfl | rfl | rfl | rfl | rfl | rfl
      · have h := h.1 c
        refine v_aload_n (q := 149) dL_law_148 rfl rfl ?_
        refine v_callV (As := []) (n := 0) (q := 152) dL_law_149 rfl lk_8_13 hd1 rfl rfl (Nat.le_of_ble_eq_true rfl) (CT.imp h (fun r s2 h => ?_))
        obtain ⟨x1, rfl, h⟩ := h
        show VV mL_law d sc 152 [some (.ref 102), some (.ref 0), some (.ref 11), some (.int v3)] [.int x1] s2 (Qi K)
        refine v_aload_n (q := 153) dL_law_152 rfl rfl ?_
        refine v_callV (As := []) (n := 0) (q := 156) dL_law_153 rfl lk_8_17 hd1 rfl rfl (Nat.le_of_ble_eq_true rfl) (CT.imp h (fun r s4 h => ?_))
        obtain ⟨x3, rfl, h⟩ := h
        show VV mL_law d sc 156 [some (.ref 102), some (.ref 0), some (.ref 11), some (.int v3)] [.int x3, .int x1] s4 (Qi K)
        refine v_icmp_eq (t := 754) (q := 159) dL_law_156 rfl (by decide) (fun c => ?_) (fun c => ?_)
        · have h := h.1 (c)
          refine v_iinc (y := (v3 + nI 4)) (q := 757) dL_law_754 rfl rfl (congrArg (fun z => v3 + z) (by decide)) (by decide) rfl ?_
          refine v_goto (q := 18) dL_law_757 (by decide) ?_
          exact h
        · have h := h.2 (c)
          refine v_iconst (v := (nI 0)) (q := 160) dL_law_159 rfl (by decide) ?_
          exact v_zret dL_law_160 rfl (by decide) ⟨_, rfl, h⟩
      · have h := h.2.1 c
        refine v_aload_n (q := 162) dL_law_161 rfl rfl ?_
        refine v_aload_n (q := 163) dL_law_162 rfl rfl ?_
        refine v_iload_n (q := 164) dL_law_163 rfl rfl ?_
        refine v_iconst (v := (nI 1)) (q := 165) dL_law_164 rfl (by decide) ?_
        refine v_iadd (q := 166) dL_law_165 rfl ?_
        refine v_sld (q := 167) rfl dL_law_166 rfl h.1 ?_
        have h := h.2
        refine v_aload_n (q := 168) dL_law_167 rfl rfl ?_
        refine v_iload_n (q := 169) dL_law_168 rfl rfl ?_
        refine v_iconst (v := (nI 2)) (q := 170) dL_law_169 rfl (by decide) ?_
        refine v_iadd (q := 171) dL_law_170 rfl ?_
        refine v_sld (q := 172) rfl dL_law_171 rfl h.1 ?_
        have h := h.2
        refine v_callV (As := [.int (sc.2 (v3 + (nI 1)).toNatClampNeg), .int (sc.2 (v3 + (nI 2)).toNatClampNeg)]) (n := 2) (q := 175) dL_law_172 rfl lk_8_18 hd1 rfl rfl (Nat.le_of_ble_eq_true rfl) (CT.imp h (fun r s6 h => ?_))
        obtain ⟨x5, rfl, h⟩ := h
        show VV mL_law d sc 175 [some (.ref 102), some (.ref 0), some (.ref 11), some (.int v3)] [.int x5] s6 (Qi K)
        refine v_aload_n (q := 176) dL_law_175 rfl rfl ?_
        refine v_aload_n (q := 177) dL_law_176 rfl rfl ?_
        refine v_iload_n (q := 178) dL_law_177 rfl rfl ?_
        refine v_iconst (v := (nI 1)) (q := 179) dL_law_178 rfl (by decide) ?_
        refine v_iadd (q := 180) dL_law_179 rfl ?_
        refine v_sld (q := 181) rfl dL_law_180 rfl h.1 ?_
        have h := h.2
        refine v_aload_n (q := 182) dL_law_181 rfl rfl ?_
        refine v_iload_n (q := 183) dL_law_182 rfl rfl ?_
        refine v_iconst (v := (nI 2)) (q := 184) dL_law_183 rfl (by decide) ?_
        refine v_iadd (q := 185) dL_law_184 rfl ?_
        refine v_sld (q := 186) rfl dL_law_185 rfl h.1 ?_
        have h := h.2
        refine v_callV (As := [.int (sc.2 (v3 + (nI 1)).toNatClampNeg), .int (sc.2 (v3 + (nI 2)).toNatClampNeg)]) (n := 2) (q := 189) dL_law_186 rfl lk_8_22 hd1 rfl rfl (Nat.le_of_ble_eq_true rfl) (CT.imp h (fun r s8 h => ?_))
        obtain ⟨x7, rfl, h⟩ := h
        show VV mL_law d sc 189 [some (.ref 102), some (.ref 0), some (.ref 11), some (.int v3)] [.int x7, .int x5] s8 (Qi K)
        refine v_icmp_eq (t := 754) (q := 192) dL_law_189 rfl (by decide) (fun c => ?_) (fun c => ?_)
        · have h := h.1 (c)
          refine v_iinc (y := (v3 + nI 4)) (q := 757) dL_law_754 rfl rfl (congrArg (fun z => v3 + z) (by decide)) (by decide) rfl ?_
          refine v_goto (q := 18) dL_law_757 (by decide) ?_
          exact h
        · have h := h.2 (c)
          refine v_iconst (v := (nI 0)) (q := 193) dL_law_192 rfl (by decide) ?_
          exact v_zret dL_law_193 rfl (by decide) ⟨_, rfl, h⟩
      · have h := h.2.2.1 c
        refine v_aload_n (q := 195) dL_law_194 rfl rfl ?_
        refine v_aload_n (q := 196) dL_law_195 rfl rfl ?_
        refine v_iload_n (q := 197) dL_law_196 rfl rfl ?_
        refine v_iconst (v := (nI 1)) (q := 198) dL_law_197 rfl (by decide) ?_
        refine v_iadd (q := 199) dL_law_198 rfl ?_
        refine v_sld (q := 200) rfl dL_law_199 rfl h.1 ?_
        have h := h.2
        refine v_aload_n (q := 201) dL_law_200 rfl rfl ?_
        refine v_iload_n (q := 202) dL_law_201 rfl rfl ?_
        refine v_iconst (v := (nI 2)) (q := 203) dL_law_202 rfl (by decide) ?_
        refine v_iadd (q := 204) dL_law_203 rfl ?_
        refine v_sld (q := 205) rfl dL_law_204 rfl h.1 ?_
        have h := h.2
        refine v_callV (As := [.int (sc.2 (v3 + (nI 1)).toNatClampNeg), .int (sc.2 (v3 + (nI 2)).toNatClampNeg)]) (n := 2) (q := 208) dL_law_205 rfl lk_8_23 hd1 rfl rfl (Nat.le_of_ble_eq_true rfl) (CT.imp h (fun r s10 h => ?_))
        obtain ⟨x9, rfl, h⟩ := h
        show VV mL_law d sc 208 [some (.ref 102), some (.ref 0), some (.ref 11), some (.int v3)] [.int x9] s10 (Qi K)
        refine v_aload_n (q := 209) dL_law_208 rfl rfl ?_
        refine v_aload_n (q := 210) dL_law_209 rfl rfl ?_
        refine v_iload_n (q := 211) dL_law_210 rfl rfl ?_
        refine v_iconst (v := (nI 1)) (q := 212) dL_law_211 rfl (by decide) ?_
        refine v_iadd (q := 213) dL_law_212 rfl ?_
        refine v_sld (q := 214) rfl dL_law_213 rfl h.1 ?_
        have h := h.2
        refine v_aload_n (q := 215) dL_law_214 rfl rfl ?_
        refine v_iload_n (q := 216) dL_law_215 rfl rfl ?_
        refine v_iconst (v := (nI 2)) (q := 217) dL_law_216 rfl (by decide) ?_
        refine v_iadd (q := 218) dL_law_217 rfl ?_
        refine v_sld (q := 219) rfl dL_law_218 rfl h.1 ?_
        have h := h.2
        refine v_callV (As := [.int (sc.2 (v3 + (nI 1)).toNatClampNeg), .int (sc.2 (v3 + (nI 2)).toNatClampNeg)]) (n := 2) (q := 222) dL_law_219 rfl lk_8_26 hd1 rfl rfl (Nat.le_of_ble_eq_true rfl) (CT.imp h (fun r s12 h => ?_))
        obtain ⟨x11, rfl, h⟩ := h
        show VV mL_law d sc 222 [some (.ref 102), some (.ref 0), some (.ref 11), some (.int v3)] [.int x11, .int x9] s12 (Qi K)
        refine v_icmp_eq (t := 754) (q := 225) dL_law_222 rfl (by decide) (fun c => ?_) (fun c => ?_)
        · have h := h.1 (c)
          refine v_iinc (y := (v3 + nI 4)) (q := 757) dL_law_754 rfl rfl (congrArg (fun z => v3 + z) (by decide)) (by decide) rfl ?_
          refine v_goto (q := 18) dL_law_757 (by decide) ?_
          exact h
        · have h := h.2 (c)
          refine v_iconst (v := (nI 0)) (q := 226) dL_law_225 rfl (by decide) ?_
          exact v_zret dL_law_226 rfl (by decide) ⟨_, rfl, h⟩
      · have h := h.2.2.2.1 c
        refine v_aload_n (q := 228) dL_law_227 rfl rfl ?_
        refine v_aload_n (q := 229) dL_law_228 rfl rfl ?_
        refine v_iload_n (q := 230) dL_law_229 rfl rfl ?_
        refine v_iconst (v := (nI 1)) (q := 231) dL_law_230 rfl (by decide) ?_
        refine v_iadd (q := 232) dL_law_231 rfl ?_
        refine v_sld (q := 233) rfl dL_law_232 rfl h.1 ?_
        have h := h.2
        refine v_callV (As := [.int (sc.2 (v3 + (nI 1)).toNatClampNeg)]) (n := 1) (q := 236) dL_law_233 rfl lk_8_27 hd1 rfl rfl (Nat.le_of_ble_eq_true rfl) (CT.imp h (fun r s14 h => ?_))
        obtain ⟨x13, rfl, h⟩ := h
        show VV mL_law d sc 236 [some (.ref 102), some (.ref 0), some (.ref 11), some (.int v3)] [.int x13] s14 (Qi K)
        refine v_aload_n (q := 237) dL_law_236 rfl rfl ?_
        refine v_aload_n (q := 238) dL_law_237 rfl rfl ?_
        refine v_iload_n (q := 239) dL_law_238 rfl rfl ?_
        refine v_iconst (v := (nI 1)) (q := 240) dL_law_239 rfl (by decide) ?_
        refine v_iadd (q := 241) dL_law_240 rfl ?_
        refine v_sld (q := 242) rfl dL_law_241 rfl h.1 ?_
        have h := h.2
        refine v_callV (As := [.int (sc.2 (v3 + (nI 1)).toNatClampNeg)]) (n := 1) (q := 245) dL_law_242 rfl lk_8_31 hd1 rfl rfl (Nat.le_of_ble_eq_true rfl) (CT.imp h (fun r s16 h => ?_))
        obtain ⟨x15, rfl, h⟩ := h
        show VV mL_law d sc 245 [some (.ref 102), some (.ref 0), some (.ref 11), some (.int v3)] [.int x15, .int x13] s16 (Qi K)
        refine v_icmp_eq (t := 754) (q := 248) dL_law_245 rfl (by decide) (fun c => ?_) (fun c => ?_)
        · have h := h.1 (c)
          refine v_iinc (y := (v3 + nI 4)) (q := 757) dL_law_754 rfl rfl (congrArg (fun z => v3 + z) (by decide)) (by decide) rfl ?_
          refine v_goto (q := 18) dL_law_757 (by decide) ?_
          exact h
        · have h := h.2 (c)
          refine v_iconst (v := (nI 0)) (q := 249) dL_law_248 rfl (by decide) ?_
          exact v_zret dL_law_249 rfl (by decide) ⟨_, rfl, h⟩
      · have h := h.2.2.2.2.1 c
        refine v_aload_n (q := 251) dL_law_250 rfl rfl ?_
        refine v_aload_n (q := 252) dL_law_251 rfl rfl ?_
        refine v_iload_n (q := 253) dL_law_252 rfl rfl ?_
        refine v_iconst (v := (nI 1)) (q := 254) dL_law_253 rfl (by decide) ?_
        refine v_iadd (q := 255) dL_law_254 rfl ?_
        refine v_sld (q := 256) rfl dL_law_255 rfl h.1 ?_
        have h := h.2
        refine v_aload_n (q := 257) dL_law_256 rfl rfl ?_
        refine v_iload_n (q := 258) dL_law_257 rfl rfl ?_
        refine v_iconst (v := (nI 2)) (q := 259) dL_law_258 rfl (by decide) ?_
        refine v_iadd (q := 260) dL_law_259 rfl ?_
        refine v_sld (q := 261) rfl dL_law_260 rfl h.1 ?_
        have h := h.2
        refine v_callV (As := [.int (sc.2 (v3 + (nI 1)).toNatClampNeg), .int (sc.2 (v3 + (nI 2)).toNatClampNeg)]) (n := 2) (q := 264) dL_law_261 rfl lk_8_32 hd1 rfl rfl (Nat.le_of_ble_eq_true rfl) (CT.imp h (fun r s18 h => ?_))
        obtain ⟨x17, rfl, h⟩ := h
        show VV mL_law d sc 264 [some (.ref 102), some (.ref 0), some (.ref 11), some (.int v3)] [.int x17] s18 (Qi K)
        refine v_aload_n (q := 265) dL_law_264 rfl rfl ?_
        refine v_aload_n (q := 266) dL_law_265 rfl rfl ?_
        refine v_iload_n (q := 267) dL_law_266 rfl rfl ?_
        refine v_iconst (v := (nI 1)) (q := 268) dL_law_267 rfl (by decide) ?_
        refine v_iadd (q := 269) dL_law_268 rfl ?_
        refine v_sld (q := 270) rfl dL_law_269 rfl h.1 ?_
        have h := h.2
        refine v_aload_n (q := 271) dL_law_270 rfl rfl ?_
        refine v_iload_n (q := 272) dL_law_271 rfl rfl ?_
        refine v_iconst (v := (nI 2)) (q := 273) dL_law_272 rfl (by decide) ?_
        refine v_iadd (q := 274) dL_law_273 rfl ?_
        refine v_sld (q := 275) rfl dL_law_274 rfl h.1 ?_
        have h := h.2
        refine v_callV (As := [.int (sc.2 (v3 + (nI 1)).toNatClampNeg), .int (sc.2 (v3 + (nI 2)).toNatClampNeg)]) (n := 2) (q := 278) dL_law_275 rfl lk_8_35 hd1 rfl rfl (Nat.le_of_ble_eq_true rfl) (CT.imp h (fun r s20 h => ?_))
        obtain ⟨x19, rfl, h⟩ := h
        show VV mL_law d sc 278 [some (.ref 102), some (.ref 0), some (.ref 11), some (.int v3)] [.int x19, .int x17] s20 (Qi K)
        refine v_icmp_eq (t := 754) (q := 281) dL_law_278 rfl (by decide) (fun c => ?_) (fun c => ?_)
        · have h := h.1 (c)
          refine v_iinc (y := (v3 + nI 4)) (q := 757) dL_law_754 rfl rfl (congrArg (fun z => v3 + z) (by decide)) (by decide) rfl ?_
          refine v_goto (q := 18) dL_law_757 (by decide) ?_
          exact h
        · have h := h.2 (c)
          refine v_iconst (v := (nI 0)) (q := 282) dL_law_281 rfl (by decide) ?_
          exact v_zret dL_law_282 rfl (by decide) ⟨_, rfl, h⟩
      · have h := h.2.2.2.2.2.1 c
        refine v_aload_n (q := 284) dL_law_283 rfl rfl ?_
        refine v_aload_n (q := 285) dL_law_284 rfl rfl ?_
        refine v_iload_n (q := 286) dL_law_285 rfl rfl ?_
        refine v_iconst (v := (nI 1)) (q := 287) dL_law_286 rfl (by decide) ?_
        refine v_iadd (q := 288) dL_law_287 rfl ?_
        refine v_sld (q := 289) rfl dL_law_288 rfl h.1 ?_
        have h := h.2
        refine v_aload_n (q := 290) dL_law_289 rfl rfl ?_
        refine v_iload_n (q := 291) dL_law_290 rfl rfl ?_
        refine v_iconst (v := (nI 2)) (q := 292) dL_law_291 rfl (by decide) ?_
        refine v_iadd (q := 293) dL_law_292 rfl ?_
        refine v_sld (q := 294) rfl dL_law_293 rfl h.1 ?_
        have h := h.2
        refine v_aload_n (q := 295) dL_law_294 rfl rfl ?_
        refine v_iload_n (q := 296) dL_law_295 rfl rfl ?_
        refine v_iconst (v := (nI 3)) (q := 297) dL_law_296 rfl (by decide) ?_
        refine v_iadd (q := 298) dL_law_297 rfl ?_
        refine v_sld (q := 299) rfl dL_law_298 rfl h.1 ?_
        have h := h.2
        refine v_callV (As := [.int (sc.2 (v3 + (nI 1)).toNatClampNeg), .int (sc.2 (v3 + (nI 2)).toNatClampNeg), .int (sc.2 (v3 + (nI 3)).toNatClampNeg)]) (n := 3) (q := 302) dL_law_299 rfl lk_8_36 hd1 rfl rfl (Nat.le_of_ble_eq_true rfl) (CT.imp h (fun r s22 h => ?_))
        obtain ⟨x21, rfl, h⟩ := h
        show VV mL_law d sc 302 [some (.ref 102), some (.ref 0), some (.ref 11), some (.int v3)] [.int x21] s22 (Qi K)
        refine v_aload_n (q := 303) dL_law_302 rfl rfl ?_
        refine v_aload_n (q := 304) dL_law_303 rfl rfl ?_
        refine v_iload_n (q := 305) dL_law_304 rfl rfl ?_
        refine v_iconst (v := (nI 1)) (q := 306) dL_law_305 rfl (by decide) ?_
        refine v_iadd (q := 307) dL_law_306 rfl ?_
        refine v_sld (q := 308) rfl dL_law_307 rfl h.1 ?_
        have h := h.2
        refine v_aload_n (q := 309) dL_law_308 rfl rfl ?_
        refine v_iload_n (q := 310) dL_law_309 rfl rfl ?_
        refine v_iconst (v := (nI 2)) (q := 311) dL_law_310 rfl (by decide) ?_
        refine v_iadd (q := 312) dL_law_311 rfl ?_
        refine v_sld (q := 313) rfl dL_law_312 rfl h.1 ?_
        have h := h.2
        refine v_aload_n (q := 314) dL_law_313 rfl rfl ?_
        refine v_iload_n (q := 315) dL_law_314 rfl rfl ?_
        refine v_iconst (v := (nI 3)) (q := 316) dL_law_315 rfl (by decide) ?_
        refine v_iadd (q := 317) dL_law_316 rfl ?_
        refine v_sld (q := 318) rfl dL_law_317 rfl h.1 ?_
        have h := h.2
        refine v_callV (As := [.int (sc.2 (v3 + (nI 1)).toNatClampNeg), .int (sc.2 (v3 + (nI 2)).toNatClampNeg), .int (sc.2 (v3 + (nI 3)).toNatClampNeg)]) (n := 3) (q := 321) dL_law_318 rfl lk_8_40 hd1 rfl rfl (Nat.le_of_ble_eq_true rfl) (CT.imp h (fun r s24 h => ?_))
        obtain ⟨x23, rfl, h⟩ := h
        show VV mL_law d sc 321 [some (.ref 102), some (.ref 0), some (.ref 11), some (.int v3)] [.int x23, .int x21] s24 (Qi K)
        refine v_icmp_eq (t := 754) (q := 324) dL_law_321 rfl (by decide) (fun c => ?_) (fun c => ?_)
        · have h := h.1 (c)
          refine v_iinc (y := (v3 + nI 4)) (q := 757) dL_law_754 rfl rfl (congrArg (fun z => v3 + z) (by decide)) (by decide) rfl ?_
          refine v_goto (q := 18) dL_law_757 (by decide) ?_
          exact h
        · have h := h.2 (c)
          refine v_iconst (v := (nI 0)) (q := 325) dL_law_324 rfl (by decide) ?_
          exact v_zret dL_law_325 rfl (by decide) ⟨_, rfl, h⟩
      · have h := h.2.2.2.2.2.2.1 c
        refine v_aload_n (q := 327) dL_law_326 rfl rfl ?_
        refine v_aload_n (q := 328) dL_law_327 rfl rfl ?_
        refine v_iload_n (q := 329) dL_law_328 rfl rfl ?_
        refine v_iconst (v := (nI 1)) (q := 330) dL_law_329 rfl (by decide) ?_
        refine v_iadd (q := 331) dL_law_330 rfl ?_
        refine v_sld (q := 332) rfl dL_law_331 rfl h.1 ?_
        have h := h.2
        refine v_aload_n (q := 333) dL_law_332 rfl rfl ?_
        refine v_iload_n (q := 334) dL_law_333 rfl rfl ?_
        refine v_iconst (v := (nI 2)) (q := 335) dL_law_334 rfl (by decide) ?_
        refine v_iadd (q := 336) dL_law_335 rfl ?_
        refine v_sld (q := 337) rfl dL_law_336 rfl h.1 ?_
        have h := h.2
        refine v_callV (As := [.int (sc.2 (v3 + (nI 1)).toNatClampNeg), .int (sc.2 (v3 + (nI 2)).toNatClampNeg)]) (n := 2) (q := 340) dL_law_337 rfl lk_8_41 hd1 rfl rfl (Nat.le_of_ble_eq_true rfl) (CT.imp h (fun r s26 h => ?_))
        obtain ⟨x25, rfl, h⟩ := h
        show VV mL_law d sc 340 [some (.ref 102), some (.ref 0), some (.ref 11), some (.int v3)] [.int x25] s26 (Qi K)
        refine v_aload_n (q := 341) dL_law_340 rfl rfl ?_
        refine v_aload_n (q := 342) dL_law_341 rfl rfl ?_
        refine v_iload_n (q := 343) dL_law_342 rfl rfl ?_
        refine v_iconst (v := (nI 1)) (q := 344) dL_law_343 rfl (by decide) ?_
        refine v_iadd (q := 345) dL_law_344 rfl ?_
        refine v_sld (q := 346) rfl dL_law_345 rfl h.1 ?_
        have h := h.2
        refine v_aload_n (q := 347) dL_law_346 rfl rfl ?_
        refine v_iload_n (q := 348) dL_law_347 rfl rfl ?_
        refine v_iconst (v := (nI 2)) (q := 349) dL_law_348 rfl (by decide) ?_
        refine v_iadd (q := 350) dL_law_349 rfl ?_
        refine v_sld (q := 351) rfl dL_law_350 rfl h.1 ?_
        have h := h.2
        refine v_callV (As := [.int (sc.2 (v3 + (nI 1)).toNatClampNeg), .int (sc.2 (v3 + (nI 2)).toNatClampNeg)]) (n := 2) (q := 354) dL_law_351 rfl lk_8_44 hd1 rfl rfl (Nat.le_of_ble_eq_true rfl) (CT.imp h (fun r s28 h => ?_))
        obtain ⟨x27, rfl, h⟩ := h
        show VV mL_law d sc 354 [some (.ref 102), some (.ref 0), some (.ref 11), some (.int v3)] [.int x27, .int x25] s28 (Qi K)
        refine v_icmp_eq (t := 754) (q := 357) dL_law_354 rfl (by decide) (fun c => ?_) (fun c => ?_)
        · have h := h.1 (c)
          refine v_iinc (y := (v3 + nI 4)) (q := 757) dL_law_754 rfl rfl (congrArg (fun z => v3 + z) (by decide)) (by decide) rfl ?_
          refine v_goto (q := 18) dL_law_757 (by decide) ?_
          exact h
        · have h := h.2 (c)
          refine v_iconst (v := (nI 0)) (q := 358) dL_law_357 rfl (by decide) ?_
          exact v_zret dL_law_358 rfl (by decide) ⟨_, rfl, h⟩
      · have h := h.2.2.2.2.2.2.2.1 c
        refine v_aload_n (q := 360) dL_law_359 rfl rfl ?_
        refine v_aload_n (q := 361) dL_law_360 rfl rfl ?_
        refine v_iload_n (q := 362) dL_law_361 rfl rfl ?_
        refine v_iconst (v := (nI 1)) (q := 363) dL_law_362 rfl (by decide) ?_
        refine v_iadd (q := 364) dL_law_363 rfl ?_
        refine v_sld (q := 365) rfl dL_law_364 rfl h.1 ?_
        have h := h.2
        refine v_aload_n (q := 366) dL_law_365 rfl rfl ?_
        refine v_iload_n (q := 367) dL_law_366 rfl rfl ?_
        refine v_iconst (v := (nI 2)) (q := 368) dL_law_367 rfl (by decide) ?_
        refine v_iadd (q := 369) dL_law_368 rfl ?_
        refine v_sld (q := 370) rfl dL_law_369 rfl h.1 ?_
        have h := h.2
        refine v_callV (As := [.int (sc.2 (v3 + (nI 1)).toNatClampNeg), .int (sc.2 (v3 + (nI 2)).toNatClampNeg)]) (n := 2) (q := 373) dL_law_370 rfl lk_8_45 hd1 rfl rfl (Nat.le_of_ble_eq_true rfl) (CT.imp h (fun r s30 h => ?_))
        obtain ⟨x29, rfl, h⟩ := h
        show VV mL_law d sc 373 [some (.ref 102), some (.ref 0), some (.ref 11), some (.int v3)] [.int x29] s30 (Qi K)
        refine v_aload_n (q := 374) dL_law_373 rfl rfl ?_
        refine v_aload_n (q := 375) dL_law_374 rfl rfl ?_
        refine v_iload_n (q := 376) dL_law_375 rfl rfl ?_
        refine v_iconst (v := (nI 1)) (q := 377) dL_law_376 rfl (by decide) ?_
        refine v_iadd (q := 378) dL_law_377 rfl ?_
        refine v_sld (q := 379) rfl dL_law_378 rfl h.1 ?_
        have h := h.2
        refine v_aload_n (q := 380) dL_law_379 rfl rfl ?_
        refine v_iload_n (q := 381) dL_law_380 rfl rfl ?_
        refine v_iconst (v := (nI 2)) (q := 382) dL_law_381 rfl (by decide) ?_
        refine v_iadd (q := 383) dL_law_382 rfl ?_
        refine v_sld (q := 384) rfl dL_law_383 rfl h.1 ?_
        have h := h.2
        refine v_callV (As := [.int (sc.2 (v3 + (nI 1)).toNatClampNeg), .int (sc.2 (v3 + (nI 2)).toNatClampNeg)]) (n := 2) (q := 387) dL_law_384 rfl lk_8_48 hd1 rfl rfl (Nat.le_of_ble_eq_true rfl) (CT.imp h (fun r s32 h => ?_))
        obtain ⟨x31, rfl, h⟩ := h
        show VV mL_law d sc 387 [some (.ref 102), some (.ref 0), some (.ref 11), some (.int v3)] [.int x31, .int x29] s32 (Qi K)
        refine v_icmp_eq (t := 754) (q := 390) dL_law_387 rfl (by decide) (fun c => ?_) (fun c => ?_)
        · have h := h.1 (c)
          refine v_iinc (y := (v3 + nI 4)) (q := 757) dL_law_754 rfl rfl (congrArg (fun z => v3 + z) (by decide)) (by decide) rfl ?_
          refine v_goto (q := 18) dL_law_757 (by decide) ?_
          exact h
        · have h := h.2 (c)
          refine v_iconst (v := (nI 0)) (q := 391) dL_law_390 rfl (by decide) ?_
          exact v_zret dL_law_391 rfl (by decide) ⟨_, rfl, h⟩
      · have h := h.2.2.2.2.2.2.2.2.1 c
        refine v_aload_n (q := 393) dL_law_392 rfl rfl ?_
        refine v_aload_n (q := 394) dL_law_393 rfl rfl ?_
        refine v_iload_n (q := 395) dL_law_394 rfl rfl ?_
        refine v_iconst (v := (nI 1)) (q := 396) dL_law_395 rfl (by decide) ?_
        refine v_iadd (q := 397) dL_law_396 rfl ?_
        refine v_sld (q := 398) rfl dL_law_397 rfl h.1 ?_
        have h := h.2
        refine v_aload_n (q := 399) dL_law_398 rfl rfl ?_
        refine v_iload_n (q := 400) dL_law_399 rfl rfl ?_
        refine v_iconst (v := (nI 2)) (q := 401) dL_law_400 rfl (by decide) ?_
        refine v_iadd (q := 402) dL_law_401 rfl ?_
        refine v_sld (q := 403) rfl dL_law_402 rfl h.1 ?_
        have h := h.2
        refine v_callV (As := [.int (sc.2 (v3 + (nI 1)).toNatClampNeg), .int (sc.2 (v3 + (nI 2)).toNatClampNeg)]) (n := 2) (q := 406) dL_law_403 rfl lk_8_49 hd1 rfl rfl (Nat.le_of_ble_eq_true rfl) (CT.imp h (fun r s34 h => ?_))
        obtain ⟨x33, rfl, h⟩ := h
        show VV mL_law d sc 406 [some (.ref 102), some (.ref 0), some (.ref 11), some (.int v3)] [.int x33] s34 (Qi K)
        refine v_aload_n (q := 407) dL_law_406 rfl rfl ?_
        refine v_aload_n (q := 408) dL_law_407 rfl rfl ?_
        refine v_iload_n (q := 409) dL_law_408 rfl rfl ?_
        refine v_iconst (v := (nI 1)) (q := 410) dL_law_409 rfl (by decide) ?_
        refine v_iadd (q := 411) dL_law_410 rfl ?_
        refine v_sld (q := 412) rfl dL_law_411 rfl h.1 ?_
        have h := h.2
        refine v_aload_n (q := 413) dL_law_412 rfl rfl ?_
        refine v_iload_n (q := 414) dL_law_413 rfl rfl ?_
        refine v_iconst (v := (nI 2)) (q := 415) dL_law_414 rfl (by decide) ?_
        refine v_iadd (q := 416) dL_law_415 rfl ?_
        refine v_sld (q := 417) rfl dL_law_416 rfl h.1 ?_
        have h := h.2
        refine v_callV (As := [.int (sc.2 (v3 + (nI 1)).toNatClampNeg), .int (sc.2 (v3 + (nI 2)).toNatClampNeg)]) (n := 2) (q := 420) dL_law_417 rfl lk_8_52 hd1 rfl rfl (Nat.le_of_ble_eq_true rfl) (CT.imp h (fun r s36 h => ?_))
        obtain ⟨x35, rfl, h⟩ := h
        show VV mL_law d sc 420 [some (.ref 102), some (.ref 0), some (.ref 11), some (.int v3)] [.int x35, .int x33] s36 (Qi K)
        refine v_icmp_eq (t := 754) (q := 423) dL_law_420 rfl (by decide) (fun c => ?_) (fun c => ?_)
        · have h := h.1 (c)
          refine v_iinc (y := (v3 + nI 4)) (q := 757) dL_law_754 rfl rfl (congrArg (fun z => v3 + z) (by decide)) (by decide) rfl ?_
          refine v_goto (q := 18) dL_law_757 (by decide) ?_
          exact h
        · have h := h.2 (c)
          refine v_iconst (v := (nI 0)) (q := 424) dL_law_423 rfl (by decide) ?_
          exact v_zret dL_law_424 rfl (by decide) ⟨_, rfl, h⟩
      · have h := h.2.2.2.2.2.2.2.2.2.1 c
        refine v_aload_n (q := 426) dL_law_425 rfl rfl ?_
        refine v_callV (As := []) (n := 0) (q := 429) dL_law_426 rfl lk_8_53 hd1 rfl rfl (Nat.le_of_ble_eq_true rfl) (CT.imp h (fun r s38 h => ?_))
        obtain ⟨x37, rfl, h⟩ := h
        show VV mL_law d sc 429 [some (.ref 102), some (.ref 0), some (.ref 11), some (.int v3)] [.int x37] s38 (Qi K)
        refine v_aload_n (q := 430) dL_law_429 rfl rfl ?_
        refine v_callV (As := []) (n := 0) (q := 433) dL_law_430 rfl lk_8_56 hd1 rfl rfl (Nat.le_of_ble_eq_true rfl) (CT.imp h (fun r s40 h => ?_))
        obtain ⟨x39, rfl, h⟩ := h
        show VV mL_law d sc 433 [some (.ref 102), some (.ref 0), some (.ref 11), some (.int v3)] [.int x39, .int x37] s40 (Qi K)
        refine v_icmp_eq (t := 754) (q := 436) dL_law_433 rfl (by decide) (fun c => ?_) (fun c => ?_)
        · have h := h.1 (c)
          refine v_iinc (y := (v3 + nI 4)) (q := 757) dL_law_754 rfl rfl (congrArg (fun z => v3 + z) (by decide)) (by decide) rfl ?_
          refine v_goto (q := 18) dL_law_757 (by decide) ?_
          exact h
        · have h := h.2 (c)
          refine v_iconst (v := (nI 0)) (q := 437) dL_law_436 rfl (by decide) ?_
          exact v_zret dL_law_437 rfl (by decide) ⟨_, rfl, h⟩
      · have h := h.2.2.2.2.2.2.2.2.2.2.1 c
        refine v_aload_n (q := 439) dL_law_438 rfl rfl ?_
        refine v_callV (As := []) (n := 0) (q := 442) dL_law_439 rfl lk_8_57 hd1 rfl rfl (Nat.le_of_ble_eq_true rfl) (CT.imp h (fun r s42 h => ?_))
        obtain ⟨x41, rfl, h⟩ := h
        show VV mL_law d sc 442 [some (.ref 102), some (.ref 0), some (.ref 11), some (.int v3)] [.int x41] s42 (Qi K)
        refine v_aload_n (q := 443) dL_law_442 rfl rfl ?_
        refine v_callV (As := []) (n := 0) (q := 446) dL_law_443 rfl lk_8_60 hd1 rfl rfl (Nat.le_of_ble_eq_true rfl) (CT.imp h (fun r s44 h => ?_))
        obtain ⟨x43, rfl, h⟩ := h
        show VV mL_law d sc 446 [some (.ref 102), some (.ref 0), some (.ref 11), some (.int v3)] [.int x43, .int x41] s44 (Qi K)
        refine v_icmp_eq (t := 754) (q := 449) dL_law_446 rfl (by decide) (fun c => ?_) (fun c => ?_)
        · have h := h.1 (c)
          refine v_iinc (y := (v3 + nI 4)) (q := 757) dL_law_754 rfl rfl (congrArg (fun z => v3 + z) (by decide)) (by decide) rfl ?_
          refine v_goto (q := 18) dL_law_757 (by decide) ?_
          exact h
        · have h := h.2 (c)
          refine v_iconst (v := (nI 0)) (q := 450) dL_law_449 rfl (by decide) ?_
          exact v_zret dL_law_450 rfl (by decide) ⟨_, rfl, h⟩
      · have h := h.2.2.2.2.2.2.2.2.2.2.2.1 c
        refine v_aload_n (q := 452) dL_law_451 rfl rfl ?_
        refine v_aload_n (q := 453) dL_law_452 rfl rfl ?_
        refine v_iload_n (q := 454) dL_law_453 rfl rfl ?_
        refine v_iconst (v := (nI 1)) (q := 455) dL_law_454 rfl (by decide) ?_
        refine v_iadd (q := 456) dL_law_455 rfl ?_
        refine v_sld (q := 457) rfl dL_law_456 rfl h.1 ?_
        have h := h.2
        refine v_callV (As := [.int (sc.2 (v3 + (nI 1)).toNatClampNeg)]) (n := 1) (q := 460) dL_law_457 rfl lk_8_61 hd1 rfl rfl (Nat.le_of_ble_eq_true rfl) (CT.imp h (fun r s46 h => ?_))
        obtain ⟨x45, rfl, h⟩ := h
        show VV mL_law d sc 460 [some (.ref 102), some (.ref 0), some (.ref 11), some (.int v3)] [.int x45] s46 (Qi K)
        refine v_aload_n (q := 461) dL_law_460 rfl rfl ?_
        refine v_aload_n (q := 462) dL_law_461 rfl rfl ?_
        refine v_iload_n (q := 463) dL_law_462 rfl rfl ?_
        refine v_iconst (v := (nI 1)) (q := 464) dL_law_463 rfl (by decide) ?_
        refine v_iadd (q := 465) dL_law_464 rfl ?_
        refine v_sld (q := 466) rfl dL_law_465 rfl h.1 ?_
        have h := h.2
        refine v_callV (As := [.int (sc.2 (v3 + (nI 1)).toNatClampNeg)]) (n := 1) (q := 469) dL_law_466 rfl lk_8_64 hd1 rfl rfl (Nat.le_of_ble_eq_true rfl) (CT.imp h (fun r s48 h => ?_))
        obtain ⟨x47, rfl, h⟩ := h
        show VV mL_law d sc 469 [some (.ref 102), some (.ref 0), some (.ref 11), some (.int v3)] [.int x47, .int x45] s48 (Qi K)
        refine v_icmp_eq (t := 754) (q := 472) dL_law_469 rfl (by decide) (fun c => ?_) (fun c => ?_)
        · have h := h.1 (c)
          refine v_iinc (y := (v3 + nI 4)) (q := 757) dL_law_754 rfl rfl (congrArg (fun z => v3 + z) (by decide)) (by decide) rfl ?_
          refine v_goto (q := 18) dL_law_757 (by decide) ?_
          exact h
        · have h := h.2 (c)
          refine v_iconst (v := (nI 0)) (q := 473) dL_law_472 rfl (by decide) ?_
          exact v_zret dL_law_473 rfl (by decide) ⟨_, rfl, h⟩
      · have h := h.2.2.2.2.2.2.2.2.2.2.2.2.1 c
        refine v_aload_n (q := 475) dL_law_474 rfl rfl ?_
        refine v_aload_n (q := 476) dL_law_475 rfl rfl ?_
        refine v_iload_n (q := 477) dL_law_476 rfl rfl ?_
        refine v_iconst (v := (nI 1)) (q := 478) dL_law_477 rfl (by decide) ?_
        refine v_iadd (q := 479) dL_law_478 rfl ?_
        refine v_sld (q := 480) rfl dL_law_479 rfl h.1 ?_
        have h := h.2
        refine v_callV (As := [.int (sc.2 (v3 + (nI 1)).toNatClampNeg)]) (n := 1) (q := 483) dL_law_480 rfl lk_8_65 hd1 rfl rfl (Nat.le_of_ble_eq_true rfl) (CT.imp h (fun r s50 h => ?_))
        obtain ⟨x49, rfl, h⟩ := h
        show VV mL_law d sc 483 [some (.ref 102), some (.ref 0), some (.ref 11), some (.int v3)] [.int x49] s50 (Qi K)
        refine v_aload_n (q := 484) dL_law_483 rfl rfl ?_
        refine v_aload_n (q := 485) dL_law_484 rfl rfl ?_
        refine v_iload_n (q := 486) dL_law_485 rfl rfl ?_
        refine v_iconst (v := (nI 1)) (q := 487) dL_law_486 rfl (by decide) ?_
        refine v_iadd (q := 488) dL_law_487 rfl ?_
        refine v_sld (q := 489) rfl dL_law_488 rfl h.1 ?_
        have h := h.2
        refine v_callV (As := [.int (sc.2 (v3 + (nI 1)).toNatClampNeg)]) (n := 1) (q := 492) dL_law_489 rfl lk_8_68 hd1 rfl rfl (Nat.le_of_ble_eq_true rfl) (CT.imp h (fun r s52 h => ?_))
        obtain ⟨x51, rfl, h⟩ := h
        show VV mL_law d sc 492 [some (.ref 102), some (.ref 0), some (.ref 11), some (.int v3)] [.int x51, .int x49] s52 (Qi K)
        refine v_icmp_eq (t := 754) (q := 495) dL_law_492 rfl (by decide) (fun c => ?_) (fun c => ?_)
        · have h := h.1 (c)
          refine v_iinc (y := (v3 + nI 4)) (q := 757) dL_law_754 rfl rfl (congrArg (fun z => v3 + z) (by decide)) (by decide) rfl ?_
          refine v_goto (q := 18) dL_law_757 (by decide) ?_
          exact h
        · have h := h.2 (c)
          refine v_iconst (v := (nI 0)) (q := 496) dL_law_495 rfl (by decide) ?_
          exact v_zret dL_law_496 rfl (by decide) ⟨_, rfl, h⟩
      · have h := h.2.2.2.2.2.2.2.2.2.2.2.2.2.1 c
        refine v_aload_n (q := 498) dL_law_497 rfl rfl ?_
        refine v_aload_n (q := 499) dL_law_498 rfl rfl ?_
        refine v_iload_n (q := 500) dL_law_499 rfl rfl ?_
        refine v_iconst (v := (nI 1)) (q := 501) dL_law_500 rfl (by decide) ?_
        refine v_iadd (q := 502) dL_law_501 rfl ?_
        refine v_sld (q := 503) rfl dL_law_502 rfl h.1 ?_
        have h := h.2
        refine v_callV (As := [.int (sc.2 (v3 + (nI 1)).toNatClampNeg)]) (n := 1) (q := 506) dL_law_503 rfl lk_8_69 hd1 rfl rfl (Nat.le_of_ble_eq_true rfl) (CT.imp h (fun r s54 h => ?_))
        obtain ⟨x53, rfl, h⟩ := h
        show VV mL_law d sc 506 [some (.ref 102), some (.ref 0), some (.ref 11), some (.int v3)] [.int x53] s54 (Qi K)
        refine v_aload_n (q := 507) dL_law_506 rfl rfl ?_
        refine v_aload_n (q := 508) dL_law_507 rfl rfl ?_
        refine v_iload_n (q := 509) dL_law_508 rfl rfl ?_
        refine v_iconst (v := (nI 1)) (q := 510) dL_law_509 rfl (by decide) ?_
        refine v_iadd (q := 511) dL_law_510 rfl ?_
        refine v_sld (q := 512) rfl dL_law_511 rfl h.1 ?_
        have h := h.2
        refine v_callV (As := [.int (sc.2 (v3 + (nI 1)).toNatClampNeg)]) (n := 1) (q := 515) dL_law_512 rfl lk_8_72 hd1 rfl rfl (Nat.le_of_ble_eq_true rfl) (CT.imp h (fun r s56 h => ?_))
        obtain ⟨x55, rfl, h⟩ := h
        show VV mL_law d sc 515 [some (.ref 102), some (.ref 0), some (.ref 11), some (.int v3)] [.int x55, .int x53] s56 (Qi K)
        refine v_icmp_eq (t := 754) (q := 518) dL_law_515 rfl (by decide) (fun c => ?_) (fun c => ?_)
        · have h := h.1 (c)
          refine v_iinc (y := (v3 + nI 4)) (q := 757) dL_law_754 rfl rfl (congrArg (fun z => v3 + z) (by decide)) (by decide) rfl ?_
          refine v_goto (q := 18) dL_law_757 (by decide) ?_
          exact h
        · have h := h.2 (c)
          refine v_iconst (v := (nI 0)) (q := 519) dL_law_518 rfl (by decide) ?_
          exact v_zret dL_law_519 rfl (by decide) ⟨_, rfl, h⟩
      · have h := h.2.2.2.2.2.2.2.2.2.2.2.2.2.2.1 c
        refine v_aload_n (q := 521) dL_law_520 rfl rfl ?_
        refine v_aload_n (q := 522) dL_law_521 rfl rfl ?_
        refine v_iload_n (q := 523) dL_law_522 rfl rfl ?_
        refine v_iconst (v := (nI 1)) (q := 524) dL_law_523 rfl (by decide) ?_
        refine v_iadd (q := 525) dL_law_524 rfl ?_
        refine v_sld (q := 526) rfl dL_law_525 rfl h.1 ?_
        have h := h.2
        refine v_aload_n (q := 527) dL_law_526 rfl rfl ?_
        refine v_iload_n (q := 528) dL_law_527 rfl rfl ?_
        refine v_iconst (v := (nI 2)) (q := 529) dL_law_528 rfl (by decide) ?_
        refine v_iadd (q := 530) dL_law_529 rfl ?_
        refine v_sld (q := 531) rfl dL_law_530 rfl h.1 ?_
        have h := h.2
        refine v_callV (As := [.int (sc.2 (v3 + (nI 1)).toNatClampNeg), .int (sc.2 (v3 + (nI 2)).toNatClampNeg)]) (n := 2) (q := 534) dL_law_531 rfl lk_8_73 hd1 rfl rfl (Nat.le_of_ble_eq_true rfl) (CT.imp h (fun r s58 h => ?_))
        obtain ⟨x57, rfl, h⟩ := h
        show VV mL_law d sc 534 [some (.ref 102), some (.ref 0), some (.ref 11), some (.int v3)] [.int x57] s58 (Qi K)
        refine v_aload_n (q := 535) dL_law_534 rfl rfl ?_
        refine v_aload_n (q := 536) dL_law_535 rfl rfl ?_
        refine v_iload_n (q := 537) dL_law_536 rfl rfl ?_
        refine v_iconst (v := (nI 1)) (q := 538) dL_law_537 rfl (by decide) ?_
        refine v_iadd (q := 539) dL_law_538 rfl ?_
        refine v_sld (q := 540) rfl dL_law_539 rfl h.1 ?_
        have h := h.2
        refine v_aload_n (q := 541) dL_law_540 rfl rfl ?_
        refine v_iload_n (q := 542) dL_law_541 rfl rfl ?_
        refine v_iconst (v := (nI 2)) (q := 543) dL_law_542 rfl (by decide) ?_
        refine v_iadd (q := 544) dL_law_543 rfl ?_
        refine v_sld (q := 545) rfl dL_law_544 rfl h.1 ?_
        have h := h.2
        refine v_callV (As := [.int (sc.2 (v3 + (nI 1)).toNatClampNeg), .int (sc.2 (v3 + (nI 2)).toNatClampNeg)]) (n := 2) (q := 548) dL_law_545 rfl lk_8_76 hd1 rfl rfl (Nat.le_of_ble_eq_true rfl) (CT.imp h (fun r s60 h => ?_))
        obtain ⟨x59, rfl, h⟩ := h
        show VV mL_law d sc 548 [some (.ref 102), some (.ref 0), some (.ref 11), some (.int v3)] [.int x59, .int x57] s60 (Qi K)
        refine v_icmp_eq (t := 754) (q := 551) dL_law_548 rfl (by decide) (fun c => ?_) (fun c => ?_)
        · have h := h.1 (c)
          refine v_iinc (y := (v3 + nI 4)) (q := 757) dL_law_754 rfl rfl (congrArg (fun z => v3 + z) (by decide)) (by decide) rfl ?_
          refine v_goto (q := 18) dL_law_757 (by decide) ?_
          exact h
        · have h := h.2 (c)
          refine v_iconst (v := (nI 0)) (q := 552) dL_law_551 rfl (by decide) ?_
          exact v_zret dL_law_552 rfl (by decide) ⟨_, rfl, h⟩
      · have h := h.2.2.2.2.2.2.2.2.2.2.2.2.2.2.2.1 c
        refine v_aload_n (q := 554) dL_law_553 rfl rfl ?_
        refine v_aload_n (q := 555) dL_law_554 rfl rfl ?_
        refine v_iload_n (q := 556) dL_law_555 rfl rfl ?_
        refine v_iconst (v := (nI 1)) (q := 557) dL_law_556 rfl (by decide) ?_
        refine v_iadd (q := 558) dL_law_557 rfl ?_
        refine v_sld (q := 559) rfl dL_law_558 rfl h.1 ?_
        have h := h.2
        refine v_callV (As := [.int (sc.2 (v3 + (nI 1)).toNatClampNeg)]) (n := 1) (q := 562) dL_law_559 rfl lk_8_77 hd1 rfl rfl (Nat.le_of_ble_eq_true rfl) (CT.imp h (fun r s62 h => ?_))
        obtain ⟨x61, rfl, h⟩ := h
        show VV mL_law d sc 562 [some (.ref 102), some (.ref 0), some (.ref 11), some (.int v3)] [.int x61] s62 (Qi K)
        refine v_aload_n (q := 563) dL_law_562 rfl rfl ?_
        refine v_aload_n (q := 564) dL_law_563 rfl rfl ?_
        refine v_iload_n (q := 565) dL_law_564 rfl rfl ?_
        refine v_iconst (v := (nI 1)) (q := 566) dL_law_565 rfl (by decide) ?_
        refine v_iadd (q := 567) dL_law_566 rfl ?_
        refine v_sld (q := 568) rfl dL_law_567 rfl h.1 ?_
        have h := h.2
        refine v_callV (As := [.int (sc.2 (v3 + (nI 1)).toNatClampNeg)]) (n := 1) (q := 571) dL_law_568 rfl lk_8_80 hd1 rfl rfl (Nat.le_of_ble_eq_true rfl) (CT.imp h (fun r s64 h => ?_))
        obtain ⟨x63, rfl, h⟩ := h
        show VV mL_law d sc 571 [some (.ref 102), some (.ref 0), some (.ref 11), some (.int v3)] [.int x63, .int x61] s64 (Qi K)
        refine v_icmp_eq (t := 754) (q := 574) dL_law_571 rfl (by decide) (fun c => ?_) (fun c => ?_)
        · have h := h.1 (c)
          refine v_iinc (y := (v3 + nI 4)) (q := 757) dL_law_754 rfl rfl (congrArg (fun z => v3 + z) (by decide)) (by decide) rfl ?_
          refine v_goto (q := 18) dL_law_757 (by decide) ?_
          exact h
        · have h := h.2 (c)
          refine v_iconst (v := (nI 0)) (q := 575) dL_law_574 rfl (by decide) ?_
          exact v_zret dL_law_575 rfl (by decide) ⟨_, rfl, h⟩
      · have h := h.2.2.2.2.2.2.2.2.2.2.2.2.2.2.2.2.1 c
        refine v_aload_n (q := 577) dL_law_576 rfl rfl ?_
        refine v_aload_n (q := 578) dL_law_577 rfl rfl ?_
        refine v_iload_n (q := 579) dL_law_578 rfl rfl ?_
        refine v_iconst (v := (nI 1)) (q := 580) dL_law_579 rfl (by decide) ?_
        refine v_iadd (q := 581) dL_law_580 rfl ?_
        refine v_sld (q := 582) rfl dL_law_581 rfl h.1 ?_
        have h := h.2
        refine v_callV (As := [.int (sc.2 (v3 + (nI 1)).toNatClampNeg)]) (n := 1) (q := 585) dL_law_582 rfl lk_8_81 hd1 rfl rfl (Nat.le_of_ble_eq_true rfl) (CT.imp h (fun r s66 h => ?_))
        obtain ⟨x65, rfl, h⟩ := h
        show VV mL_law d sc 585 [some (.ref 102), some (.ref 0), some (.ref 11), some (.int v3)] [.int x65] s66 (Qi K)
        refine v_aload_n (q := 586) dL_law_585 rfl rfl ?_
        refine v_aload_n (q := 587) dL_law_586 rfl rfl ?_
        refine v_iload_n (q := 588) dL_law_587 rfl rfl ?_
        refine v_iconst (v := (nI 1)) (q := 589) dL_law_588 rfl (by decide) ?_
        refine v_iadd (q := 590) dL_law_589 rfl ?_
        refine v_sld (q := 591) rfl dL_law_590 rfl h.1 ?_
        have h := h.2
        refine v_callV (As := [.int (sc.2 (v3 + (nI 1)).toNatClampNeg)]) (n := 1) (q := 594) dL_law_591 rfl lk_8_84 hd1 rfl rfl (Nat.le_of_ble_eq_true rfl) (CT.imp h (fun r s68 h => ?_))
        obtain ⟨x67, rfl, h⟩ := h
        show VV mL_law d sc 594 [some (.ref 102), some (.ref 0), some (.ref 11), some (.int v3)] [.int x67, .int x65] s68 (Qi K)
        refine v_icmp_eq (t := 754) (q := 597) dL_law_594 rfl (by decide) (fun c => ?_) (fun c => ?_)
        · have h := h.1 (c)
          refine v_iinc (y := (v3 + nI 4)) (q := 757) dL_law_754 rfl rfl (congrArg (fun z => v3 + z) (by decide)) (by decide) rfl ?_
          refine v_goto (q := 18) dL_law_757 (by decide) ?_
          exact h
        · have h := h.2 (c)
          refine v_iconst (v := (nI 0)) (q := 598) dL_law_597 rfl (by decide) ?_
          exact v_zret dL_law_598 rfl (by decide) ⟨_, rfl, h⟩
      · have h := h.2.2.2.2.2.2.2.2.2.2.2.2.2.2.2.2.2.1 c
        refine v_aload_n (q := 600) dL_law_599 rfl rfl ?_
        refine v_aload_n (q := 601) dL_law_600 rfl rfl ?_
        refine v_iload_n (q := 602) dL_law_601 rfl rfl ?_
        refine v_iconst (v := (nI 1)) (q := 603) dL_law_602 rfl (by decide) ?_
        refine v_iadd (q := 604) dL_law_603 rfl ?_
        refine v_sld (q := 605) rfl dL_law_604 rfl h.1 ?_
        have h := h.2
        refine v_callV (As := [.int (sc.2 (v3 + (nI 1)).toNatClampNeg)]) (n := 1) (q := 608) dL_law_605 rfl lk_8_85 hd1 rfl rfl (Nat.le_of_ble_eq_true rfl) (CT.imp h (fun r s70 h => ?_))
        obtain ⟨x69, rfl, h⟩ := h
        show VV mL_law d sc 608 [some (.ref 102), some (.ref 0), some (.ref 11), some (.int v3)] [.int x69] s70 (Qi K)
        refine v_aload_n (q := 609) dL_law_608 rfl rfl ?_
        refine v_aload_n (q := 610) dL_law_609 rfl rfl ?_
        refine v_iload_n (q := 611) dL_law_610 rfl rfl ?_
        refine v_iconst (v := (nI 1)) (q := 612) dL_law_611 rfl (by decide) ?_
        refine v_iadd (q := 613) dL_law_612 rfl ?_
        refine v_sld (q := 614) rfl dL_law_613 rfl h.1 ?_
        have h := h.2
        refine v_callV (As := [.int (sc.2 (v3 + (nI 1)).toNatClampNeg)]) (n := 1) (q := 617) dL_law_614 rfl lk_8_88 hd1 rfl rfl (Nat.le_of_ble_eq_true rfl) (CT.imp h (fun r s72 h => ?_))
        obtain ⟨x71, rfl, h⟩ := h
        show VV mL_law d sc 617 [some (.ref 102), some (.ref 0), some (.ref 11), some (.int v3)] [.int x71, .int x69] s72 (Qi K)
        refine v_icmp_eq (t := 754) (q := 620) dL_law_617 rfl (by decide) (fun c => ?_) (fun c => ?_)
        · have h := h.1 (c)
          refine v_iinc (y := (v3 + nI 4)) (q := 757) dL_law_754 rfl rfl (congrArg (fun z => v3 + z) (by decide)) (by decide) rfl ?_
          refine v_goto (q := 18) dL_law_757 (by decide) ?_
          exact h
        · have h := h.2 (c)
          refine v_iconst (v := (nI 0)) (q := 621) dL_law_620 rfl (by decide) ?_
          exact v_zret dL_law_621 rfl (by decide) ⟨_, rfl, h⟩
      · have h := h.2.2.2.2.2.2.2.2.2.2.2.2.2.2.2.2.2.2.1 c
        refine v_aload_n (q := 623) dL_law_622 rfl rfl ?_
        refine v_aload_n (q := 624) dL_law_623 rfl rfl ?_
        refine v_iload_n (q := 625) dL_law_624 rfl rfl ?_
        refine v_iconst (v := (nI 1)) (q := 626) dL_law_625 rfl (by decide) ?_
        refine v_iadd (q := 627) dL_law_626 rfl ?_
        refine v_sld (q := 628) rfl dL_law_627 rfl h.1 ?_
        have h := h.2
        refine v_callV (As := [.int (sc.2 (v3 + (nI 1)).toNatClampNeg)]) (n := 1) (q := 631) dL_law_628 rfl lk_8_89 hd1 rfl rfl (Nat.le_of_ble_eq_true rfl) (CT.imp h (fun r s74 h => ?_))
        obtain ⟨x73, rfl, h⟩ := h
        show VV mL_law d sc 631 [some (.ref 102), some (.ref 0), some (.ref 11), some (.int v3)] [.int x73] s74 (Qi K)
        refine v_aload_n (q := 632) dL_law_631 rfl rfl ?_
        refine v_aload_n (q := 633) dL_law_632 rfl rfl ?_
        refine v_iload_n (q := 634) dL_law_633 rfl rfl ?_
        refine v_iconst (v := (nI 1)) (q := 635) dL_law_634 rfl (by decide) ?_
        refine v_iadd (q := 636) dL_law_635 rfl ?_
        refine v_sld (q := 637) rfl dL_law_636 rfl h.1 ?_
        have h := h.2
        refine v_callV (As := [.int (sc.2 (v3 + (nI 1)).toNatClampNeg)]) (n := 1) (q := 640) dL_law_637 rfl lk_8_92 hd1 rfl rfl (Nat.le_of_ble_eq_true rfl) (CT.imp h (fun r s76 h => ?_))
        obtain ⟨x75, rfl, h⟩ := h
        show VV mL_law d sc 640 [some (.ref 102), some (.ref 0), some (.ref 11), some (.int v3)] [.int x75, .int x73] s76 (Qi K)
        refine v_icmp_eq (t := 754) (q := 643) dL_law_640 rfl (by decide) (fun c => ?_) (fun c => ?_)
        · have h := h.1 (c)
          refine v_iinc (y := (v3 + nI 4)) (q := 757) dL_law_754 rfl rfl (congrArg (fun z => v3 + z) (by decide)) (by decide) rfl ?_
          refine v_goto (q := 18) dL_law_757 (by decide) ?_
          exact h
        · have h := h.2 (c)
          refine v_iconst (v := (nI 0)) (q := 644) dL_law_643 rfl (by decide) ?_
          exact v_zret dL_law_644 rfl (by decide) ⟨_, rfl, h⟩
      · have h := h.2.2.2.2.2.2.2.2.2.2.2.2.2.2.2.2.2.2.2.1 c
        refine v_aload_n (q := 646) dL_law_645 rfl rfl ?_
        refine v_aload_n (q := 647) dL_law_646 rfl rfl ?_
        refine v_iload_n (q := 648) dL_law_647 rfl rfl ?_
        refine v_iconst (v := (nI 1)) (q := 649) dL_law_648 rfl (by decide) ?_
        refine v_iadd (q := 650) dL_law_649 rfl ?_
        refine v_sld (q := 651) rfl dL_law_650 rfl h.1 ?_
        have h := h.2
        refine v_aload_n (q := 652) dL_law_651 rfl rfl ?_
        refine v_iload_n (q := 653) dL_law_652 rfl rfl ?_
        refine v_iconst (v := (nI 2)) (q := 654) dL_law_653 rfl (by decide) ?_
        refine v_iadd (q := 655) dL_law_654 rfl ?_
        refine v_sld (q := 656) rfl dL_law_655 rfl h.1 ?_
        have h := h.2
        refine v_callV (As := [.int (sc.2 (v3 + (nI 1)).toNatClampNeg), .int (sc.2 (v3 + (nI 2)).toNatClampNeg)]) (n := 2) (q := 659) dL_law_656 rfl lk_8_93 hd1 rfl rfl (Nat.le_of_ble_eq_true rfl) (CT.imp h (fun r s78 h => ?_))
        obtain ⟨x77, rfl, h⟩ := h
        show VV mL_law d sc 659 [some (.ref 102), some (.ref 0), some (.ref 11), some (.int v3)] [.int x77] s78 (Qi K)
        refine v_aload_n (q := 660) dL_law_659 rfl rfl ?_
        refine v_aload_n (q := 661) dL_law_660 rfl rfl ?_
        refine v_iload_n (q := 662) dL_law_661 rfl rfl ?_
        refine v_iconst (v := (nI 1)) (q := 663) dL_law_662 rfl (by decide) ?_
        refine v_iadd (q := 664) dL_law_663 rfl ?_
        refine v_sld (q := 665) rfl dL_law_664 rfl h.1 ?_
        have h := h.2
        refine v_aload_n (q := 666) dL_law_665 rfl rfl ?_
        refine v_iload_n (q := 667) dL_law_666 rfl rfl ?_
        refine v_iconst (v := (nI 2)) (q := 668) dL_law_667 rfl (by decide) ?_
        refine v_iadd (q := 669) dL_law_668 rfl ?_
        refine v_sld (q := 670) rfl dL_law_669 rfl h.1 ?_
        have h := h.2
        refine v_callV (As := [.int (sc.2 (v3 + (nI 1)).toNatClampNeg), .int (sc.2 (v3 + (nI 2)).toNatClampNeg)]) (n := 2) (q := 673) dL_law_670 rfl lk_8_96 hd1 rfl rfl (Nat.le_of_ble_eq_true rfl) (CT.imp h (fun r s80 h => ?_))
        obtain ⟨x79, rfl, h⟩ := h
        show VV mL_law d sc 673 [some (.ref 102), some (.ref 0), some (.ref 11), some (.int v3)] [.int x79, .int x77] s80 (Qi K)
        refine v_icmp_eq (t := 754) (q := 676) dL_law_673 rfl (by decide) (fun c => ?_) (fun c => ?_)
        · have h := h.1 (c)
          refine v_iinc (y := (v3 + nI 4)) (q := 757) dL_law_754 rfl rfl (congrArg (fun z => v3 + z) (by decide)) (by decide) rfl ?_
          refine v_goto (q := 18) dL_law_757 (by decide) ?_
          exact h
        · have h := h.2 (c)
          refine v_iconst (v := (nI 0)) (q := 677) dL_law_676 rfl (by decide) ?_
          exact v_zret dL_law_677 rfl (by decide) ⟨_, rfl, h⟩
      · have h := h.2.2.2.2.2.2.2.2.2.2.2.2.2.2.2.2.2.2.2.2.1 c
        refine v_aload_n (q := 679) dL_law_678 rfl rfl ?_
        refine v_aload_n (q := 680) dL_law_679 rfl rfl ?_
        refine v_iload_n (q := 681) dL_law_680 rfl rfl ?_
        refine v_iconst (v := (nI 1)) (q := 682) dL_law_681 rfl (by decide) ?_
        refine v_iadd (q := 683) dL_law_682 rfl ?_
        refine v_sld (q := 684) rfl dL_law_683 rfl h.1 ?_
        have h := h.2
        refine v_callV (As := [.int (sc.2 (v3 + (nI 1)).toNatClampNeg)]) (n := 1) (q := 687) dL_law_684 rfl lk_8_97 hd1 rfl rfl (Nat.le_of_ble_eq_true rfl) (CT.imp h (fun r s82 h => ?_))
        obtain ⟨x81, rfl, h⟩ := h
        show VV mL_law d sc 687 [some (.ref 102), some (.ref 0), some (.ref 11), some (.int v3)] [.int x81] s82 (Qi K)
        refine v_aload_n (q := 688) dL_law_687 rfl rfl ?_
        refine v_aload_n (q := 689) dL_law_688 rfl rfl ?_
        refine v_iload_n (q := 690) dL_law_689 rfl rfl ?_
        refine v_iconst (v := (nI 1)) (q := 691) dL_law_690 rfl (by decide) ?_
        refine v_iadd (q := 692) dL_law_691 rfl ?_
        refine v_sld (q := 693) rfl dL_law_692 rfl h.1 ?_
        have h := h.2
        refine v_callV (As := [.int (sc.2 (v3 + (nI 1)).toNatClampNeg)]) (n := 1) (q := 696) dL_law_693 rfl lk_8_100 hd1 rfl rfl (Nat.le_of_ble_eq_true rfl) (CT.imp h (fun r s84 h => ?_))
        obtain ⟨x83, rfl, h⟩ := h
        show VV mL_law d sc 696 [some (.ref 102), some (.ref 0), some (.ref 11), some (.int v3)] [.int x83, .int x81] s84 (Qi K)
        refine v_icmp_eq (t := 754) (q := 699) dL_law_696 rfl (by decide) (fun c => ?_) (fun c => ?_)
        · have h := h.1 (c)
          refine v_iinc (y := (v3 + nI 4)) (q := 757) dL_law_754 rfl rfl (congrArg (fun z => v3 + z) (by decide)) (by decide) rfl ?_
          refine v_goto (q := 18) dL_law_757 (by decide) ?_
          exact h
        · have h := h.2 (c)
          refine v_iconst (v := (nI 0)) (q := 700) dL_law_699 rfl (by decide) ?_
          exact v_zret dL_law_700 rfl (by decide) ⟨_, rfl, h⟩
      · have h := h.2.2.2.2.2.2.2.2.2.2.2.2.2.2.2.2.2.2.2.2.2.1 c
        refine v_aload_n (q := 702) dL_law_701 rfl rfl ?_
        refine v_callV (As := []) (n := 0) (q := 705) dL_law_702 rfl lk_8_101 hd1 rfl rfl (Nat.le_of_ble_eq_true rfl) (CT.imp h (fun r s86 h => ?_))
        obtain ⟨x85, rfl, h⟩ := h
        show VV mL_law d sc 705 [some (.ref 102), some (.ref 0), some (.ref 11), some (.int v3)] [.int x85] s86 (Qi K)
        refine v_aload_n (q := 706) dL_law_705 rfl rfl ?_
        refine v_callV (As := []) (n := 0) (q := 709) dL_law_706 rfl lk_8_104 hd1 rfl rfl (Nat.le_of_ble_eq_true rfl) (CT.imp h (fun r s88 h => ?_))
        obtain ⟨x87, rfl, h⟩ := h
        show VV mL_law d sc 709 [some (.ref 102), some (.ref 0), some (.ref 11), some (.int v3)] [.int x87, .int x85] s88 (Qi K)
        refine v_icmp_eq (t := 754) (q := 712) dL_law_709 rfl (by decide) (fun c => ?_) (fun c => ?_)
        · have h := h.1 (c)
          refine v_iinc (y := (v3 + nI 4)) (q := 757) dL_law_754 rfl rfl (congrArg (fun z => v3 + z) (by decide)) (by decide) rfl ?_
          refine v_goto (q := 18) dL_law_757 (by decide) ?_
          exact h
        · have h := h.2 (c)
          refine v_iconst (v := (nI 0)) (q := 713) dL_law_712 rfl (by decide) ?_
          exact v_zret dL_law_713 rfl (by decide) ⟨_, rfl, h⟩
      · have h := h.2.2.2.2.2.2.2.2.2.2.2.2.2.2.2.2.2.2.2.2.2.2.1 c
        refine v_aload_n (q := 715) dL_law_714 rfl rfl ?_
        refine v_callV (As := []) (n := 0) (q := 718) dL_law_715 rfl lk_8_105 hd1 rfl rfl (Nat.le_of_ble_eq_true rfl) (CT.imp h (fun r s90 h => ?_))
        obtain ⟨x89, rfl, h⟩ := h
        show VV mL_law d sc 718 [some (.ref 102), some (.ref 0), some (.ref 11), some (.int v3)] [.int x89] s90 (Qi K)
        refine v_aload_n (q := 719) dL_law_718 rfl rfl ?_
        refine v_callV (As := []) (n := 0) (q := 722) dL_law_719 rfl lk_8_108 hd1 rfl rfl (Nat.le_of_ble_eq_true rfl) (CT.imp h (fun r s92 h => ?_))
        obtain ⟨x91, rfl, h⟩ := h
        show VV mL_law d sc 722 [some (.ref 102), some (.ref 0), some (.ref 11), some (.int v3)] [.int x91, .int x89] s92 (Qi K)
        refine v_icmp_eq (t := 754) (q := 725) dL_law_722 rfl (by decide) (fun c => ?_) (fun c => ?_)
        · have h := h.1 (c)
          refine v_iinc (y := (v3 + nI 4)) (q := 757) dL_law_754 rfl rfl (congrArg (fun z => v3 + z) (by decide)) (by decide) rfl ?_
          refine v_goto (q := 18) dL_law_757 (by decide) ?_
          exact h
        · have h := h.2 (c)
          refine v_iconst (v := (nI 0)) (q := 726) dL_law_725 rfl (by decide) ?_
          exact v_zret dL_law_726 rfl (by decide) ⟨_, rfl, h⟩
      · have h := h.2.2.2.2.2.2.2.2.2.2.2.2.2.2.2.2.2.2.2.2.2.2.2.1 c
        refine v_aload_n (q := 728) dL_law_727 rfl rfl ?_
        refine v_callV (As := []) (n := 0) (q := 731) dL_law_728 rfl lk_8_109 hd1 rfl rfl (Nat.le_of_ble_eq_true rfl) (CT.imp h (fun r s94 h => ?_))
        obtain ⟨x93, rfl, h⟩ := h
        show VV mL_law d sc 731 [some (.ref 102), some (.ref 0), some (.ref 11), some (.int v3)] [.int x93] s94 (Qi K)
        refine v_aload_n (q := 732) dL_law_731 rfl rfl ?_
        refine v_callV (As := []) (n := 0) (q := 735) dL_law_732 rfl lk_8_112 hd1 rfl rfl (Nat.le_of_ble_eq_true rfl) (CT.imp h (fun r s96 h => ?_))
        obtain ⟨x95, rfl, h⟩ := h
        show VV mL_law d sc 735 [some (.ref 102), some (.ref 0), some (.ref 11), some (.int v3)] [.int x95, .int x93] s96 (Qi K)
        refine v_icmp_eq (t := 754) (q := 738) dL_law_735 rfl (by decide) (fun c => ?_) (fun c => ?_)
        · have h := h.1 (c)
          refine v_iinc (y := (v3 + nI 4)) (q := 757) dL_law_754 rfl rfl (congrArg (fun z => v3 + z) (by decide)) (by decide) rfl ?_
          refine v_goto (q := 18) dL_law_757 (by decide) ?_
          exact h
        · have h := h.2 (c)
          refine v_iconst (v := (nI 0)) (q := 739) dL_law_738 rfl (by decide) ?_
          exact v_zret dL_law_739 rfl (by decide) ⟨_, rfl, h⟩
      · have h := h.2.2.2.2.2.2.2.2.2.2.2.2.2.2.2.2.2.2.2.2.2.2.2.2.1 c
        refine v_aload_n (q := 741) dL_law_740 rfl rfl ?_
        refine v_callV (As := []) (n := 0) (q := 744) dL_law_741 rfl lk_8_113 hd1 rfl rfl (Nat.le_of_ble_eq_true rfl) (CT.imp h (fun r s98 h => ?_))
        obtain ⟨x97, rfl, h⟩ := h
        show VV mL_law d sc 744 [some (.ref 102), some (.ref 0), some (.ref 11), some (.int v3)] [.long x97] s98 (Qi K)
        refine v_aload_n (q := 745) dL_law_744 rfl rfl ?_
        refine v_callV (As := []) (n := 0) (q := 748) dL_law_745 rfl lk_8_117 hd1 rfl rfl (Nat.le_of_ble_eq_true rfl) (CT.imp h (fun r s100 h => ?_))
        obtain ⟨x99, rfl, h⟩ := h
        show VV mL_law d sc 748 [some (.ref 102), some (.ref 0), some (.ref 11), some (.int v3)] [.long x99, .long x97] s100 (Qi K)
        refine v_lcmp (q := 749) dL_law_748 rfl ?_
        refine v_if_eq (t := 754) (q := 752) dL_law_749 rfl (by decide) (fun c => ?_) (fun c => ?_)
        · have h := h.1 (c)
          refine v_iinc (y := (v3 + nI 4)) (q := 757) dL_law_754 rfl rfl (congrArg (fun z => v3 + z) (by decide)) (by decide) rfl ?_
          refine v_goto (q := 18) dL_law_757 (by decide) ?_
          exact h
        · have h := h.2 (c)
          refine v_iconst (v := (nI 0)) (q := 753) dL_law_752 rfl (by decide) ?_
          exact v_zret dL_law_753 rfl (by decide) ⟨_, rfl, h⟩
    · have h := h.2.2.2.2.2.2.2.2.2.2.2.2.2.2.2.2.2.2.2.2.2.2.2.2.2 c
      refine v_iinc (y := (v3 + nI 4)) (q := 757) dL_law_754 rfl rfl (congrArg (fun z => v3 + z) (by decide)) (by decide) rfl ?_
      refine v_goto (q := 18) dL_law_757 (by decide) ?_
      exact h
