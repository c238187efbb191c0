/-! THE LOOP OF THE LAW -/
section LAW
variable {σ : SS} {K : Int32 → SS → Prop} {G : SS → Prop}
theorem st0 {MA MB : MD} {as : List Value} (hE : E2 MA MB as σ) (IH : ∀ s, RR s → G s) : CTi MA 7 (.ref 0 :: as) σ (fun x1 s2 => CTi MB 7 (.ref 11 :: as) s2 (fun x3 s4 => ((x1 = x3) → G s4) ∧ ((¬ x1 = x3) → K (nI 0) s4))) :=
  CTi.imp hE (fun _ _ h => CTi.imp h (fun _ s4 h => ⟨fun _ => IH s4 h.2, fun n => absurd h.1 n⟩))
theorem st1 {P1 : Prop} {MA MB : MD} {as : List Value} (h1 : P1) (hE : E2 MA MB as σ) (IH : ∀ s, RR s → G s) : P1 ∧ CTi MA 7 (.ref 0 :: as) σ (fun x1 s2 => P1 ∧ CTi MB 7 (.ref 11 :: as) s2 (fun x3 s4 => ((x1 = x3) → G s4) ∧ ((¬ x1 = x3) → K (nI 0) s4))) :=
  ⟨h1, CTi.imp hE (fun _ _ h => ⟨h1, CTi.imp h (fun _ s4 h => ⟨fun _ => IH s4 h.2, fun n => absurd h.1 n⟩)⟩)⟩
theorem st2 {P1 P2 : Prop} {MA MB : MD} {as : List Value} (h1 : P1) (h2 : P2) (hE : E2 MA MB as σ) (IH : ∀ s, RR s → G s) : P1 ∧ P2 ∧ CTi MA 7 (.ref 0 :: as) σ (fun x1 s2 => P1 ∧ P2 ∧ CTi MB 7 (.ref 11 :: as) s2 (fun x3 s4 => ((x1 = x3) → G s4) ∧ ((¬ x1 = x3) → K (nI 0) s4))) :=
  ⟨h1, h2, CTi.imp hE (fun _ _ h => ⟨h1, h2, CTi.imp h (fun _ s4 h => ⟨fun _ => IH s4 h.2, fun n => absurd h.1 n⟩)⟩)⟩
theorem st3 {P1 P2 P3 : Prop} {MA MB : MD} {as : List Value} (h1 : P1) (h2 : P2) (h3 : P3) (hE : E2 MA MB as σ) (IH : ∀ s, RR s → G s) : P1 ∧ P2 ∧ P3 ∧ CTi MA 7 (.ref 0 :: as) σ (fun x1 s2 => P1 ∧ P2 ∧ P3 ∧ CTi MB 7 (.ref 11 :: as) s2 (fun x3 s4 => ((x1 = x3) → G s4) ∧ ((¬ x1 = x3) → K (nI 0) s4))) :=
  ⟨h1, h2, h3, CTi.imp hE (fun _ _ h => ⟨h1, h2, h3, CTi.imp h (fun _ s4 h => ⟨fun _ => IH s4 h.2, fun n => absurd h.1 n⟩)⟩)⟩
theorem lg_same (x : Int64) : lg_cmp x x = 0 := by
  unfold lg_cmp
  simp
theorem stl {MA MB : MD} {as : List Value} (hE : E2l MA MB as σ) (IH : ∀ s, RR s → G s) : CTl MA 7 (.ref 0 :: as) σ (fun x1 s2 => CTl MB 7 (.ref 11 :: as) s2 (fun x3 s4 => (((lg_cmp x1 x3) = 0) → G s4) ∧ ((¬ (lg_cmp x1 x3) = 0) → K (nI 0) s4))) :=
  CTl.imp hE (fun _ _ h => CTl.imp h (fun _ s4 h => ⟨fun _ => IH s4 h.2, fun n => absurd (by rw [h.1]; exact lg_same _) n⟩))
theorem law_loop {sc : Scr} (hL : sc.1 ≤ 2048) (k : ∀ s, RR s → K (nI 1) s) (h : RR σ) : VV mL_law 8 sc 18 [some (.ref 102), some (.ref 0), some (.ref 11), some (.int (nI 0))] [] σ (Qi K) := by
  refine down (P := fun t => ∀ σ, RR σ → VV mL_law 8 sc 18 [some (.ref 102), some (.ref 0), some (.ref 11), some (.int (nI (4 * t)))] [] σ (Qi K)) (sc.1 / 4) ?_ ?_ 0 (Nat.zero_le _) σ h
  · intro σ h
    refine bL_law_18 _ (by omega) ⟨fun _ => k σ h, fun c => ?_⟩
    exfalso
    apply c
    rw [Int32.lt_iff_toInt_lt, pk_sub_toInt (by omega) (by omega), nI_toInt (by omega)]
    omega
  · intro t ht ih σ h
    have e4 : nI (4 * t) + nI 4 = nI (4 * (t + 1)) := by rw [nI_add]; rfl
    have v0 : vp_in (nI (4 * t)) sc.1 := vp_in_nI (by omega) (by omega)
    have v1 : vp_in (nI (4 * t) + nI 1) sc.1 := by rw [nI_add]; exact vp_in_nI (by omega) (by omega)
    have v2 : vp_in (nI (4 * t) + nI 2) sc.1 := by rw [nI_add]; exact vp_in_nI (by omega) (by omega)
    have v3 : vp_in (nI (4 * t) + nI 3) sc.1 := by rw [nI_add]; exact vp_in_nI (by omega) (by omega)
    refine bL_law_18 _ (by omega) ⟨fun c => ?_, fun _ => ⟨v0, ?_⟩⟩
    · exfalso
      rw [Int32.lt_iff_toInt_lt, pk_sub_toInt (by omega) (by omega), nI_toInt (by omega)] at c
      omega
    rw [e4]
    exact ⟨fun _ => st0 (op_addMember h) ih, fun _ => st2 v1 v2 (op_setPrice h) ih, fun _ => st2 v1 v2 (op_set h) ih, fun _ => st1 v1 (op_count h) ih, fun _ => st2 v1 v2 (op_member h) ih, fun _ => st3 v1 v2 v3 (op_addPhrase h) ih, fun _ => st2 v1 v2 (op_phrase h) ih, fun _ => st2 v1 v2 (op_word h) ih, fun _ => st2 v1 v2 (op_score h) ih, fun _ => st0 (op_agreed h) ih, fun _ => st0 (op_match h) ih, fun _ => st1 v1 (op_alike h) ih, fun _ => st1 v1 (op_fee h) ih, fun _ => st1 v1 (op_use h) ih, fun _ => st2 v1 v2 (op_note h) ih, fun _ => st1 v1 (op_retract h) ih, fun _ => st1 v1 (op_wouldPayBack h) ih, fun _ => st1 v1 (op_pass h) ih, fun _ => st1 v1 (op_cheapest h) ih, fun _ => st2 v1 v2 (op_piece h) ih, fun _ => st1 v1 (op_type h) ih, fun _ => st0 (op_clearText h) ih, fun _ => st0 (op_textFault h) ih, fun _ => st0 (op_undo h) ih, fun _ => stl (op_digest h) ih, fun _ => ih σ h⟩
end LAW
