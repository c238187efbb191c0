/-! VC by program: the rows of each straight region, from its VC formula -/
def Sen (se w f : Nat) : Prop := (∀ σ : SS, obj se σ = some (1, [.ref w, .int (σ.2.1 f)])) ∧ fk se 1 = some f ∧ isI w ∧ al w = 10 ∧ ((se = 4 ∧ w = 32 ∧ f = 3) ∨ (se = 6 ∧ w = 14 ∧ f = 5) ∨ (se = 7 ∧ w = 15 ∧ f = 6))
theorem Sen4 : Sen 4 32 3 := ⟨fun _ => rfl, rfl, by unfold isI; omega, rfl, by omega⟩
theorem Sen6 : Sen 6 14 5 := ⟨fun _ => rfl, rfl, by unfold isI; omega, rfl, by omega⟩
theorem Sen7 : Sen 7 15 6 := ⟨fun _ => rfl, rfl, by unfold isI; omega, rfl, by omega⟩
theorem isI_d {p : Nat} (h : (decide (12 ≤ p) && (decide (p < 37) && !decide (p = 13))) = true) : isI p := by
  simp only [Bool.and_eq_true, decide_eq_true_eq, Bool.not_eq_true', decide_eq_false_iff_not] at h
  exact ⟨h.1, h.2.1, h.2.2⟩
theorem isI_s {i : Int32} (h : vp_in i 11) : isI (16 + i.toNatClampNeg) := by
  have : i.toNatClampNeg < 11 := Nat.not_le.mp fun q => h (Or.inr q)
  unfold isI
  omega
theorem al_s {i : Int32} (h : vp_in i 11) : al (16 + i.toNatClampNeg) = 11 := by
  have : i.toNatClampNeg < 11 := Nat.not_le.mp fun q => h (Or.inr q)
  unfold al
  rw [if_pos (by omega)]
theorem isI_h {p : Nat} (h : 27 ≤ p ∧ p < 31) : isI p := by
  unfold isI
  omega
theorem al_h {p : Nat} (h : 27 ≤ p ∧ p < 31) : al p = 654 := by
  unfold al
  rw [if_neg (by omega), if_pos h]
def Qi (K : Int32 → SS → Prop) : Option Value → SS → Prop := fun r σ' => ∃ x : Int32, r = some (.int x) ∧ K x σ'
def Ql (K : Int64 → SS → Prop) : Option Value → SS → Prop := fun r σ' => ∃ x : Int64, r = some (.long x) ∧ K x σ'
def Qv (K : SS → Prop) : Option Value → SS → Prop := fun r σ' => r = none ∧ K σ'
abbrev s00 : Scr := (0, fun _ => 0)
def msk : List Bool → List (Option Value) → List (Option Value)
  | [], L => L
  | _ :: _, [] => []
  | b :: bs, a :: r => (if b = true then a else none) :: msk bs r
theorem msk_len : ∀ (bs : List Bool) (L : List (Option Value)), (msk bs L).length = L.length
  | [], L => rfl
  | _ :: _, [] => rfl
  | b :: bs, a :: r => by
    show (msk bs r).length + 1 = r.length + 1
    rw [msk_len bs r]
theorem msk_get : ∀ (bs : List Bool) (L : List (Option Value)) (i : Nat) (v : Value), ldv i (msk bs L) = some v → ldv i L = some v
  | [], L, i, v, h => h
  | _ :: _, [], i, v, h => h
  | b :: bs, a :: r, 0, v, h => by
    have h : (if b = true then a else none) = some v := h
    cases b with
    | true => exact h
    | false => cases h
  | b :: bs, a :: r, i + 1, v, h => msk_get bs r i v h
theorem v_msk {M : MD} {d pc : Nat} {sc : Scr} {L : List (Option Value)} {st : List Value} {σ : SS} {Q : Option Value → SS → Prop} (bs : List Bool) (h : VV M d sc pc (msk bs L) st σ Q) : VV M d sc pc L st σ Q := by
  intro p l e R s m args below meth c D ad cI cZ cII A cells slots Z C hZ H locs ls hW hL
  exact h p l e R s m args below meth c D ad cI cZ cII A cells slots Z C hZ H locs ls hW ⟨(msk_len bs L).trans hL.1, hL.2.1, hL.2.2.1, fun i v hv => hL.2.2.2 i v (msk_get bs L i v hv)⟩
set_option maxRecDepth 20000 in
theorem bX2_at_0 {d : Nat} {σ : SS} {K : Int32 → SS → Prop} (p1 : Int32)   (h : ((p1 < 0) → (K (nI 0) σ)) ∧ ((¬ p1 < 0) → ((((nI 654) ≤ p1) → (K (nI 0) σ)) ∧ ((¬ (nI 654) ≤ p1) → ((vp_in p1 654) ∧ (K (σ.1 12 p1.toNatClampNeg) σ)))))) : VV0 mX2_at d s00 0 [some (.ref 1), some (.int p1)] [] σ (Qi K) := by
  refine v_iload_n (q := 1) dX2_at_0 rfl rfl ?_
  refine v_if_lt (t := 20) (q := 4) dX2_at_1 rfl (by decide) (fun c => ?_) (fun c => ?_)
  · have h := h.1 (c)
    refine v_iconst (v := (nI 0)) (q := 21) dX2_at_20 rfl (by decide) ?_
    exact v_iret dX2_at_21 rfl ⟨_, rfl, h⟩
  · have h := h.2 (c)
    refine v_iload_n (q := 5) dX2_at_4 rfl rfl ?_
    refine v_sipush (v := (nI 654)) (q := 8) dX2_at_5 rfl (by decide) ?_
    refine v_icmp_ge (t := 20) (q := 11) dX2_at_8 rfl (by decide) (fun c => ?_) (fun c => ?_)
    · have h := h.1 (c)
      refine v_iconst (v := (nI 0)) (q := 21) dX2_at_20 rfl (by decide) ?_
      exact v_iret dX2_at_21 rfl ⟨_, rfl, h⟩
    · have h := h.2 (c)
      refine v_aload_n (q := 12) dX2_at_11 rfl rfl ?_
      refine v_get (q := 15) dX2_at_12 rfl fl_2_11 rfl rfl ?_
      refine v_iload_n (q := 16) dX2_at_15 rfl rfl ?_
      refine v_iald (q := 17) dX2_at_16 rfl (isI_d rfl) h.1 ?_
      have h := h.2
      refine v_goto (q := 21) dX2_at_17 (by decide) ?_
      exact v_iret dX2_at_21 rfl ⟨_, rfl, h⟩
theorem eX2_at {d : Nat} {σ : SS} {K : Int32 → SS → Prop} (p1 : Int32)   (h : ((p1 < 0) → (K (nI 0) σ)) ∧ ((¬ p1 < 0) → ((((nI 654) ≤ p1) → (K (nI 0) σ)) ∧ ((¬ (nI 654) ≤ p1) → ((vp_in p1 654) ∧ (K (σ.1 12 p1.toNatClampNeg) σ)))))) : CTi0 mX2_at d [.ref 1, .int p1] σ K := CT_of0 (Q := (Qi K)) (by decide +kernel) rfl (by decide) (Nat.le_of_ble_eq_true rfl) rfl (bX2_at_0 p1  h)
set_option maxRecDepth 20000 in
theorem bX2_put_0 {d : Nat} {σ : SS} {K : SS → Prop} (p1 : Int32) (p2 : Int32)   (h : ((p1 < 0) → (K σ)) ∧ ((¬ p1 < 0) → ((((nI 654) ≤ p1) → (K σ)) ∧ ((¬ (nI 654) ≤ p1) → ((vp_in p1 654) ∧ (K (sA σ 12 p1.toNatClampNeg p2))))))) : VV0 mX2_put d s00 0 [some (.ref 1), some (.int p1), some (.int p2)] [] σ (Qv K) := by
  refine v_iload_n (q := 1) dX2_put_0 rfl rfl ?_
  refine v_if_lt (t := 18) (q := 4) dX2_put_1 rfl (by decide) (fun c => ?_) (fun c => ?_)
  · have h := h.1 (c)
    exact v_ret0 dX2_put_18 rfl ⟨rfl, h⟩
  · have h := h.2 (c)
    refine v_iload_n (q := 5) dX2_put_4 rfl rfl ?_
    refine v_sipush (v := (nI 654)) (q := 8) dX2_put_5 rfl (by decide) ?_
    refine v_icmp_ge (t := 18) (q := 11) dX2_put_8 rfl (by decide) (fun c => ?_) (fun c => ?_)
    · have h := h.1 (c)
      exact v_ret0 dX2_put_18 rfl ⟨rfl, h⟩
    · have h := h.2 (c)
      refine v_aload_n (q := 12) dX2_put_11 rfl rfl ?_
      refine v_get (q := 15) dX2_put_12 rfl fl_2_11 rfl rfl ?_
      refine v_iload_n (q := 16) dX2_put_15 rfl rfl ?_
      refine v_iload_n (q := 17) dX2_put_16 rfl rfl ?_
      refine v_iast (q := 18) dX2_put_17 rfl (isI_d rfl) h.1 ?_
      have h := h.2
      exact v_ret0 dX2_put_18 rfl ⟨rfl, h⟩
theorem eX2_put {d : Nat} {σ : SS} {K : SS → Prop} (p1 : Int32) (p2 : Int32)   (h : ((p1 < 0) → (K σ)) ∧ ((¬ p1 < 0) → ((((nI 654) ≤ p1) → (K σ)) ∧ ((¬ (nI 654) ≤ p1) → ((vp_in p1 654) ∧ (K (sA σ 12 p1.toNatClampNeg p2))))))) : CTv0 mX2_put d [.ref 1, .int p1, .int p2] σ K := CT_of0 (Q := (Qv K)) (by decide +kernel) rfl (by decide) (Nat.le_of_ble_eq_true rfl) rfl (bX2_put_0 p1 p2  h)
set_option maxRecDepth 20000 in
theorem bX2_increase_0 {d : Nat} {σ : SS} {K : SS → Prop} (p1 : Int32) (p2 : Int32)  (hd1 : 1 ≤ d) (h : CTi0 mX2_at (d - 1) [.ref 1, .int p1] σ (fun x1 s2 => CTv0 mX2_put (d - 1) [.ref 1, .int p1, .int (x1 + p2)] s2 (fun s4 => K s4))) : VV0 mX2_increase d s00 0 [some (.ref 1), some (.int p1), some (.int p2)] [] σ (Qv K) := by
  refine v_aload_n (q := 1) dX2_increase_0 rfl rfl ?_
  refine v_iload_n (q := 2) dX2_increase_1 rfl rfl ?_
  refine v_aload_n (q := 3) dX2_increase_2 rfl rfl ?_
  refine v_iload_n (q := 4) dX2_increase_3 rfl rfl ?_
  refine v_callV0 (As := [.int p1]) (n := 1) (q := 7) dX2_increase_4 rfl lk_2_45 hd1 rfl rfl (Nat.le_of_ble_eq_true rfl) (CT0.imp h (fun r s2 h => ?_))
  obtain ⟨x1, rfl, h⟩ := h
  show VV0 mX2_increase d s00 7 [some (.ref 1), some (.int p1), some (.int p2)] [.int x1, .int p1, .ref 1] s2 (Qv K)
  refine v_iload_n (q := 8) dX2_increase_7 rfl rfl ?_
  refine v_iadd (q := 9) dX2_increase_8 rfl ?_
  refine v_callV0 (As := [.int p1, .int (x1 + p2)]) (n := 2) (q := 12) dX2_increase_9 rfl lk_2_49 hd1 rfl rfl (Nat.le_of_ble_eq_true rfl) (CT0.imp h (fun r s4 h => ?_))
  obtain ⟨rfl, h⟩ := h
  show VV0 mX2_increase d s00 12 [some (.ref 1), some (.int p1), some (.int p2)] [] s4 (Qv K)
  exact v_ret0 dX2_increase_12 rfl ⟨rfl, h⟩
theorem eX2_increase {d : Nat} {σ : SS} {K : SS → Prop} (p1 : Int32) (p2 : Int32)  (hd1 : 1 ≤ d) (h : CTi0 mX2_at (d - 1) [.ref 1, .int p1] σ (fun x1 s2 => CTv0 mX2_put (d - 1) [.ref 1, .int p1, .int (x1 + p2)] s2 (fun s4 => K s4))) : CTv0 mX2_increase d [.ref 1, .int p1, .int p2] σ K := CT_of0 (Q := (Qv K)) (by decide +kernel) rfl (by decide) (Nat.le_of_ble_eq_true rfl) rfl (bX2_increase_0 p1 p2 hd1 h)
set_option maxRecDepth 20000 in
theorem bX1_wordAt_0 {d : Nat} {σ : SS} {K : Int32 → SS → Prop} {se w f : Nat} (p1 : Int32) (hse : Sen se w f)  (h : ((p1 < 0) → (K (-1000000) σ)) ∧ ((¬ p1 < 0) → ((((σ.2.1 f) ≤ p1) → (K (-1000000) σ)) ∧ ((¬ (σ.2.1 f) ≤ p1) → ((vp_in p1 10) ∧ (K (σ.1 w p1.toNatClampNeg) σ)))))) : VV0 mX1_wordAt d s00 0 [some (.ref se), some (.int p1)] [] σ (Qi K) := by
  refine v_iload_n (q := 1) dX1_wordAt_0 rfl rfl ?_
  refine v_if_lt (t := 21) (q := 4) dX1_wordAt_1 rfl (by decide) (fun c => ?_) (fun c => ?_)
  · have h := h.1 (c)
    refine v_ldc (v := (-1000000)) (q := 23) dX1_wordAt_21 rfl cn_1_19 ?_
    exact v_iret dX1_wordAt_23 rfl ⟨_, rfl, h⟩
  · have h := h.2 (c)
    refine v_iload_n (q := 5) dX1_wordAt_4 rfl rfl ?_
    refine v_aload_n (q := 6) dX1_wordAt_5 rfl rfl ?_
    refine v_get (q := 9) dX1_wordAt_6 rfl fl_1_15 (hse.1 _) rfl ?_
    refine v_icmp_ge (t := 21) (q := 12) dX1_wordAt_9 rfl (by decide) (fun c => ?_) (fun c => ?_)
    · have h := h.1 (c)
      refine v_ldc (v := (-1000000)) (q := 23) dX1_wordAt_21 rfl cn_1_19 ?_
      exact v_iret dX1_wordAt_23 rfl ⟨_, rfl, h⟩
    · have h := h.2 (c)
      refine v_aload_n (q := 13) dX1_wordAt_12 rfl rfl ?_
      refine v_get (q := 16) dX1_wordAt_13 rfl fl_1_9 (hse.1 _) rfl ?_
      refine v_iload_n (q := 17) dX1_wordAt_16 rfl rfl ?_
      refine v_iald (q := 18) dX1_wordAt_17 rfl hse.2.2.1 (by rw [hse.2.2.2.1]; exact h.1) ?_
      have h := h.2
      refine v_goto (q := 23) dX1_wordAt_18 (by decide) ?_
      exact v_iret dX1_wordAt_23 rfl ⟨_, rfl, h⟩
theorem eX1_wordAt {d : Nat} {σ : SS} {K : Int32 → SS → Prop} {se w f : Nat} (p1 : Int32) (hse : Sen se w f)  (h : ((p1 < 0) → (K (-1000000) σ)) ∧ ((¬ p1 < 0) → ((((σ.2.1 f) ≤ p1) → (K (-1000000) σ)) ∧ ((¬ (σ.2.1 f) ≤ p1) → ((vp_in p1 10) ∧ (K (σ.1 w p1.toNatClampNeg) σ)))))) : CTi0 mX1_wordAt d [.ref se, .int p1] σ K := CT_of0 (Q := (Qi K)) (by decide +kernel) rfl (by decide) (Nat.le_of_ble_eq_true rfl) rfl (bX1_wordAt_0 p1 hse  h)
/-! the four leaf methods: within their bounds they are a cell's reading and writing; they want no depth of the caller's count -/
section LEAF
variable {σ : SS} {K : Int32 → SS → Prop} {Kv : SS → Prop}
theorem c0_at {d : Nat} {c : Int32} (hi : vp_in c 654) (h : K (σ.1 12 c.toNatClampNeg) σ) : CTi0 mX2_at d [.ref 1, .int c] σ K := eX2_at _ (by
  obtain ⟨j, hj, e⟩ := vp_in_of hi (by decide)
  exact ⟨fun z => absurd z (by rw [e]; exact nI_pos (by omega)), fun _ => ⟨fun z => absurd z (by rw [e]; exact nI_ge hj (by decide)), fun _ => ⟨hi, h⟩⟩⟩)
theorem c0_put {d : Nat} {c x : Int32} (hi : vp_in c 654) (h : Kv (sA σ 12 c.toNatClampNeg x)) : CTv0 mX2_put d [.ref 1, .int c, .int x] σ Kv := eX2_put _ _ (by
  obtain ⟨j, hj, e⟩ := vp_in_of hi (by decide)
  exact ⟨fun z => absurd z (by rw [e]; exact nI_pos (by omega)), fun _ => ⟨fun z => absurd z (by rw [e]; exact nI_ge hj (by decide)), fun _ => ⟨hi, h⟩⟩⟩)
theorem c0_inc {d : Nat} {c x : Int32} (hd : 1 ≤ d) (hi : vp_in c 654) (h : Kv (sA σ 12 c.toNatClampNeg (σ.1 12 c.toNatClampNeg + x))) : CTv0 mX2_increase d [.ref 1, .int c, .int x] σ Kv := eX2_increase _ _ hd (c0_at hi (c0_put hi h))
theorem c0_wordAt {d : Nat} {c : Int32} {se w f : Nat} (hse : Sen se w f) (hi : vp_in c 10) (hl : ¬ σ.2.1 f ≤ c) (h : K (σ.1 w c.toNatClampNeg) σ) : CTi0 mX1_wordAt d [.ref se, .int c] σ K := eX1_wordAt _ hse (by
  obtain ⟨j, hj, e⟩ := vp_in_of hi (by decide)
  exact ⟨fun z => absurd z (by rw [e]; exact nI_pos (by omega)), fun _ => ⟨fun z => absurd z hl, fun _ => ⟨hi, h⟩⟩⟩)
end LEAF
section LEAFR
variable {M : MD} {d pc q idx : Nat} {sc : Scr} {L : List (Option Value)} {st : List Value} {σ : SS} {Q : Option Value → SS → Prop} {c x : Int32}
theorem v_at (hd : decode (mc M) pc = .ok (.invokevirtual idx, 3)) (hq : pc + 3 = q) (hl : LKV (mo M) idx mX2_at 1 2) (hs : (st.map fun v => v.category).sum ≤ 8) (hi : vp_in c 654) (k : VV M d sc q L (.int (σ.1 12 c.toNatClampNeg) :: st) σ Q) : VV M d sc pc L (.int c :: .ref 1 :: st) σ Q :=
  v_callV0 (As := [.int c]) (n := 1) (d := d + 2) hd hq hl (by omega) rfl rfl hs (CT0.imp (c0_at (K := fun y s => y = σ.1 12 c.toNatClampNeg ∧ s = σ) hi ⟨rfl, rfl⟩) (fun r s ⟨y, h1, h2, h3⟩ => by subst h1; subst h2; subst h3; exact k))
theorem v_putc (hd : decode (mc M) pc = .ok (.invokevirtual idx, 3)) (hq : pc + 3 = q) (hl : LKV (mo M) idx mX2_put 2 2) (hs : (st.map fun v => v.category).sum ≤ 8) (hi : vp_in c 654) (k : VV M d sc q L st (sA σ 12 c.toNatClampNeg x) Q) : VV M d sc pc L (.int x :: .int c :: .ref 1 :: st) σ Q :=
  v_callV0 (As := [.int c, .int x]) (n := 2) (d := d + 2) hd hq hl (by omega) rfl rfl hs (CT0.imp (c0_put (Kv := fun s => s = sA σ 12 c.toNatClampNeg x) hi rfl) (fun r s ⟨h1, h2⟩ => by subst h1; subst h2; exact k))
theorem v_incc (hd : decode (mc M) pc = .ok (.invokevirtual idx, 3)) (hq : pc + 3 = q) (hl : LKV (mo M) idx mX2_increase 2 2) (hs : (st.map fun v => v.category).sum ≤ 8) (hi : vp_in c 654) (k : VV M d sc q L st (sA σ 12 c.toNatClampNeg (σ.1 12 c.toNatClampNeg + x)) Q) : VV M d sc pc L (.int x :: .int c :: .ref 1 :: st) σ Q :=
  v_callV0 (As := [.int c, .int x]) (n := 2) (d := d + 2) hd hq hl (by omega) rfl rfl hs (CT0.imp (c0_inc (Kv := fun s => s = sA σ 12 c.toNatClampNeg (σ.1 12 c.toNatClampNeg + x)) (by omega) hi rfl) (fun r s ⟨h1, h2⟩ => by subst h1; subst h2; exact k))
theorem v_wordAt {se w f : Nat} (hd : decode (mc M) pc = .ok (.invokevirtual idx, 3)) (hq : pc + 3 = q) (hl : LKN (mo M) idx mX1_wordAt 1 1) (hse : Sen se w f) (hs : (st.map fun v => v.category).sum ≤ 8) (hi : vp_in c 10) (hlt : ¬ σ.2.1 f ≤ c) (k : VV M d sc q L (.int (σ.1 w c.toNatClampNeg) :: st) σ Q) : VV M d sc pc L (.int c :: .ref se :: st) σ Q :=
  v_callN0 (As := [.int c]) (n := 1) (d := d + 2) hd hq hl (by omega) rfl (hse.1 σ) hs (CT0.imp (c0_wordAt (K := fun y s => y = σ.1 w c.toNatClampNeg ∧ s = σ) hse hi hlt ⟨rfl, rfl⟩) (fun r s ⟨y, h1, h2, h3⟩ => by subst h1; subst h2; subst h3; exact k))
end LEAFR
