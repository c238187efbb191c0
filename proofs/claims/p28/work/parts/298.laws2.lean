/-! THE LAW: match and use; retract; the loops -/
section LAWB
variable {sc : Scr} {σ : SS} {K : Int32 → SS → Prop} {c c1 b : Nat → Int32} {m p q q1 n T j th o : Nat} {v2 v5 v6 v9 v10 v11 v14 : Int32} {v12 : Int64}
theorem tsc_congr {c1 : Nat → Int32} {w : Nat} (hR : Row c m p q) (hw : w < p) (h : ∀ k, 22 + 16 * w + 1 ≤ k → k < 22 + 16 * w + 16 → k ≠ 27 + 16 * w → c1 k = c k) : tsc b n c1 w = tsc b n c w := by
  obtain ⟨l1, l2, l3⟩ := hR.len hw
  have el : lnN c1 w = lnN c w := by
    unfold lnN
    rw [h (23 + 16 * w) (by omega) (by omega) (by omega)]
  unfold tsc
  rw [el]
  exact scr_congr (fun _ _ => rfl) (fun i hi => h (28 + 16 * w + i) (by omega) (by omega) (by omega))
theorem law425 (hx : SX σ c b n) (hJ : JJ c m p q T) (hok : flt b n = (-1000000)) (hj : j < m) (hq : q < 24) (hth : c 5 = nI th) (hth2 : th ≤ 100)
    (k : ∀ s c1 q1 v9 v10 v11 v14, SY s c1 b n c → JJ c1 m p q1 T → q1 ≤ q + 1 → (∀ k, 654 ≤ k → c1 k = c k) → VV mL_law 8 sc 727 [some (.ref 102), some (.ref 0), some (.int v2), some (.int (nI m)), some (.int (nI p)), some (.int v5), some (.int v6), some (.int (nI j)), some (.int (nI n)), some (.int v9), some (.int v10), some (.int v11), some (.long (dgA c m p q)), none, some (.int v14), none, none, none, none, none] [] s (Qi K)) : VV mL_law 8 sc 425 [some (.ref 102), some (.ref 0), some (.int v2), some (.int (nI m)), some (.int (nI p)), some (.int v5), some (.int v6), some (.int (nI j)), some (.int (nI n)), some (.int (fmN (fm c th (tsc b n c) p))), some (.int (nI 0)), none, none, none, none, none, none, none, none, none] [] σ (Qi K) := by
  have hR := hJ.1.1
  have hp20 := hR.2.2.2.1
  have hm6 := hR.2.1
  have hp := hR.2.2.1
  refine cup (I := fun _ s => SX s c b n) (G := fun t s => VV mL_law 8 sc 425 [some (.ref 102), some (.ref 0), some (.int v2), some (.int (nI m)), some (.int (nI p)), some (.int v5), some (.int v6), some (.int (nI j)), some (.int (nI n)), some (.int (fmN (fm c th (tsc b n c) p))), some (.int (nI t)), none, none, none, none, none, none, none, none, none] [] s (Qi K)) p ?_ ?_ 0 (Nat.zero_le _) σ hx
  · intro s hs
    have inv := fm_inv (c := c) (th := th) (sc := tsc b n c) p
    refine bL_law_425 _ _ _ _ _ _ _ _ _ (by omega) (br_t (nI_le (Nat.le_refl _) (by omega)) (p_fee (by omega) hs.rd hR hok hth hth2 hj (fun s1 f1 => p_member (w := 1) (by omega) (hs.C f1).rd hR hj (by omega) (p_digest (by omega) (hs.C f1).rd hR (fun s2 f2 => p_use (by omega) ((hs.C f1).C f2) hR hok hth hth2 hj hq (fun ho s3 h3 => ?_) (fun w ho s3 h3 => ?_))))))
    · rw [ho]
      refine br_f (by decide) (br_nf rfl (br_nf rfl (br_nf rfl (p_digest (by omega) h3.rd hR (fun s4 f4 => br_t (lg_same _) ?_)))))
      exact k s4 c q _ _ _ _ (h3.C f4) hJ (by omega) (fun _ _ => rfl)
    · obtain ⟨i1, i2, i3, i4⟩ := inv w ho
      rw [ho]
      have l100 : tsc b n c w.1 ≤ 100 := scr_le _ _ _ _
      have hJ1 := use_jj (j := j) hJ hj i1 hq l100
      obtain ⟨F, P, g, f1', f2', f3', f4', f5', f6'⟩ := use_sp (q := q) (j := j) hJ.1 hj i1 l100
      generalize hfe : feeV c j w.1 (tsc b n c w.1) = fee at hJ1 h3 f1' f3' f4'
      generalize hc1 : useR c m q j w.1 (tsc b n c w.1) fee = c1 at hJ1 h3
      have hR1 := hJ1.1.1
      have hx6 : feeO c b n j (some w) = fee := hfe
      have n0 : ∀ i, i < 6 → c1 (342 + 13 * q + i) = ntB c (342 + 13 * q) (nI j) (nI w.1) (nI (tsc b n c w.1)) fee (c 3) (342 + 13 * q + i) := fun i hi => by
        rw [← hc1]
        exact useR_n hR hj i1 hi
      have e0 : c1 (342 + 13 * q + 0) = nI j := by
        rw [n0 0 (by omega)]
        unfold ntB
        simp (disch := omega) only [Nat.add_zero, upd_ne, upd_at]
      have e1 : c1 (342 + 13 * q + 1) = nI w.1 := by
        rw [n0 1 (by omega)]
        unfold ntB
        simp (disch := omega) only [upd_ne, upd_at]
      have e2 : c1 (342 + 13 * q + 2) = nI (tsc b n c w.1) := by
        rw [n0 2 (by omega)]
        unfold ntB
        simp (disch := omega) only [upd_ne, upd_at]
      have e3 : c1 (342 + 13 * q + 3) = fee := by
        rw [n0 3 (by omega)]
        unfold ntB
        simp (disch := omega) only [upd_ne, upd_at]
      have e5 : c1 (342 + 13 * q + 5) = nI 0 := by
        rw [n0 5 (by omega)]
        unfold ntB
        simp (disch := omega) only [upd_at]
      have et : tsc b n c1 w.1 = tsc b n c w.1 := by
        refine tsc_congr hR i1 (fun k k1 k2 k3 => ?_)
        rw [← hc1]
        exact useR_c hR hj i1 (by omega) (by omega) (fun t _ => by omega) (by omega) (by omega)
      have hi : ∀ k, 654 ≤ k → c1 k = c k := fun k hk => by
        rw [← hc1]
        exact useR_c hR hj i1 (by omega) (by omega) (fun t _ => by omega) (by omega) (by omega)
      refine br_t (nI_pos' (by omega)) (p_count (w := 3) (by omega) h3.rd hR1 (by omega) (fun s4 f4 => ?_))
      have h4 := h3.C f4
      rw [show cprop c1 p (q + 1) 3 = nI (q + 1) from hR1.2.2.2.2.1, pk_sub (by omega), Nat.add_sub_cancel]
      refine br_nf rfl (p_note (w := 0) (by omega) h4.rd hR1 (by omega) (by omega) (br_nf e0 (p_note (w := 1) (by omega) h4.rd hR1 (by omega) (by omega) (br_nf e1 (p_note (w := 2) (by omega) h4.rd hR1 (by omega) (by omega) (p_alike (by omega) h4.rd hR1 hok i1 (fun s5 f5 => br_nf (e2.trans (congrArg nI et.symm)) (p_note (w := 3) (by omega) (h4.C f5).rd hR1 (by omega) (by omega) (br_nf (e3.trans hx6.symm) (p_note (w := 5) (by omega) (h4.C f5).rd hR1 (by omega) (by omega) (br_nf e5 (p_member (w := 1) (by omega) (h4.C f5).rd hR1 hj (by omega) ?_))))))))))))
      rw [nI_add 7 j]
      refine p_note (by omega) (h4.C f5).rd hR1 (by omega) (by omega) (br_t ?_ (k s5 c1 (q + 1) _ _ _ _ (h4.C f5) hJ1 (by omega) hi))
      show c1 (10 + 2 * j + 1) = c (10 + 2 * j + 1) - feeO c b n j (some w) + c1 (342 + 13 * q + (7 + j))
      rw [hx6, ← hc1, show 10 + 2 * j + 1 = 11 + 2 * j by omega, useR_ne (by omega), useA_eq, mvm_ac hj, if_pos rfl, spU_c hR i1 (by omega) (by omega), spU_3 hR i1, useR_ne (by omega), useA_hi hj (by omega) (fun t _ => by omega), show 342 + 13 * q + (7 + j) = 342 + 13 * q + 7 + j by omega, m1, m1]
  · intro t ht ih s hs
    have nx : ∀ s v, SX s c b n → VV mL_law 8 sc 548 [some (.ref 102), some (.ref 0), some (.int v2), some (.int (nI m)), some (.int (nI p)), some (.int v5), some (.int v6), some (.int (nI j)), some (.int (nI n)), some (.int (fmN (fm c th (tsc b n c) p))), some (.int (nI t)), some (.int v), none, none, none, none, none, none, none, none] [] s (Qi K) := fun s v hs => bL_law_548 _ _ _ _ _ _ _ _ _ _ (by
      rw [nI_add]
      exact ih s hs)
    have e4 : pprop c p t 4 = nI 1 := by
      show c (22 + 16 * t + 4) = _
      rw [show 22 + 16 * t + 4 = 26 + 16 * t by omega]
      exact hJ.2.1 t ht
    have u5 : ∀ i, pprop c p i 5 = c (27 + 16 * i) := fun i => by
      show c (22 + 16 * i + 5) = _
      rw [show 22 + 16 * i + 5 = 27 + 16 * i by omega]
    have lt100 : tsc b n c t ≤ 100 := scr_le _ _ _ _
    refine bL_law_425 _ _ _ _ _ _ _ _ _ (by omega) (br_f (nI_ge ht (by omega)) (p_phrase (w := 4) (by omega) hs.rd hR ht (by omega) (fun s1 f1 => br_nf e4 (p_alike (by omega) (hs.C f1).rd hR hok ht (fun s2 f2 => p_count (w := 8) (by omega) ((hs.C f1).C f2).rd hR (by omega) (fun s3 f3 => ?_))))))
    have h3 := ((hs.C f1).C f2).C f3
    rw [show cprop c p q 8 = nI th from hth]
    by_cases hlt : tsc b n c t < th
    · exact br_t (nI_lt hlt (by omega)) (br_t rfl (nx s3 _ h3))
    · obtain ⟨w, hw, hb⟩ := fm_best (c := c) (th := th) (sc := tsc b n c) p t ht (hJ.2.1 t ht) (by omega)
      obtain ⟨i1, i2, i3, i4⟩ := fm_inv p w hw
      have l100 : tsc b n c w.1 ≤ 100 := scr_le _ _ _ _
      rw [hw] at nx ⊢
      refine br_f (nnI hlt (by omega)) (br_f one_ne (br_f (nI_pos (by omega)) (p_alike (by omega) h3.rd hR hok ht (fun s4 f4 => p_alike (by omega) (h3.C f4).rd hR hok i1 (fun s5 f5 => br_f ?_ (p_alike (by omega) ((h3.C f4).C f5).rd hR hok ht (fun s6 f6 => p_alike (by omega) (((h3.C f4).C f5).C f6).rd hR hok i1 (fun s7 f7 => ?_))))))))
      · unfold Bt at hb
        exact nI_nlt (by omega) (by omega)
      · have h7 := (((h3.C f4).C f5).C f6).C f7
        rcases hb with hb | ⟨hb, h2⟩
        · exact br_nt (nI_neq (by omega) (by omega) (by omega)) (nx s7 _ h7)
        · refine br_nf (congrArg nI hb) (p_phrase (w := 5) (by omega) h7.rd hR ht (by omega) (fun s8 f8 => p_phrase (w := 5) (by omega) (h7.C f8).rd hR i1 (by omega) (fun s9 f9 => br_f ?_ (p_phrase (w := 5) (by omega) ((h7.C f8).C f9).rd hR ht (by omega) (fun s10 f10 => p_phrase (w := 5) (by omega) (((h7.C f8).C f9).C f10).rd hR i1 (by omega) (fun s11 f11 => ?_))))))
          · rw [u5, u5]
            rcases h2 with h2 | ⟨h2, _⟩
            · exact Int32.lt_asymm h2
            · rw [h2]
              exact Int32.lt_irrefl
          · have h11 := (((h7.C f8).C f9).C f10).C f11
            rw [u5, u5]
            rcases h2 with h2 | ⟨h2, hle⟩
            · exact br_nt (fun e => by
                rw [e] at h2
                exact Int32.lt_irrefl h2) (nx s11 _ h11)
            · exact br_nf h2 (br_t (nI_le hle (by omega)) (nx s11 _ h11))
/-- one round of the law's great loop, from its head -/
theorem law_round {i : Nat} (hL : sc.1 < 2 ^ 31) (hi : i < 12) (hx : SX σ c b n) (hJ : JJ c m p q T) (hm : 1 ≤ m) (hqi : q ≤ i) (hTi : T ≤ 9 * i) (k : ∀ s c2 b2 n2 q2 T2, SX s c2 b2 n2 → JJ c2 m p q2 T2 → q2 ≤ i + 1 → T2 ≤ 9 * (i + 1) → VV mL_law 8 sc 368 [some (.ref 102), some (.ref 0), some (.int v2), some (.int (nI m)), some (.int (nI p)), some (.int (nI (i + 1))), none, none, none, none, none, none, none, none, none, none, none, none, none, none] [] s (Qi K)) : VV mL_law 8 sc 368 [some (.ref 102), some (.ref 0), some (.int v2), some (.int (nI m)), some (.int (nI p)), some (.int (nI i)), none, none, none, none, none, none, none, none, none, none, none, none, none, none] [] σ (Qi K) := by
  have hR := hJ.1.1
  have hm6 := hR.2.1
  obtain ⟨th, t1, t2, t3⟩ := hR.2.2.2.2.2.2.2.2.1
  refine bL_law_368 _ _ _ _ (by omega) (br_f (nI_ge hi (by omega)) ⟨⟨hL, by rw [nI_add]; exact nI_pos (by omega)⟩, fun y => s_low hm (by omega) (fun j hj => s_low (by omega) (by omega) (fun r hr => ?_))⟩)
  rw [nI_add 1 r]
  refine s_sentence (by omega) hx (by omega) (by omega) (fun b' s1 h1 hok hla => p_match (by omega) h1.rd hR hok t3 t2 (fun s2 f2 => ?_))
  refine law425 (h1.C f2) hJ hok hj (by omega) t3 t2 (fun s3 c1 q1 v9 v10 v11 v14 hy hJ1 hq1 h654 => ?_)
  refine law727 hy hJ1 hJ h654 rfl (fun s4 c2 q2 h4 hJ2 hq2 => ?_)
  refine law764 h4 hJ2 (by omega) (fun s5 c3 T3 h5 hJ3 hT3 => ?_)
  refine law791 h5 hJ3.1.1 (by omega) hok hla hj (fun s6 h6 => ?_)
  rw [nI_add]
  exact k s6 c3 b' _ q2 T3 h6 hJ3 (by omega) (by omega)
/-- behind the retracting -/
theorem law1079 {would : Int32} (hy : SY σ (retR c m p q o) b n c) (hJ : JJ c m p q T) (hm : 1 ≤ m) (ho : o < p) (hw : would = sumP (Owd c o) (fun k => c (345 + 13 * k)) q) (k : ∀ s, K (nI 1) s) : VV mL_law 8 sc 1079 [some (.ref 102), some (.ref 0), some (.int v2), some (.int (nI m)), some (.int (nI p)), some (.int (nI o)), some (.long (dgA c m p q)), none, some (.int would), some (.int v9), some (.int (nI 0)), some (.int v11), some (.int (nI 0)), none, none, none, none, none, none, none] [] σ (Qi K) := by
  have hI := hJ.1
  have hR := hI.1
  have hR1 : Row (retR c m p q o) m p q := ret_row hR
  have hp20 := hR.2.2.2.1
  have hm6 := hR.2.1
  have hq := hR1.2.2.2.2.1
  have hq24 := hR.2.2.2.2.2.1
  suffices g : VV mL_law 8 sc 1079 [some (.ref 102), some (.ref 0), some (.int v2), some (.int (nI m)), some (.int (nI p)), some (.int (nI o)), some (.long (dgA c m p q)), none, some (.int would), some (.int v9), some (.int (nI 0 - sumP (Owd c o) (fun k => c (345 + 13 * k)) 0)), some (.int v11), some (.int (nI 0)), none, none, none, none, none, none, none] [] σ (Qi K) by
    rw [show nI 0 - sumP (Owd c o) (fun k => c (345 + 13 * k)) 0 = nI 0 from Int32.sub_self (nI 0)] at g
    exact g
  refine cup (I := fun _ s => SY s (retR c m p q o) b n c) (G := fun i s => VV mL_law 8 sc 1079 [some (.ref 102), some (.ref 0), some (.int v2), some (.int (nI m)), some (.int (nI p)), some (.int (nI o)), some (.long (dgA c m p q)), none, some (.int would), some (.int v9), some (.int (nI 0 - sumP (Owd c o) (fun k => c (345 + 13 * k)) i)), some (.int v11), some (.int (nI i)), none, none, none, none, none, none, none] [] s (Qi K)) q ?_ ?_ 0 (Nat.zero_le _) σ hy
  · intro s hs
    refine bL_law_1079 _ _ _ _ _ _ _ _ _ _ (by omega) (p_count (w := 3) (by omega) hs.rd hR1 (by omega) (fun s1 f1 => ?_))
    rw [show cprop (retR c m p q o) p q 3 = nI q from hq]
    refine br_t (nI_le (Nat.le_refl _) (by omega)) (br_nf ?_ (p_undo (by omega) (hs.C f1) (fun t ht => ret_out hR (fun j hj => by omega) (by omega) (fun k hk => by omega)) (fun t s2 ht hs2 => br_f (nI_pos (by omega)) (p_digest (by omega) hs2.rd hR (fun s3 f3 => br_t (lg_same _) ?_)))))
    · rw [hw, show nI 0 = (0 : Int32) from rfl]
      exact Int32.zero_sub _
    have h3 := (hs2.C f3).rd
    refine p_setPriceM (by omega) h3 hR (fun i hi => nI_neq (by omega) (by omega) (by omega)) (br_nf rfl (p_setPriceX (by omega) h3 hR (by omega) (br_nf rfl (p_setX0 (by omega) (br_nf rfl (p_setX5 (by omega) (br_nf rfl (p_addPhraseT (by omega) h3 hR (by omega) (br_nf rfl (p_addPhraseP (by omega) h3 hR (by omega) (br_nf rfl (p_wordX (by omega) h3 hR (by omega) (br_nf rfl (p_passX (by omega) (br_nf rfl (p_count14 (by omega) (br_nf rfl (p_digest (by omega) h3 hR (fun s4 f4 => br_nf (lg_same _) (k s4))))))))))))))))))))
  · intro i hi ih s hs
    have nx : ∀ s x, SY s (retR c m p q o) b n c → x = nI 0 - sumP (Owd c o) (fun k => c (345 + 13 * k)) (i + 1) → VV mL_law 8 sc 1145 [some (.ref 102), some (.ref 0), some (.int v2), some (.int (nI m)), some (.int (nI p)), some (.int (nI o)), some (.long (dgA c m p q)), none, some (.int would), some (.int v9), some (.int x), some (.int v11), some (.int (nI i)), none, none, none, none, none, none, none] [] s (Qi K) := fun s x hs e => bL_law_1145 _ _ _ _ _ _ _ _ _ _ (by
      rw [nI_add, e]
      exact ih s hs)
    refine bL_law_1079 _ _ _ _ _ _ _ _ _ _ (by omega) (p_count (w := 3) (by omega) hs.rd hR1 (by omega) (fun s1 f1 => ?_))
    rw [show cprop (retR c m p q o) p q 3 = nI q from hq]
    have h1 := hs.C f1
    have ep := ret_paid (o := o) hR hi
    rw [show 347 + 13 * i = 342 + 13 * i + 5 by omega] at ep
    refine br_f (nI_ge hi (by omega)) (p_note (w := 5) (by omega) h1.rd hR1 hi (by omega) ?_)
    by_cases hO : Owd c o i
    · refine br_nf (ep.1 hO) (p_note (w := 3) (by omega) h1.rd hR1 hi (by omega) (p_note (w := 5) (by omega) h1.rd hR1 hi (by omega) (br_nf (ep.1 hO) (p_note (w := 1) (by omega) h1.rd hR1 hi (by omega) ?_))))
      obtain ⟨h, hh, eh⟩ := (hR.2.2.2.2.2.2.2.1 i hi).2.1
      have e1 : retR c m p q o (342 + 13 * i + 1) = nI h := by
        rw [ret_out hR (fun j hj => by omega) (by omega) (fun k hk => by omega), show 342 + 13 * i + 1 = 343 + 13 * i by omega]
        exact eh
      have e3 : retR c m p q o (342 + 13 * i + 3) = c (345 + 13 * i) := by
        rw [ret_out hR (fun j hj => by omega) (by omega) (fun k hk => by omega), show 342 + 13 * i + 3 = 345 + 13 * i by omega]
      have hmk : Mk c o h := by
        have z := hO.2.1
        rw [eh, cl (by omega)] at z
        exact z
      rw [e1, e3]
      refine p_phrase (w := 4) (by omega) h1.rd hR1 hh (by omega) (fun s2 f2 => br_nt ?_ (nx s2 _ (h1.C f2) ?_))
      · show ¬ retR c m p q o (22 + 16 * h + 4) = nI 1
        rw [show 22 + 16 * h + 4 = 26 + 16 * h by omega, (ret_l hR hh).1 hmk]
        exact nI_neq (by omega) (by omega) (by omega)
      · rw [sumP_t hO]
        grind
    · have en : ¬ retR c m p q o (342 + 13 * i + 5) = nI 1 := by
        rw [ep.2 hO, show 342 + 13 * i + 5 = 347 + 13 * i by omega, hJ.2.2 i hi]
        exact nI_neq (by omega) (by omega) (by omega)
      refine br_nt en (p_note (w := 5) (by omega) h1.rd hR1 hi (by omega) (br_nt en (nx s1 _ h1 ?_)))
      rw [sumP_f hO]
      exact Int32.sub_zero _
/-- the retracting -/
theorem law965 {would : Int32} (hx : SX σ c b n) (hJ : JJ c m p q T) (hm : 1 ≤ m) (ho : o < p) (hw : would = sumP (Owd c o) (fun k => c (345 + 13 * k)) q) (hv : v9 = nI (vLive c p)) (k : ∀ s, K (nI 1) s) : VV mL_law 8 sc 965 [some (.ref 102), some (.ref 0), some (.int v2), some (.int (nI m)), some (.int (nI p)), some (.int (nI o)), some (.long (dgA c m p q)), none, some (.int would), some (.int v9), some (.int (nI 0)), some (.int (nI 0)), none, none, none, none, none, none, none, none] [] σ (Qi K) := by
  have hI := hJ.1
  have hR := hI.1
  have hp20 := hR.2.2.2.1
  have hq := hR.2.2.2.2.1
  have hq24 := hR.2.2.2.2.2.1
  refine cup (I := fun _ s => SX s c b n) (G := fun i s => VV mL_law 8 sc 965 [some (.ref 102), some (.ref 0), some (.int v2), some (.int (nI m)), some (.int (nI p)), some (.int (nI o)), some (.long (dgA c m p q)), none, some (.int would), some (.int v9), some (.int (nI 0)), some (.int (nI i)), none, none, none, none, none, none, none, none] [] s (Qi K)) q ?_ ?_ 0 (Nat.zero_le _) σ hx
  · intro s hs
    have hR1 : Row (retR c m p q o) m p q := ret_row hR
    have hlo := hJ.2.1 o ho
    have e26 : retR c m p q o (26 + 16 * o) = nI 0 := (ret_l hR ho).1 Mk_o
    have nl : ¬ retR c m p q o (26 + 16 * o) = nI 1 := by
      rw [e26]
      exact nI_neq (by omega) (by omega) (by omega)
    have one : 1 ≤ cntP (Mk c o) p := cntP_one p ho Mk_o
    have le := cntP_le (Mk c o) p
    have sum := ret_live (o := o) hR
    have same : cntP (fun j => c (26 + 16 * j) = nI 1 ∧ Mk c o j) p = cntP (Mk c o) p := cntP_congr (fun t ht => ⟨fun z => z.2, fun z => ⟨hJ.2.1 t ht, z⟩⟩)
    rw [same] at sum
    refine bL_law_965 _ _ _ _ _ _ _ _ _ (by omega) (p_count (w := 3) (by omega) hs.rd hR (by omega) (fun s1 f1 => ?_))
    rw [show cprop c p q 3 = nI q from hq]
    refine br_t (nI_le (Nat.le_refl _) (by omega)) (p_retract (by omega) (hs.C f1) hR ho hlo (fun s2 h2 => br_f (nI_nlt one (by omega)) (p_count (w := 2) (by omega) h2.rd hR1 (by omega) (fun s3 f3 => br_nf ?_ (p_phrase (w := 4) (by omega) (h2.C f3).rd hR1 ho (by omega) (fun s4 f4 => br_nf ?_ (s_fits (by omega) ((h2.C f3).C f4).rd (ret_inv hI) (fun s5 f5 => br_f one_ne ?_))))))))
    · show nI (vLive (retR c m p q o) p) = v9 - nI (cntP (Mk c o) p)
      rw [hv, pk_sub (by omega), show vLive c p - cntP (Mk c o) p = vLive (retR c m p q o) p by omega]
    · show retR c m p q o (22 + 16 * o + 4) = 0
      rw [show 22 + 16 * o + 4 = 26 + 16 * o by omega]
      exact e26
    · have h5 := ((h2.C f3).C f4).C f5
      exact p_retractX (by omega) h5.rd hR1 ho nl (br_nf rfl (p_wpbX (by omega) h5.rd hR1 ho nl (br_t rfl (law1079 h5 hJ hm ho hw k))))
  · intro i hi ih s hs
    refine bL_law_965 _ _ _ _ _ _ _ _ _ (by omega) (p_count (w := 3) (by omega) hs.rd hR (by omega) (fun s1 f1 => ?_))
    rw [show cprop c p q 3 = nI q from hq]
    refine br_f (nI_ge hi (by omega)) (p_note (w := 5) (by omega) (hs.C f1).rd hR hi (by omega) (br_nt ?_ ?_))
    · rw [show 342 + 13 * i + 5 = 347 + 13 * i by omega, hJ.2.2 i hi]
      exact nI_neq (by omega) (by omega) (by omega)
    · rw [add0, nI_add]
      exact ih s1 (hs.C f1)
/-- the great loop -/
theorem law368 (hL : sc.1 < 2 ^ 31) (hx : SX σ c b n) (hJ : JJ c m p 0 0) (hm : 1 ≤ m) (hp : 1 ≤ p) (k : ∀ s, K (nI 1) s) : VV mL_law 8 sc 368 [some (.ref 102), some (.ref 0), some (.int v2), some (.int (nI m)), some (.int (nI p)), some (.int (nI 0)), none, none, none, none, none, none, none, none, none, none, none, none, none, none] [] σ (Qi K) := by
  refine cup (I := fun i s => ∃ c2 b2 n2 q2 T2, SX s c2 b2 n2 ∧ JJ c2 m p q2 T2 ∧ q2 ≤ i ∧ T2 ≤ 9 * i) (G := fun i s => VV mL_law 8 sc 368 [some (.ref 102), some (.ref 0), some (.int v2), some (.int (nI m)), some (.int (nI p)), some (.int (nI i)), none, none, none, none, none, none, none, none, none, none, none, none, none, none] [] s (Qi K)) 12 ?_ ?_ 0 (Nat.zero_le _) σ ⟨c, b, n, 0, 0, hx, hJ, by omega, by omega⟩
  · intro s ⟨c2, b2, n2, q2, T2, h1, h2, h3, h4⟩
    have hR := h2.1.1
    have hp20 := hR.2.2.2.1
    refine bL_law_368 _ _ _ _ (by omega) (br_t (nI_le (Nat.le_refl _) (by omega)) ⟨⟨hL, by decide⟩, fun y => s_low hp (by omega) (fun o ho => p_digest (by omega) h1.rd hR (fun s1 f1 => p_wpb (by omega) (h1.C f1).rd hR ho (h2.2.1 o ho) (fun s2 f2 => p_count (w := 2) (by omega) ((h1.C f1).C f2).rd hR (by omega) (fun s3 f3 => ?_))))⟩)
    exact law965 (((h1.C f1).C f2).C f3) h2 hm ho rfl rfl k
  · intro i hi ih s ⟨c2, b2, n2, q2, T2, h1, h2, h3, h4⟩
    exact law_round hL hi h1 h2 hm h3 h4 (fun s c3 b3 n3 q3 T3 a1 a2 a3 a4 => ih s ⟨c3, b3, n3, q3, T3, a1, a2, a3, a4⟩)
end LAWB
