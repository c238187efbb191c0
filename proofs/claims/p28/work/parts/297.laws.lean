/-! THE LAW'S OWN STEPS -/
theorem lg_same (x : Int64) : lg_cmp x x = 0 := by
  unfold lg_cmp
  simp
theorem letr {r : Nat} (h : r < 3) : isL (nI (97 + r)) := ⟨nI_nlt (by omega) (by omega), nI_nlt (by omega) (by omega)⟩
theorem lw_all {b : Nat → Int32} {w : Nat} (h : ∀ t, t < w → isL (b t)) : ∀ i, i ≤ w → (lw b i).length = i := by
  intro i
  induction i with
  | zero => intro _; rfl
  | succ i ih =>
    intro hi
    rw [lw_t (h i (by omega)), List.length_append, ih (by omega)]
    rfl
theorem flt_all {b : Nat → Int32} {w : Nat} (h : ∀ t, t < w → isL (b t)) (h1 : 1 ≤ w) (h10 : w ≤ 10) : flt b w = (-1000000) := by
  have key : ∀ r i, i + r = w → fltA b w r i i = (-1000000) := by
    intro r
    induction r with
    | zero =>
      intro i hi
      unfold fltA
      rw [if_neg (by omega)]
    | succ r ih =>
      intro i hi
      unfold fltA
      rw [if_pos (show ¬ b i < nI 97 ∧ ¬ nI 122 < b i from h i (by omega)), if_pos (by omega)]
      exact ih (i + 1) (by omega)
  exact key w 0 (by omega)
section SEN
variable {d : Nat} {σ : SS} {K : Int32 → SS → Prop} {c b : Nat → Int32} {n : Nat}
theorem s_sentence {w : Nat} {v : Int32} (hd : 7 ≤ d) (h : SX σ c b n) (h1 : 1 ≤ w) (h6 : w ≤ 6) (k : ∀ b' s, SX s c b' w → flt b' w = (-1000000) → (lw b' w).length = w → K (nI w) s) : CTi mL_sentence d [.ref 0, .int (nI w), .int v] σ K := by
  refine eL_sentence _ _ (by omega) (p_clearText (by omega) h (fun x s0 h0 => ?_))
  refine cup (I := fun i s => ∃ b', SX s c b' i ∧ ∀ t, t < i → isL (b' t)) (G := fun i s => VV mL_sentence d s00 7 [some (.ref 0), some (.int (nI w)), some (.int v), some (.int (nI i))] [] s (Qi K)) w ?_ ?_ 0 (Nat.zero_le _) s0 ⟨b, h0, fun t ht => absurd ht (by omega)⟩
  · intro s ⟨b', hs, hl⟩
    exact bL_sentence_7 _ _ _ (by omega) (br_t (nI_le (Nat.le_refl _) (by omega)) (k b' s hs (flt_all hl h1 (by omega)) (lw_all hl w (Nat.le_refl _))))
  · intro i hi ih s ⟨b', hs, hl⟩
    refine bL_sentence_7 _ _ _ (by omega) (br_f (nI_ge hi (by omega)) (s_low (by omega) (by omega) (fun r hr => ?_)))
    rw [nI_add, nI_add]
    refine p_type (by omega) hs (by omega) (by omega) (fun x s1 h1' => ih s1 ⟨_, h1', fun t ht => ?_⟩)
    by_cases e : t = i
    · rw [e, upd_at]
      exact letr hr
    · rw [upd_ne _ _ e]
      exact hl t (by omega)
end SEN
section LAWS
variable {sc : Scr} {σ : SS} {K : Int32 → SS → Prop} {c c1 b : Nat → Int32} {m p q q1 n T j : Nat} {v2 v5 v6 v9 v10 v11 v14 : Int32} {v12 : Int64}
/-- the pieces, one by one -/
theorem law817 (hR : Row c m p q) (hn : n ≤ 10) (hok : flt b n = (-1000000)) (hla : (lw b n).length = n) (hj : j < m) {TT : Nat → Wy} (hT : wtab c j (tw b n) n p n = TT) {w0 : Nat × Nat × Nat} (h0 : TT 0 = some w0) (k : ∀ s, SX s c b n → VV mL_law 8 sc 368 [some (.ref 102), some (.ref 0), some (.int v2), some (.int (nI m)), some (.int (nI p)), some (.int (v5 + nI 1)), none, none, none, none, none, none, none, none, none, none, none, none, none, none] [] s (Qi K)) : ∀ e, e ≤ w0.2.1 → ∀ s cst w, SX s c b n → TT (wlk c TT e 0) = some w → w.2.1 + e = w0.2.1 → cst + w.1 = w0.1 → VV mL_law 8 sc 817 [some (.ref 102), some (.ref 0), some (.int v2), some (.int (nI m)), some (.int (nI p)), some (.int v5), some (.int v6), some (.int (nI j)), some (.int (nI n)), some (.int v9), some (.int v10), some (.int v11), some (.long v12), none, some (.int v14), some (.int (nI w0.1)), some (.int (nI (wlk c TT e 0))), some (.int (nI cst)), some (.int (nI e)), some (.int (if w.2.1 = 0 then (-1000000) else nI w.2.2))] [] s (Qi K) := by
  have hm6 := hR.2.1
  have hp20 := hR.2.2.2.1
  have hO : OkT c n p TT 0 := by
    have z := wtab_ok (u := tw b n) (j := j) (la := n) hR n (Nat.le_refl _)
    rw [Nat.sub_self, hT] at z
    exact z
  have hC : CkT c j n TT 0 := by
    have z := wtab_ck (u := tw b n) (j := j) (la := n) hR n (Nat.le_refl _)
    rw [Nat.sub_self, hT] at z
    exact z
  have wle : ∀ e, e ≤ w0.2.1 → wlk c TT e 0 ≤ n := fun e he => by
    cases e with
    | zero => exact Nat.zero_le _
    | succ e =>
      obtain ⟨-, w, -, -, -, h5, h6⟩ := wlk_ok hO h0 e (by omega)
      rw [h5]
      exact h6
  have z0 := hO 0 (Nat.zero_le _) (Nat.zero_le _) w0 h0
  have z1 := z0.1
  have z2 := z0.2.1
  intro e he
  refine down (P := fun e => ∀ s cst w, SX s c b n → TT (wlk c TT e 0) = some w → w.2.1 + e = w0.2.1 → cst + w.1 = w0.1 → VV mL_law 8 sc 817 [some (.ref 102), some (.ref 0), some (.int v2), some (.int (nI m)), some (.int (nI p)), some (.int v5), some (.int v6), some (.int (nI j)), some (.int (nI n)), some (.int v9), some (.int v10), some (.int v11), some (.long v12), none, some (.int v14), some (.int (nI w0.1)), some (.int (nI (wlk c TT e 0))), some (.int (nI cst)), some (.int (nI e)), some (.int (if w.2.1 = 0 then (-1000000) else nI w.2.2))] [] s (Qi K)) w0.2.1 ?_ ?_ e he
  · intro s cst w hs hw e1 e2
    have hz : w.2.1 = 0 := by omega
    have hp : wlk c TT w0.2.1 0 = n := by
      rcases Nat.lt_or_ge (wlk c TT w0.2.1 0) n with z | z
      · have := ((hO _ (Nat.zero_le _) (by omega) w hw).2.2 z).1
        omega
      · have := wle w0.2.1 (Nat.le_refl _)
        omega
    have hw0 : w.1 = 0 := by
      rw [hp, hC.1] at hw
      cases hw
      rfl
    rw [if_pos hz, hp, show cst = w0.1 by omega]
    exact bL_law_817 _ _ _ _ _ _ _ _ _ _ _ _ _ _ _ _ _ (by omega) (br_t neg_n (br_t (nI_pos' (by omega)) (br_nf rfl (br_t rfl (bL_law_919 _ _ _ _ _ _ _ _ _ _ _ _ _ _ _ _ _ (k s hs))))))
  · intro e he ih s cst w hs hw e1 e2
    have nz : ¬ w.2.1 = 0 := by omega
    obtain ⟨q1, w', q2, q3, q4, q5, q6⟩ := wlk_ok hO h0 e he
    have ew : w' = w := Option.some.inj (q2.symm.trans hw)
    subst ew
    obtain ⟨v, r1, r2, r3⟩ := hC.2 _ (Nat.zero_le _) q1 w' hw
    rw [← q5] at r1
    obtain ⟨l1, l2, l3⟩ := hR.len q4
    obtain ⟨o1, o2⟩ := hR.own q4
    obtain ⟨pr, pr1, pr2⟩ := hR.2.2.2.2.2.2.2.2.2 (owN c w'.2.2) o2
    rw [if_neg nz]
    have ep1 : pprop c p w'.2.2 1 = nI (lnN c w'.2.2) := by
      show c (22 + 16 * w'.2.2 + 1) = _
      rw [show 22 + 16 * w'.2.2 + 1 = 23 + 16 * w'.2.2 by omega]
      exact l1
    have ep0 : pprop c p w'.2.2 0 = nI (owN c w'.2.2) := o1
    have pc : ∀ s', SX s' c b n → CTi mX6_piece (8 - 1) [.ref 0, .int (nI j), .int (nI (e + 1))] s' (fun x s => VV mL_law 8 sc 817 [some (.ref 102), some (.ref 0), some (.int v2), some (.int (nI m)), some (.int (nI p)), some (.int v5), some (.int v6), some (.int (nI j)), some (.int (nI n)), some (.int v9), some (.int v10), some (.int v11), some (.long v12), none, some (.int v14), some (.int (nI w0.1)), some (.int (nI (wlk c TT (e + 1) 0))), some (.int (nI (cst + fN c j w'.2.2))), some (.int (nI (e + 1))), some (.int x)] [] s (Qi K)) := fun s' hs' => by
      refine p_piece (e := e + 1) (by omega) hs'.rd hR hok hj (by omega) hla hT (fun h3 s2 f2 => ?_) (fun w1 w2 h3 h4 h5 s2 f2 => ?_)
      · have h3 := h3 w0 h0
        have g := ih s2 (cst + fN c j w'.2.2) v (hs'.C f2) r1 (by omega) (by omega)
        rw [if_pos (show v.2.1 = 0 by omega)] at g
        exact g
      · have e3 : w2 = v := Option.some.inj (h5.symm.trans r1)
        have e4 : w1 = w0 := Option.some.inj (h3.symm.trans h0)
        subst e3
        subst e4
        have g := ih s2 (cst + fN c j w'.2.2) w2 (hs'.C f2) r1 (by omega) (by omega)
        rw [if_neg (show ¬ w2.2.1 = 0 by omega)] at g
        exact g
    refine bL_law_817 _ _ _ _ _ _ _ _ _ _ _ _ _ _ _ _ _ (by omega) (br_f (nI_pos (by omega)) (p_phrase (w := 1) (by omega) hs.rd hR q4 (by omega) (fun s1 f1 => p_phrase (w := 0) (by omega) (hs.C f1).rd hR q4 (by omega) (fun s2 f2 => ?_))))
    have hs2 := (hs.C f1).C f2
    rw [ep1, ep0, nI_add (wlk c TT e 0), ← q5, nI_add e 1]
    by_cases ho : owN c w'.2.2 = j
    · refine br_nf (congrArg nI ho) ?_
      have ef : fN c j w'.2.2 = 0 := if_pos ho
      rw [ef] at pc
      rw [nI_add cst 0]
      exact pc s2 hs2
    · refine br_nt (nI_neq (by omega) (by omega) ho) (p_phrase (w := 0) (by omega) hs2.rd hR q4 (by omega) (fun s3 f3 => ?_))
      rw [ep0]
      refine p_member (w := 0) (by omega) (hs2.C f3).rd hR o2 (by omega) ?_
      have ef : fN c j w'.2.2 = pr := by
        unfold fN
        rw [if_neg ho, pr2, cl (by omega)]
      rw [ef] at pc
      rw [show mprop c p q (owN c w'.2.2) 0 = nI pr from pr2, nI_add cst pr]
      exact pc s3 (hs2.C f3)
theorem law791 (hx : SX σ c b n) (hR : Row c m p q) (hn : n ≤ 10) (hok : flt b n = (-1000000)) (hla : (lw b n).length = n) (hj : j < m) (k : ∀ s, SX s c b n → VV mL_law 8 sc 368 [some (.ref 102), some (.ref 0), some (.int v2), some (.int (nI m)), some (.int (nI p)), some (.int (v5 + nI 1)), none, none, none, none, none, none, none, none, none, none, none, none, none, none] [] s (Qi K)) : VV mL_law 8 sc 791 [some (.ref 102), some (.ref 0), some (.int v2), some (.int (nI m)), some (.int (nI p)), some (.int v5), some (.int v6), some (.int (nI j)), some (.int (nI n)), some (.int v9), some (.int v10), some (.int v11), some (.long v12), none, some (.int v14), none, none, none, none, none] [] σ (Qi K) := by
  have hm6 := hR.2.1
  refine bL_law_791 _ _ _ _ _ _ _ _ _ _ _ _ (by omega) (p_cheapest (by omega) hx.rd hR hok hj (fun s1 f1 => ?_))
  have hs1 := hx.C f1
  rw [hla]
  generalize hT : wtab c j (tw b n) n p n = TT
  cases h0 : TT 0 with
  | none =>
    refine p_piece (e := 0) (by omega) hs1.rd hR hok hj (by omega) hla hT (fun _ s2 f2 => ?_) (fun w0 w h1 => by rw [h0] at h1; cases h1)
    exact bL_law_817 _ _ _ _ _ _ _ _ _ _ _ _ _ _ _ _ _ (by omega) (br_t neg_n (br_f (by decide) (br_nf rfl (br_t rfl (bL_law_919 _ _ _ _ _ _ _ _ _ _ _ _ _ _ _ _ _ (k s2 (hs1.C f2)))))))
  | some w0 =>
    have go := law817 (v2 := v2) (v5 := v5) (v6 := v6) (v9 := v9) (v10 := v10) (v11 := v11) (v12 := v12) (v14 := v14) hR hn hok hla hj hT h0 k 0 (Nat.zero_le _)
    refine p_piece (e := 0) (by omega) hs1.rd hR hok hj (by omega) hla hT (fun h1 s2 f2 => ?_) (fun w1 w h1 h2 h3 s2 f2 => ?_)
    · have h1 := h1 w0 h0
      have g := go s2 0 w0 (hs1.C f2) h0 (by omega) (by omega)
      rw [if_pos (by omega)] at g
      exact g
    · have e4 : w1 = w0 := Option.some.inj (h1.symm.trans h0)
      subst e4
      have e5 : w = w1 := Option.some.inj (h3.symm.trans h0)
      subst e5
      have g := go s2 0 w (hs1.C f2) h0 (by omega) (by omega)
      rw [if_neg (by omega)] at g
      exact g
theorem law764 (hx : SX σ c b n) (hJ : JJ c m p q T) (hT : T ≤ 1000) (k : ∀ s c2 T2, SX s c2 b n → JJ c2 m p q T2 → T2 ≤ T + 9 → VV mL_law 8 sc 791 [some (.ref 102), some (.ref 0), some (.int v2), some (.int (nI m)), some (.int (nI p)), some (.int v5), some (.int v6), some (.int (nI j)), some (.int (nI n)), some (.int v9), some (.int v10), some (.int v11), some (.long v12), none, some (.int v14), none, none, none, none, none] [] s (Qi K)) : VV mL_law 8 sc 764 [some (.ref 102), some (.ref 0), some (.int v2), some (.int (nI m)), some (.int (nI p)), some (.int v5), some (.int v6), some (.int (nI j)), some (.int (nI n)), some (.int v9), some (.int v10), some (.int v11), some (.long v12), none, some (.int v14), none, none, none, none, none] [] σ (Qi K) := by
  refine bL_law_764 _ _ _ _ _ _ _ _ _ _ _ _ (by omega) ⟨fun _ => k σ c T hx hJ (by omega), fun _ => s_low (by omega) (by omega) (fun r hr => ?_)⟩
  rw [nI_add]
  exact p_pass (by omega) hx (by omega) (by omega) hJ.1.2.1 (by omega) (fun v s hs => k s _ (T + (1 + r)) hs.X (pass_jj hJ (by omega)) (by omega))
theorem law727 (hy : SY σ c1 b n c) (hJ1 : JJ c1 m p q1 T) (hJ : JJ c m p q T) (hi : ∀ k, 654 ≤ k → c1 k = c k) (hv : v12 = dgA c m p q) (k : ∀ s c2 q2, SX s c2 b n → JJ c2 m p q2 T → q2 = q1 ∨ q2 = q → VV mL_law 8 sc 764 [some (.ref 102), some (.ref 0), some (.int v2), some (.int (nI m)), some (.int (nI p)), some (.int v5), some (.int v6), some (.int (nI j)), some (.int (nI n)), some (.int v9), some (.int v10), some (.int v11), some (.long v12), none, some (.int v14), none, none, none, none, none] [] s (Qi K)) : VV mL_law 8 sc 727 [some (.ref 102), some (.ref 0), some (.int v2), some (.int (nI m)), some (.int (nI p)), some (.int v5), some (.int v6), some (.int (nI j)), some (.int (nI n)), some (.int v9), some (.int v10), some (.int v11), some (.long v12), none, some (.int v14), none, none, none, none, none] [] σ (Qi K) := by
  refine bL_law_727 _ _ _ _ _ _ _ _ _ _ _ _ (by omega) (s_fits (by omega) hy.rd hJ1.1 (fun s1 f1 => br_f one_ne ⟨fun _ => k s1 c1 q1 (hy.C f1).X hJ1 (Or.inl rfl), fun _ => p_undo (by omega) (hy.C f1) hi (fun t s2 ht hs2 => br_f (nI_pos (by omega)) (p_digest (by omega) hs2.rd hJ.1.1 (fun s3 f3 => br_t ?_ (k s3 c q (hs2.C f3) hJ (Or.inr rfl)))))⟩))
  rw [hv]
  exact lg_same _
end LAWS
