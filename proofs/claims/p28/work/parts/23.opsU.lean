/-! A PHRASE IS USED -/
theorem m1 (x : Int32) : nI 1 * x = x := Int32.one_mul x
theorem sub_neg (x y : Int32) : x - nI 1 * y = x + -y := by rw [m1, Int32.sub_eq_add_neg]
def z0 (_ : Nat) : Int32 := nI 0
/-- the cells of a note before its shares -/
def ntB (c : Nat → Int32) (b : Nat) (a0 a1 a2 a3 a4 : Int32) : Nat → Int32 := upd (upd (upd (upd (upd (upd c b a0) (b + 1) a1) (b + 2) a2) (b + 3) a3) (b + 4) a4) (b + 5) (nI 0)
def useA (c : Nat → Int32) (m q j i x : Nat) (fee : Int32) : Nat → Int32 := mvm (spl c (349 + 13 * q) (i + 1) i (fee - fee * c 6 / nI 100) (upd (wrd (ntB (upd c 2 (nI (q + 1))) (342 + 13 * q) (nI j) (nI i) (nI x) fee (c 3)) (349 + 13 * q) z0 6) (342 + 13 * q + 6) (fee * c 6 / nI 100))) (342 + 13 * q) j (nI 1) m
def useR (c : Nat → Int32) (m q j i x : Nat) (fee : Int32) : Nat → Int32 := upd (useA c m q j i x fee) (27 + 16 * i) (useA c m q j i x fee (27 + 16 * i) + nI 1)
def useB (c : Nat → Int32) (m q j i x : Nat) (fee : Int32) : Nat → Int32 := mvm (spl c (349 + 13 * q) (i + 1) i (fee - fee * c 6 / nI 100) (wrd (upd (ntB c (342 + 13 * q) (nI j) (nI i) (nI x) fee (c 3)) (342 + 13 * q + 6) (fee * c 6 / nI 100)) (349 + 13 * q) z0 6)) (342 + 13 * q) j (nI 1) m
section OPU
variable {d : Nat} {σ : SS} {K : Int32 → SS → Prop} {Kv : SS → Prop} {c : Nat → Int32} {m p q n z : Nat}
theorem s_splitFee {i : Nat} {fee : Int32} {t : SS} {f : Nat → Int32} (hd : 2 ≤ d) (hR : Row c m p q) (hq : q < 24) (hi : i < p) (et : t.1 12 = f) (hf : ∀ k, k < 342 → k ≠ 2 → f k = c k) (h1 : f (342 + 13 * q + 1) = nI i) (h3 : f (342 + 13 * q + 3) = fee) (k : ∀ t', Fr (P1 12) F0f t t' → t'.1 12 = spl c (349 + 13 * q) (i + 1) i (fee - fee * c 6 / nI 100) (upd (wrd f (349 + 13 * q) z0 6) (342 + 13 * q + 6) (fee * c 6 / nI 100)) → Kv t') : CTv mX2_splitFee d [.ref 1, .int (nI q)] t Kv := by
  have hp20 := hR.2.2.2.1
  refine eX2_splitFee _ ?_
  refine cup (I := fun i s => Fr (P1 12) F0f t s ∧ s.1 12 = wrd f (349 + 13 * q) z0 i) (G := fun i s => VV mX2_splitFee d s00 2 [some (.ref 1), some (.int (nI q)), some (.int (nI i)), none, none, none, none, none] [] s (Qv Kv)) 6 ?_ ?_ 0 (Nat.zero_le _) _ ⟨Fr.rf, by rw [wrd_0]; exact et⟩
  · intro s ⟨fs, es⟩
    refine bX2_splitFee_2 _ _ (by omega) (br_t (nI_le (Nat.le_refl _) (by omega)) (s_noteProperty (k := 3) (by omega) (by omega) (by omega) (s_settingOf (k := 1) (by omega) (s_noteCell (k := 6) ⟨vp_in_nI (by omega) (by omega), s_noteProperty (k := 3) (by omega) (by omega) (by omega) (s_noteProperty (k := 1) (by omega) (by omega) (by omega) ?_)⟩))))
    have e3 : s.1 12 (342 + 13 * q + 3) = fee := by rw [es, wrd_ne (by omega)]; exact h3
    have e6 : s.1 12 (5 + 1) = c 6 := by rw [es, wrd_ne (by omega)]; exact hf 6 (by omega) (by omega)
    have e1 : s.1 12 (342 + 13 * q + 1) = nI i := by rw [es, wrd_ne (by omega)]; exact h1
    rw [e3, e6, cl (by omega), sA_at, upd_ne _ _ (show 342 + 13 * q + 3 ≠ 342 + 13 * q + 6 by omega), upd_ne _ _ (show 342 + 13 * q + 1 ≠ 342 + 13 * q + 6 by omega), e3, e1]
    refine s_split74 hd hR hq (i + 1) i _ _ _ 0 (by omega) hi (by omega) (fs.tr (Fr.sA rfl)) rfl (fun k k1 k2 => ?_) (fun t' f' e' => k t' f' ?_)
    · rw [sA_at, upd_ne _ _ (by omega), es, wrd_ne (by omega)]
      exact hf k k1 k2
    · rw [e', sA_at, es]
  · intro v hv ih s ⟨fs, es⟩
    refine bX2_splitFee_2 _ _ (by omega) (br_f (nI_ge hv (by omega)) ?_)
    rw [nI_add, nI_add]
    refine s_noteCell ⟨vp_in_nI (by omega) (by omega), ih _ ⟨fs.tr (Fr.sA rfl), ?_⟩⟩
    rw [sA_at, cl (by omega), es, show 342 + 13 * q + (7 + v) = 349 + 13 * q + v by omega]
    exact wrd_s f (349 + 13 * q) z0 v
theorem s_startNote {j i x : Nat} (hd : 3 ≤ d) (hR : Row (σ.1 12) m p q) (hq : q < 24) (hj : j < m) (hi : i < p) (k : ∀ s, Fr (P1 12) F0f σ s → s.1 12 = useR (σ.1 12) m q j i x (feeV (σ.1 12) j i x) → K (nI q) s) : CTi mX2_startNote d [.ref 1, .int (nI j), .int (nI i), .int (nI x)] σ K := by
  have hp20 := hR.2.2.2.1
  have hm6 := hR.2.1
  obtain ⟨ho, ho2⟩ := hR.own hi
  refine eX2_startNote _ _ _ (by omega) ⟨vp_in_nI (by omega) (by omega), vp_in_nI (by omega) (by omega), ?_⟩
  rw [cl (n := 2) (by omega), hR.2.2.2.2.1, nI_add]
  refine s_noteCell (k := 0) ⟨vp_in_nI (by omega) (by omega), s_noteCell (k := 1) ⟨vp_in_nI (by omega) (by omega), s_noteCell (k := 2) ⟨vp_in_nI (by omega) (by omega), s_noteCell (k := 3) ?_⟩⟩⟩
  rw [cl (by omega), cl (by omega), cl (by omega)]
  simp only [Nat.add_zero]
  refine s_feeFor (o := owN (σ.1 12) i) (by omega) (by omega) (by omega) (by omega) ?_ ⟨vp_in_nI (by omega) (by omega), ?_⟩
  · simp (disch := omega) only [sA_at, upd_ne]
    exact ho
  have efee : (if owN (σ.1 12) i = j then nI 0 else (sA (sA (sA (sA σ 12 2 (nI (q + 1))) 12 (342 + 13 * q) (nI j)) 12 (342 + 13 * q + 1) (nI i)) 12 (342 + 13 * q + 2) (nI x)).1 12 (10 + 2 * owN (σ.1 12) i) * nI x / nI 100) = feeV (σ.1 12) j i x := by
    simp (disch := omega) only [sA_at, upd_ne]
    rfl
  rw [efee, cl (by omega)]
  refine s_noteCell (k := 4) (s_tick ⟨vp_in_nI (by omega) (by omega), ?_⟩)
  rw [cl (by omega)]
  refine s_noteCell (k := 5) ⟨vp_in_nI (by omega) (by omega), ?_⟩
  rw [cl (by omega)]
  generalize hfee : feeV (σ.1 12) j i x = fee
  rw [hfee] at k
  have e0 : (sA (sA (sA (sA (sA (sA (sA σ 12 2 (nI (q + 1))) 12 (342 + 13 * q) (nI j)) 12 (342 + 13 * q + 1) (nI i)) 12 (342 + 13 * q + 2) (nI x)) 12 (342 + 13 * q + 3) fee) 12 (342 + 13 * q + 4) ((sA (sA (sA (sA (sA σ 12 2 (nI (q + 1))) 12 (342 + 13 * q) (nI j)) 12 (342 + 13 * q + 1) (nI i)) 12 (342 + 13 * q + 2) (nI x)) 12 (342 + 13 * q + 3) fee).1 12 3)) 12 (342 + 13 * q + 5) (nI 0)).1 12 = ntB (upd (σ.1 12) 2 (nI (q + 1))) (342 + 13 * q) (nI j) (nI i) (nI x) fee (σ.1 12 3) := by
    simp (disch := omega) only [sA_at, upd_ne]
    rfl
  refine s_splitFee (c := σ.1 12) (i := i) (fee := fee) (by omega) hR hq hi e0 (fun k k1 k2 => ?_) ?_ ?_ (fun s1 f1 e1 => ?_)
  · unfold ntB
    simp (disch := omega) only [upd_ne]
  · unfold ntB
    simp (disch := omega) only [upd_ne, upd_at]
  · unfold ntB
    simp (disch := omega) only [upd_ne, upd_at]
  have o1 : ∀ t, t < 349 + 13 * q → t ≠ 342 + 13 * q + 6 → s1.1 12 t = ntB (upd (σ.1 12) 2 (nI (q + 1))) (342 + 13 * q) (nI j) (nI i) (nI x) fee (σ.1 12 3) t := fun t h1 h2 => by
    rw [e1, spl_out hR (Or.inl h1) _ _ _ _ hi, upd_ne _ _ h2, wrd_ne (Or.inl h1)]
  refine s_moveMoney (m := m) (j := j) (by omega) ?_ hm6 (by omega) hj ?_ (fun s2 f2 e2 => ?_)
  · rw [o1 _ (by omega) (by omega)]
    unfold ntB
    simp (disch := omega) only [upd_ne]
    exact hR.1
  · rw [o1 _ (by omega) (by omega)]
    unfold ntB
    simp (disch := omega) only [upd_ne, upd_at]
  refine s_phraseCell (k := 5) ⟨vp_in_nI (by omega) (by omega), ?_⟩
  rw [cl (by omega), show 22 + 16 * i + 5 = 27 + 16 * i by omega]
  have e2' : s2.1 12 = useA (σ.1 12) m q j i x fee := by rw [e2, e1]; rfl
  refine k _ (((((((((Fr.sA rfl).tr (Fr.sA rfl)).tr (Fr.sA rfl)).tr (Fr.sA rfl)).tr (Fr.sA rfl)).tr (Fr.sA rfl)).tr (Fr.sA rfl)).tr f1).tr (f2.tr (Fr.sA rfl))) ?_
  rw [sA_at, e2']
  rfl
/-! the reference -/
theorem use_base {q j i x : Nat} {fee t3 x2 cut : Int32} {k : Nat} (hk : k ≠ 2) : upd (wrd (ntB (upd c 2 x2) (342 + 13 * q) (nI j) (nI i) (nI x) fee t3) (349 + 13 * q) z0 6) (342 + 13 * q + 6) cut k = wrd (upd (ntB c (342 + 13 * q) (nI j) (nI i) (nI x) fee t3) (342 + 13 * q + 6) cut) (349 + 13 * q) z0 6 k := by
  unfold ntB wrd
  simp only [upd]
  repeat' split
  all_goals first | rfl | omega
theorem use_eqx {q j i x : Nat} {fee : Int32} {k : Nat} (hk : k ≠ 2) : useA c m q j i x fee k = useB c m q j i x fee k := by
  unfold useA useB
  exact mvm_cell (spl_cell _ _ _ _ _ (use_base hk)) (spl_cell _ _ _ _ _ (use_base (by omega))) (spl_cell _ _ _ _ _ (use_base (by omega))) (fun t _ => spl_cell _ _ _ _ _ (use_base (by omega)))
theorem useA_at {q j i x : Nat} {fee : Int32} {k : Nat} (hR : Row c m p q) (hj : j < m) (hi : i < p) (h : 22 ≤ k ∨ k < 4 ∨ 4 < k ∧ k < 11 ∨ ∃ t, k = 10 + 2 * t) (h1 : k < 342 + 13 * q + 6) : useA c m q j i x fee k = ntB (upd c 2 (nI (q + 1))) (342 + 13 * q) (nI j) (nI i) (nI x) fee (c 3) k := by
  unfold useA
  rw [mvm_out hR.2.1 hj h, spl_out hR (Or.inl (by omega)) _ _ _ _ hi, upd_ne _ _ (by omega), wrd_ne (Or.inl (by omega))]
theorem useA_lo {q j i x : Nat} {fee : Int32} {k : Nat} (hR : Row c m p q) (hj : j < m) (hi : i < p) (h : 22 ≤ k ∨ k < 4 ∨ 4 < k ∧ k < 11 ∨ ∃ t, k = 10 + 2 * t) (h1 : k < 342 + 13 * q) (h2 : k ≠ 2) : useA c m q j i x fee k = c k := by
  rw [useA_at hR hj hi h (by omega)]
  unfold ntB
  simp (disch := omega) only [upd_ne]
theorem useR_row {q j i x : Nat} {fee : Int32} (hR : Row c m p q) (hj : j < m) (hi : i < p) (hq : q < 24) : Row (useR c m q j i x fee) m p (q + 1) := by
  obtain ⟨g0, g1, g2, g3, g4, g5, g6, g7, g8, g9⟩ := id hR
  unfold useR
  refine ⟨?_, g1, ?_, g3, ?_, by omega, fun t ht => ?_, fun t ht => ?_, ?_, fun t ht => ?_⟩
  · rw [upd_ne _ _ (by omega), useA_lo hR hj hi (by omega) (by omega) (by omega)]; exact g0
  · rw [upd_ne _ _ (by omega), useA_lo hR hj hi (by omega) (by omega) (by omega)]; exact g2
  · rw [upd_ne _ _ (by omega), useA_at hR hj hi (by omega) (by omega)]
    unfold ntB
    simp (disch := omega) only [upd_ne, upd_at]
  · have g := g6 t ht
    unfold PhOK at g ⊢
    rw [upd_ne _ _ (by omega), useA_lo hR hj hi (by omega) (by omega) (by omega), upd_ne _ _ (by omega), useA_lo hR hj hi (by omega) (by omega) (by omega), upd_ne _ _ (by omega), useA_lo hR hj hi (by omega) (by omega) (by omega), upd_ne _ _ (by omega), useA_lo hR hj hi (by omega) (by omega) (by omega)]
    exact g
  · by_cases e : t = q
    · subst e
      unfold NtOK
      refine ⟨⟨j, hj, ?_⟩, ⟨i, hi, ?_⟩, Or.inl ?_⟩
      · rw [upd_ne _ _ (by omega), useA_at hR hj hi (by omega) (by omega)]
        unfold ntB
        simp (disch := omega) only [upd_ne, upd_at]
      · rw [upd_ne _ _ (by omega), useA_at hR hj hi (by omega) (by omega), show 343 + 13 * t = 342 + 13 * t + 1 by omega]
        unfold ntB
        simp (disch := omega) only [upd_ne, upd_at]
      · rw [upd_ne _ _ (by omega), useA_at hR hj hi (by omega) (by omega), show 347 + 13 * t = 342 + 13 * t + 5 by omega]
        unfold ntB
        simp (disch := omega) only [upd_ne, upd_at]
    · have g := g7 t (by omega)
      unfold NtOK at g ⊢
      rw [upd_ne _ _ (by omega), useA_lo hR hj hi (by omega) (by omega) (by omega), upd_ne _ _ (by omega), useA_lo hR hj hi (by omega) (by omega) (by omega), upd_ne _ _ (by omega), useA_lo hR hj hi (by omega) (by omega) (by omega)]
      exact g
  · rw [upd_ne _ _ (by omega), useA_lo hR hj hi (by omega) (by omega) (by omega)]; exact g8
  · rw [upd_ne _ _ (by omega), useA_lo hR hj hi (Or.inr (Or.inr (Or.inr ⟨t, rfl⟩))) (by omega) (by omega)]
    exact g9 t ht
end OPU
