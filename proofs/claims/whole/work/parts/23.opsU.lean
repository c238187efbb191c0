/-! A PHRASE IS USED -/
theorem m1 (x : Int32) : nI 1 * x = x := Int32.one_mul x
theorem sub_neg (x y : Int32) : x - nI 1 * y = x + -y := by rw [m1, Int32.sub_eq_add_neg]
def z0 (_ : Nat) : Int32 := nI 0
/-- the cells of a note before its shares -/
def ntB (c : Nat → Int32) (b : Nat) (a0 a1 a2 a3 a4 : Int32) : Nat → Int32 := upd (upd (upd (upd (upd (upd c b a0) (b + 1) a1) (b + 2) a2) (b + 3) a3) (b + 4) a4) (b + 5) (nI 0)
def useA (c : Nat → Int32) (m q j i x : Nat) (fee : Int32) : Nat → Int32 := mvm (spl c (349 + 13 * q) (i + 1) i (fee - fee * c 6 / nI 100) (upd (wrd (ntB (upd c 2 (nI (q + 1))) (342 + 13 * q) (nI j) (nI i) (nI x) fee (c 3)) (349 + 13 * q) z0 6) (342 + 13 * q + 6) (fee * c 6 / nI 100))) (342 + 13 * q) j (nI 1) m
def useR (c : Nat → Int32) (m q j i x : Nat) (fee : Int32) : Nat → Int32 := upd (useA c m q j i x fee) (27 + 16 * i) (useA c m q j i x fee (27 + 16 * i) + nI 1)
def useB (c : Nat → Int32) (m q j i x : Nat) (fee : Int32) : Nat → Int32 := mvm (spl c (349 + 13 * q) (i + 1) i (fee - fee * c 6 / nI 100) (wrd (upd (ntB c (342 + 13 * q) (nI j) (nI i) (nI x) fee (c 3)) (342 + 13 * q + 6) (fee * c 6 / nI 100)) (349 + 13 * q) z0 6)) (342 + 13 * q) j (nI 1) m
section OPU
variable {d : Nat} {σ : SS} {K : Int32 → SS → Prop} {Kv : SS → Prop} {c : Nat → Int32} {m p q n z : Nat}
theorem s_splitFee {i : Nat} {fee : Int32} {t : SS} {f : Nat → Int32} (hd : 2 ≤ d) (hR : Row c m p q) (hq : q < 24) (hi : i < p) (et : t.1 12 = f) (hf : ∀ k, k < 342 → k ≠ 2 → f k = c k) (h1 : f (342 + 13 * q + 1) = nI i) (h3 : f (342 + 13 * q + 3) = fee) (k : ∀ t', Fr (P1 12) F0f t t' → t'.1 12 = spl c (349 + 13 * q) (i + 1) i (fee - fee * c 6 / nI 100) (upd (wrd f (349 + 13 * q) z0 6) (342 + 13 * q + 6) (fee * c 6 / nI 100)) → Kv t') : CTv mX2_splitFee d [.ref 1, .int (nI q)] t Kv := by
  have hp20 := hR.2.2.2.1
  refine eX2_splitFee _ ?_
  refine cup (I := fun i s => Fr (P1 12) F0f t s ∧ s.1 12 = wrd f (349 + 13 * q) z0 i) (G := fun i s => VV mX2_splitFee d s00 2 [some (.ref 1), some (.int (nI q)), some (.int (nI i)), none, none, none, none, none] [] s (Qv Kv)) 6 ?_ ?_ 0 (Nat.zero_le _) _ ⟨Fr.rf, by rw [wrd_0]; exact et⟩
  · intro s ⟨fs, es⟩
    refine bX2_splitFee_2 _ _ (by omega) (br_t (nI_le (Nat.le_refl _) (by omega)) (s_noteProperty (k := 3) (by omega) (by omega) (by omega) (s_settingOf (k := 1) (by omega) (s_noteCell (k := 6) ⟨vp_in_nI (by omega) (by omega), s_noteProperty (k := 3) (by omega) (by omega) (by omega) (s_noteProperty (k := 1) (by omega) (by omega) (by omega) ?_)⟩))))
    have e3 : s.1 12 (342 + 13 * q + 3) = fee := by rw [es, wrd_ne (by omega)]; exact h3
    have e6 : s.1 12 (5 + 1) = c 6 := by rw [es, wrd_ne (by omega)]; exact hf 6 (by omega) (by omega)
    have e1 : s.1 12 (342 + 13 * q + 1) = nI i := by rw [es, wrd_ne (by omega)]; exact h1
    rw [e3, e6, cl (by omega), sA_at, upd_ne _ _ (show 342 + 13 * q + 3 ≠ 342 + 13 * q + 6 by omega), upd_ne _ _ (show 342 + 13 * q + 1 ≠ 342 + 13 * q + 6 by omega), e3, e1]
    refine s_split74 hd hR hq (i + 1) i _ _ _ 0 (by omega) hi (by omega) (fs.tr (Fr.sA rfl)) rfl (fun k k1 k2 => ?_) (fun t' f' e' => k t' f' ?_)
    · rw [sA_at, upd_ne _ _ (by omega), es, wrd_ne (by omega)]
      exact hf k k1 k2
    · rw [e', sA_at, es]
  · intro v hv ih s ⟨fs, es⟩
    refine bX2_splitFee_2 _ _ (by omega) (br_f (nI_ge hv (by omega)) ?_)
    rw [nI_add, nI_add]
    refine s_noteCell ⟨vp_in_nI (by omega) (by omega), ih _ ⟨fs.tr (Fr.sA rfl), ?_⟩⟩
    rw [sA_at, cl (by omega), es, show 342 + 13 * q + (7 + v) = 349 + 13 * q + v by omega]
    exact wrd_s f (349 + 13 * q) z0 v
theorem s_startNote {j i x : Nat} (hd : 3 ≤ d) (hR : Row (σ.1 12) m p q) (hq : q < 24) (hj : j < m) (hi : i < p) (k : ∀ s, Fr (P1 12) F0f σ s → s.1 12 = useR (σ.1 12) m q j i x (feeV (σ.1 12) j i x) → K (nI q) s) : CTi mX2_startNote d [.ref 1, .int (nI j), .int (nI i), .int (nI x)] σ K := by
  have hp20 := hR.2.2.2.1
  have hm6 := hR.2.1
  obtain ⟨ho, ho2⟩ := hR.own hi
  refine eX2_startNote _ _ _ (by omega) ⟨vp_in_nI (by omega) (by omega), vp_in_nI (by omega) (by omega), ?_⟩
  rw [cl (n := 2) (by omega), hR.2.2.2.2.1, nI_add]
  refine s_noteCell (k := 0) ⟨vp_in_nI (by omega) (by omega), s_noteCell (k := 1) ⟨vp_in_nI (by omega) (by omega), s_noteCell (k := 2) ⟨vp_in_nI (by omega) (by omega), s_noteCell (k := 3) ?_⟩⟩⟩
  rw [cl (by omega), cl (by omega), cl (by omega)]
  simp only [Nat.add_zero]
  refine s_feeFor (o := owN (σ.1 12) i) (by omega) (by omega) (by omega) (by omega) ?_ ⟨vp_in_nI (by omega) (by omega), ?_⟩
  · simp (disch := omega) only [sA_at, upd_ne]
    exact ho
  have efee : (if owN (σ.1 12) i = j then nI 0 else (sA (sA (sA (sA σ 12 2 (nI (q + 1))) 12 (342 + 13 * q) (nI j)) 12 (342 + 13 * q + 1) (nI i)) 12 (342 + 13 * q + 2) (nI x)).1 12 (10 + 2 * owN (σ.1 12) i) * nI x / nI 100) = feeV (σ.1 12) j i x := by
    simp (disch := omega) only [sA_at, upd_ne]
    rfl
  rw [efee, cl (by omega)]
  refine s_noteCell (k := 4) (s_tick ⟨vp_in_nI (by omega) (by omega), ?_⟩)
  rw [cl (by omega)]
  refine s_noteCell (k := 5) ⟨vp_in_nI (by omega) (by omega), ?_⟩
  rw [cl (by omega)]
  generalize hfee : feeV (σ.1 12) j i x = fee
  rw [hfee] at k
  have e0 : (sA (sA (sA (sA (sA (sA (sA σ 12 2 (nI (q + 1))) 12 (342 + 13 * q) (nI j)) 12 (342 + 13 * q + 1) (nI i)) 12 (342 + 13 * q + 2) (nI x)) 12 (342 + 13 * q + 3) fee) 12 (342 + 13 * q + 4) ((sA (sA (sA (sA (sA σ 12 2 (nI (q + 1))) 12 (342 + 13 * q) (nI j)) 12 (342 + 13 * q + 1) (nI i)) 12 (342 + 13 * q + 2) (nI x)) 12 (342 + 13 * q + 3) fee).1 12 3)) 12 (342 + 13 * q + 5) (nI 0)).1 12 = ntB (upd (σ.1 12) 2 (nI (q + 1))) (342 + 13 * q) (nI j) (nI i) (nI x) fee (σ.1 12 3) := by
    simp (disch := omega) only [sA_at, upd_ne]
    rfl
  refine s_splitFee (c := σ.1 12) (i := i) (fee := fee) (by omega) hR hq hi e0 (fun k k1 k2 => ?_) ?_ ?_ (fun s1 f1 e1 => ?_)
  · unfold ntB
    simp (disch := omega) only [upd_ne]
  · unfold ntB
    simp (disch := omega) only [upd_ne, upd_at]
  · unfold ntB
    simp (disch := omega) only [upd_ne, upd_at]
  have o1 : ∀ t, t < 349 + 13 * q → t ≠ 342 + 13 * q + 6 → s1.1 12 t = ntB (upd (σ.1 12) 2 (nI (q + 1))) (342 + 13 * q) (nI j) (nI i) (nI x) fee (σ.1 12 3) t := fun t h1 h2 => by
    rw [e1, spl_out hR (Or.inl h1) _ _ _ _ hi, upd_ne _ _ h2, wrd_ne (Or.inl h1)]
  refine s_moveMoney (m := m) (j := j) (by omega) ?_ hm6 (by omega) hj ?_ (fun s2 f2 e2 => ?_)
  · rw [o1 _ (by omega) (by omega)]
    unfold ntB
    simp (disch := omega) only [upd_ne]
    exact hR.1
  · rw [o1 _ (by omega) (by omega)]
    unfold ntB
    simp (disch := omega) only [upd_ne, upd_at]
  refine s_phraseCell (k := 5) ⟨vp_in_nI (by omega) (by omega), ?_⟩
  rw [cl (by omega), show 22 + 16 * i + 5 = 27 + 16 * i by omega]
  have e2' : s2.1 12 = useA (σ.1 12) m q j i x fee := by rw [e2, e1]; rfl
  refine k _ (((((((((Fr.sA rfl).tr (Fr.sA rfl)).tr (Fr.sA rfl)).tr (Fr.sA rfl)).tr (Fr.sA rfl)).tr (Fr.sA rfl)).tr (Fr.sA rfl)).tr f1).tr (f2.tr (Fr.sA rfl))) ?_
  rw [sA_at, e2']
  rfl
/-! the reference -/
theorem t_pays {i : Nat} {x : Int32} (hc : MC σ c) (hi : i < 6) (k : Kv (sA σ 37 (11 + 2 * i) (c (11 + 2 * i) + x))) : CTv mX7_pays d [.ref 11, .int (nI i), .int x] σ Kv := by
  refine eX7_pays _ _ ?_
  rw [pk_mul, nI_add, nI_add, cl (by omega), hc _ (by omega), show 10 + 2 * i + 1 = 11 + 2 * i by omega]
  exact ⟨vp_in_nI (by omega) (by omega), vp_in_nI (by omega) (by omega), k⟩
theorem t_useEnd {j i : Nat} {v3 v7 fee cut : Int32} {f bb : Nat → Int32} {H : Nat → Nat → Int32} {t : SS} (hd : 1 ≤ d) (ht : MS t f bb n z H) (hm : f 0 = nI m) (hm6 : m ≤ 6) (hq : f 2 = nI q) (hq24 : q < 24) (hj : j < m) (hi : i < 20) (h3 : f (342 + 13 * q + 3) = fee) (h6 : f (342 + 13 * q + 6) = cut) (k : ∀ t', FrB t t' → MS t' (upd (upd (mvm f (342 + 13 * q) j (nI 1) m) (27 + 16 * i) (mvm f (342 + 13 * q) j (nI 1) m (27 + 16 * i) + nI 1)) 2 (nI (q + 1))) bb n z H → K (nI q) t') : VV mX7_use d s00 216 [some (.ref 11), some (.int (nI j)), some (.int (nI i)), some (.int v3), some (.int fee), some (.int (nI (342 + 13 * q))), some (.int cut), some (.int v7), some (.int (-1000000)), none] [] t (Qi K) := by
  refine bX7_use_216 _ _ _ _ _ _ _ _ hd (br_t rfl (t_pays ht.1 (by omega) ⟨vp_in_nI (by omega) (by omega), vp_in_nI (by omega) (by omega), ?_⟩))
  have ms1 := ht.put (i := 11 + 2 * j) (x := f (11 + 2 * j) + -fee) (by omega)
  rw [cl (by omega), ms1.1 4 (by omega), upd_ne _ _ (by omega)]
  have ms2 := ms1.put (i := 4) (x := f 4 + cut) (by omega)
  have ef : upd (upd f (11 + 2 * j) (f (11 + 2 * j) + -fee)) 4 (f 4 + cut) = upd (upd f (11 + 2 * j) (f (11 + 2 * j) - nI 1 * f (342 + 13 * q + 3))) 4 (f 4 + nI 1 * f (342 + 13 * q + 6)) := by
    rw [sub_neg, m1, h3, h6]
  rw [ef] at ms2
  generalize hf2 : upd (upd f (11 + 2 * j) (f (11 + 2 * j) - nI 1 * f (342 + 13 * q + 3))) 4 (f 4 + nI 1 * f (342 + 13 * q + 6)) = f2 at ms2
  have f2n : ∀ k, 22 ≤ k → f2 k = f k := fun k hk => by
    rw [← hf2, upd_ne _ _ (by omega), upd_ne _ _ (by omega)]
  have f2l : ∀ k, k < 4 → f2 k = f k := fun k hk => by
    rw [← hf2, upd_ne _ _ (by omega), upd_ne _ _ (by omega)]
  have em : ∀ k, mvl f2 (fun t => nI 1 * f (342 + 13 * q + 7 + t)) m k = mvm f (342 + 13 * q) j (nI 1) m k := fun k => by
    unfold mvm
    rw [hf2]
  refine cup (I := fun i s => FrB t s ∧ MS s (mvl f2 (fun t => nI 1 * f (342 + 13 * q + 7 + t)) i) bb n z H) (G := fun v s => VV mX7_use d s00 318 [some (.ref 11), some (.int (nI j)), some (.int (nI i)), some (.int v3), some (.int fee), some (.int (nI (342 + 13 * q))), some (.int cut), some (.int v7), some (.int (-1000000)), some (.int (nI v))] [] s (Qi K)) m ?_ ?_ 0 (Nat.zero_le _) _ ⟨z37.tr z37, ms2⟩
  · intro s ⟨fb, ms⟩
    refine bX7_use_318 _ _ _ _ _ _ _ _ _ hd ⟨vp_in_nI (by omega) (by omega), ?_⟩
    have e0 : s.1 37 0 = nI m := by rw [ms.1 0 (by omega), mvl_ne _ (fun t ht => by omega), f2l _ (by omega)]; exact hm
    have e2 : s.1 37 2 = nI q := by rw [ms.1 2 (by omega), mvl_ne _ (fun t ht => by omega), f2l _ (by omega)]; exact hq
    rw [cl (n := 0) (by omega), e0]
    refine br_t (nI_le (Nat.le_refl _) (by omega)) ?_
    simp (disch := omega) only [cl, nI_add, pk_mul, sA_at, upd_ne, upd_at, e2, pk_sub]
    refine ⟨vp_in_nI (by omega) (by omega), vp_in_nI (by omega) (by omega), vp_in_nI (by omega) (by omega), vp_in_nI (by omega) (by omega), vp_in_nI (by omega) (by omega), ?_⟩
    rw [show 22 + 16 * i + 5 = 27 + 16 * i by omega, ms.1 _ (by omega), Nat.add_sub_cancel]
    refine k _ (fb.tr (z37.tr z37)) (((ms.put (i := 27 + 16 * i) (by omega)).put (i := 2) (by omega)).row (fun t ht => ?_))
    rw [em]
    by_cases a2 : t = 2
    · rw [a2, upd_at, upd_at]
    · rw [upd_ne _ _ a2, upd_ne _ _ a2]
      by_cases a3 : t = 27 + 16 * i
      · rw [a3, upd_at, upd_at]
      · rw [upd_ne _ _ a3, upd_ne _ _ a3, em]
  · intro v hv ih s ⟨fb, ms⟩
    refine bX7_use_318 _ _ _ _ _ _ _ _ _ hd ⟨vp_in_nI (by omega) (by omega), ?_⟩
    have e0 : s.1 37 0 = nI m := by rw [ms.1 0 (by omega), mvl_ne _ (fun t ht => by omega), f2l _ (by omega)]; exact hm
    rw [cl (n := 0) (by omega), e0]
    refine br_f (nI_ge hv (by omega)) ?_
    simp (disch := omega) only [cl, nI_add]
    refine ⟨vp_in_nI (by omega) (by omega), t_pays ms.1 (by omega) (ih _ ⟨fb.tr z37, ?_⟩)⟩
    have e := ms.put (i := 11 + 2 * v) (x := f2 (11 + 2 * v) + nI 1 * f (342 + 13 * q + 7 + v)) (by omega)
    have e7 : s.1 37 (342 + 13 * q + 7 + v) = nI 1 * f (342 + 13 * q + 7 + v) := by
      rw [ms.1 _ (by omega), mvl_ne _ (fun t ht => by omega), f2n _ (by omega), m1]
    rw [e7, mvl_ne (k := 11 + 2 * v) _ (fun t ht => by omega)]
    exact e
theorem t_use216 {j i : Nat} {v3 fee cut : Int32} {bb : Nat → Int32} {H : Nat → Nat → Int32} {s : SS} (hd : 1 ≤ d) (hR : Row c m p q) (hq : q < 24) : ∀ fuel i' r f (t : SS), i' < fuel → i' < p → FrB s t → MS t f bb n z H → (∀ k, k < 342 → f k = c k) → (∀ (t' : SS) v7, FrB s t' → MS t' (spl c (349 + 13 * q) fuel i' r f) bb n z H → VV mX7_use d s00 216 [some (.ref 11), some (.int (nI j)), some (.int (nI i)), some (.int v3), some (.int fee), some (.int (nI (342 + 13 * q))), some (.int cut), some (.int v7), some (.int (-1000000)), none] [] t' (Qi K)) → VV mX7_use d s00 216 [some (.ref 11), some (.int (nI j)), some (.int (nI i)), some (.int v3), some (.int fee), some (.int (nI (342 + 13 * q))), some (.int cut), some (.int r), some (.int (nI i')), none] [] t (Qi K) := by
  have hp20 := hR.2.2.2.1
  have hm6 := hR.2.1
  intro fuel
  induction fuel with
  | zero => intro i' r f t h; omega
  | succ fuel ih =>
    intro i' r f t hif hi fb ms hf k
    obtain ⟨ho, ho2⟩ := hR.own hi
    refine bX7_use_216 _ _ _ _ _ _ _ _ hd (br_f (nI_neN (by omega)) (t_of ms.1 (by omega) (by omega) ?_))
    rw [show 22 + 16 * i' + 3 = 25 + 16 * i' by omega, hf _ (by omega)]
    have e7 : t.1 37 (nI 7).toNatClampNeg = c 7 := by rw [cl (by omega), ms.1 7 (by omega)]; exact hf 7 (by omega)
    by_cases hn : c (25 + 16 * i') = (-1000000)
    · refine br_nf hn (t_of ms.1 (by omega) (by omega) ?_)
      rw [Nat.add_zero, hf _ (by omega), ho, nI_add, nI_add, cl (by omega), show 342 + 13 * q + 7 + owN c i' = 349 + 13 * q + owN c i' by omega, ms.1 _ (by omega)]
      have ms2 := ms.put (i := 349 + 13 * q + owN c i') (x := f (349 + 13 * q + owN c i') + (r - nI 0)) (by omega)
      refine ⟨vp_in_nI (by omega) (by omega), vp_in_nI (by omega) (by omega), t_of ms2.1 (by omega) (by omega) ?_⟩
      rw [show 22 + 16 * i' + 3 = 25 + 16 * i' by omega, upd_ne _ _ (by omega), hf _ (by omega), hn]
      refine k _ _ (fb.tr z37) ?_
      rw [spl_n hn]
      exact ms2
    · obtain ⟨a, ha, e⟩ := (hR.par hi).resolve_left hn
      refine br_nt hn ⟨vp_in_nI (by omega) (by omega), t_of ms.1 (by omega) (by omega) ?_⟩
      rw [Nat.add_zero, hf _ (by omega), ho, nI_add, nI_add, cl (n := 342 + 13 * q + 7 + owN c i') (by omega), show 342 + 13 * q + 7 + owN c i' = 349 + 13 * q + owN c i' by omega, ms.1 (349 + 13 * q + owN c i') (by omega), e7]
      have ms2 := ms.put (i := 349 + 13 * q + owN c i') (x := f (349 + 13 * q + owN c i') + (r - r * c 7 / nI 100)) (by omega)
      refine ⟨vp_in_nI (by omega) (by omega), vp_in_nI (by omega) (by omega), t_of ms2.1 (by omega) (by omega) ?_⟩
      rw [show 22 + 16 * i' + 3 = 25 + 16 * i' by omega, upd_ne _ _ (by omega), hf _ (by omega), e]
      refine ih a _ _ _ (by omega) (by omega) (fb.tr z37) ms2 (fun k k1 => ?_) (fun t' v7 f' e' => k t' v7 f' ?_)
      · rw [upd_ne _ _ (by omega)]
        exact hf k k1
      · rw [spl_p hn, e, cl (by omega)]
        exact e'
theorem use_base {q j i x : Nat} {fee t3 x2 cut : Int32} {k : Nat} (hk : k ≠ 2) : upd (wrd (ntB (upd c 2 x2) (342 + 13 * q) (nI j) (nI i) (nI x) fee t3) (349 + 13 * q) z0 6) (342 + 13 * q + 6) cut k = wrd (upd (ntB c (342 + 13 * q) (nI j) (nI i) (nI x) fee t3) (342 + 13 * q + 6) cut) (349 + 13 * q) z0 6 k := by
  unfold ntB wrd
  simp only [upd]
  repeat' split
  all_goals first | rfl | omega
theorem use_eqx {q j i x : Nat} {fee : Int32} {k : Nat} (hk : k ≠ 2) : useA c m q j i x fee k = useB c m q j i x fee k := by
  unfold useA useB
  exact mvm_cell (spl_cell _ _ _ _ _ (use_base hk)) (spl_cell _ _ _ _ _ (use_base (by omega))) (spl_cell _ _ _ _ _ (use_base (by omega))) (fun t _ => spl_cell _ _ _ _ _ (use_base (by omega)))
theorem useA_at {q j i x : Nat} {fee : Int32} {k : Nat} (hR : Row c m p q) (hj : j < m) (hi : i < p) (h : 22 ≤ k ∨ k < 4 ∨ 4 < k ∧ k < 11 ∨ ∃ t, k = 10 + 2 * t) (h1 : k < 342 + 13 * q + 6) : useA c m q j i x fee k = ntB (upd c 2 (nI (q + 1))) (342 + 13 * q) (nI j) (nI i) (nI x) fee (c 3) k := by
  unfold useA
  rw [mvm_out hR.2.1 hj h, spl_out hR (Or.inl (by omega)) _ _ _ _ hi, upd_ne _ _ (by omega), wrd_ne (Or.inl (by omega))]
theorem useA_lo {q j i x : Nat} {fee : Int32} {k : Nat} (hR : Row c m p q) (hj : j < m) (hi : i < p) (h : 22 ≤ k ∨ k < 4 ∨ 4 < k ∧ k < 11 ∨ ∃ t, k = 10 + 2 * t) (h1 : k < 342 + 13 * q) (h2 : k ≠ 2) : useA c m q j i x fee k = c k := by
  rw [useA_at hR hj hi h (by omega)]
  unfold ntB
  simp (disch := omega) only [upd_ne]
theorem useR_row {q j i x : Nat} {fee : Int32} (hR : Row c m p q) (hj : j < m) (hi : i < p) (hq : q < 24) : Row (useR c m q j i x fee) m p (q + 1) := by
  obtain ⟨g0, g1, g2, g3, g4, g5, g6, g7, g8, g9⟩ := id hR
  unfold useR
  refine ⟨?_, g1, ?_, g3, ?_, by omega, fun t ht => ?_, fun t ht => ?_, ?_, fun t ht => ?_⟩
  · rw [upd_ne _ _ (by omega), useA_lo hR hj hi (by omega) (by omega) (by omega)]; exact g0
  · rw [upd_ne _ _ (by omega), useA_lo hR hj hi (by omega) (by omega) (by omega)]; exact g2
  · rw [upd_ne _ _ (by omega), useA_at hR hj hi (by omega) (by omega)]
    unfold ntB
    simp (disch := omega) only [upd_ne, upd_at]
  · have g := g6 t ht
    unfold PhOK at g ⊢
    rw [upd_ne _ _ (by omega), useA_lo hR hj hi (by omega) (by omega) (by omega), upd_ne _ _ (by omega), useA_lo hR hj hi (by omega) (by omega) (by omega), upd_ne _ _ (by omega), useA_lo hR hj hi (by omega) (by omega) (by omega), upd_ne _ _ (by omega), useA_lo hR hj hi (by omega) (by omega) (by omega)]
    exact g
  · by_cases e : t = q
    · subst e
      unfold NtOK
      refine ⟨⟨j, hj, ?_⟩, ⟨i, hi, ?_⟩, Or.inl ?_⟩
      · rw [upd_ne _ _ (by omega), useA_at hR hj hi (by omega) (by omega)]
        unfold ntB
        simp (disch := omega) only [upd_ne, upd_at]
      · rw [upd_ne _ _ (by omega), useA_at hR hj hi (by omega) (by omega), show 343 + 13 * t = 342 + 13 * t + 1 by omega]
        unfold ntB
        simp (disch := omega) only [upd_ne, upd_at]
      · rw [upd_ne _ _ (by omega), useA_at hR hj hi (by omega) (by omega), show 347 + 13 * t = 342 + 13 * t + 5 by omega]
        unfold ntB
        simp (disch := omega) only [upd_ne, upd_at]
    · have g := g7 t (by omega)
      unfold NtOK at g ⊢
      rw [upd_ne _ _ (by omega), useA_lo hR hj hi (by omega) (by omega) (by omega), upd_ne _ _ (by omega), useA_lo hR hj hi (by omega) (by omega) (by omega), upd_ne _ _ (by omega), useA_lo hR hj hi (by omega) (by omega) (by omega)]
      exact g
  · rw [upd_ne _ _ (by omega), useA_lo hR hj hi (by omega) (by omega) (by omega)]; exact g8
  · rw [upd_ne _ _ (by omega), useA_lo hR hj hi (Or.inr (Or.inr (Or.inr ⟨t, rfl⟩))) (by omega) (by omega)]
    exact g9 t ht
/-- the reference writes the note of a match -/
theorem t_useV {j i x : Nat} {fee : Int32} {bb : Nat → Int32} {H : Nat → Nat → Int32} {t : SS} (hd : 1 ≤ d) (ht : MS t c bb n z H) (hR : Row c m p q) (hq : q < 24) (hj : j < m) (hi : i < p) (k : ∀ t', FrB t t' → MS t' (useR c m q j i x fee) bb n z H → K (nI q) t') : VV mX7_use d s00 179 [some (.ref 11), some (.int (nI j)), some (.int (nI i)), some (.int (nI x)), some (.int fee), some (.int (nI (342 + 13 * q))), some (.int (fee * c 6 / nI 100)), some (.int (nI 0)), none, none] [] (sA (sA (sA (sA (sA (sA (sA t 37 (342 + 13 * q) (nI j)) 37 (342 + 13 * q + 1) (nI i)) 37 (342 + 13 * q + 2) (nI x)) 37 (342 + 13 * q + 3) fee) 37 (342 + 13 * q + 4) (c 3)) 37 (342 + 13 * q + 5) (nI 0)) 37 (342 + 13 * q + 6) (fee * c 6 / nI 100)) (Qi K) := by
  have hp20 := hR.2.2.2.1
  have hm6 := hR.2.1
  generalize hcut : fee * c 6 / nI 100 = cut
  refine cup (I := fun v s => FrB t s ∧ MS s (wrd (upd (ntB c (342 + 13 * q) (nI j) (nI i) (nI x) fee (c 3)) (342 + 13 * q + 6) cut) (349 + 13 * q) z0 v) bb n z H) (G := fun v s => VV mX7_use d s00 179 [some (.ref 11), some (.int (nI j)), some (.int (nI i)), some (.int (nI x)), some (.int fee), some (.int (nI (342 + 13 * q))), some (.int cut), some (.int (nI v)), none, none] [] s (Qi K)) 6 ?_ ?_ 0 (Nat.zero_le _) _ ⟨z37.tr (z37.tr (z37.tr (z37.tr (z37.tr (z37.tr z37))))), ?_⟩
  · intro s ⟨fb, ms⟩
    refine bX7_use_179 _ _ _ _ _ _ _ (br_t (nI_le (Nat.le_refl _) (by omega)) ?_)
    refine t_use216 (s := t) hd hR hq (i + 1) i _ _ s (by omega) hi fb ms (fun k hk => ?_) (fun t' v7 fb' ms' => ?_)
    · rw [wrd_ne (by omega)]
      unfold ntB
      simp (disch := omega) only [upd_ne]
    · have o1 : ∀ k, k < 349 + 13 * q → spl c (349 + 13 * q) (i + 1) i (fee - cut) (wrd (upd (ntB c (342 + 13 * q) (nI j) (nI i) (nI x) fee (c 3)) (342 + 13 * q + 6) cut) (349 + 13 * q) z0 6) k = upd (ntB c (342 + 13 * q) (nI j) (nI i) (nI x) fee (c 3)) (342 + 13 * q + 6) cut k := fun k hk => by
        rw [spl_out hR (Or.inl hk) _ _ _ _ hi, wrd_ne (Or.inl hk)]
      refine t_useEnd (q := q) hd ms' ?_ hm6 ?_ hq hj (by omega) ?_ ?_ (fun t2 fb2 ms2 => k t2 (fb'.tr fb2) (ms2.row (fun k hk => ?_)))
      · rw [o1 _ (by omega)]
        unfold ntB
        simp (disch := omega) only [upd_ne]
        exact hR.1
      · rw [o1 _ (by omega)]
        unfold ntB
        simp (disch := omega) only [upd_ne]
        exact hR.2.2.2.2.1
      · rw [o1 _ (by omega)]
        unfold ntB
        simp (disch := omega) only [upd_ne, upd_at]
      · rw [o1 _ (by omega), upd_at]
      · have eB : ∀ k, mvm (spl c (349 + 13 * q) (i + 1) i (fee - cut) (wrd (upd (ntB c (342 + 13 * q) (nI j) (nI i) (nI x) fee (c 3)) (342 + 13 * q + 6) cut) (349 + 13 * q) z0 6)) (342 + 13 * q) j (nI 1) m k = useB c m q j i x fee k := fun k => by
          rw [← hcut]
          rfl
        unfold useR
        by_cases a2 : k = 2
        · rw [a2, upd_at, upd_ne _ _ (by omega), useA_at hR hj hi (by omega) (by omega)]
          unfold ntB
          simp (disch := omega) only [upd_ne, upd_at]
        · rw [upd_ne _ _ a2]
          by_cases a3 : k = 27 + 16 * i
          · rw [a3, upd_at, upd_at, eB, use_eqx (by omega)]
          · rw [upd_ne _ _ a3, upd_ne _ _ a3, eB, use_eqx a2]
  · intro v hv ih s ⟨fb, ms⟩
    refine bX7_use_179 _ _ _ _ _ _ _ (br_f (nI_ge hv (by omega)) ?_)
    simp (disch := omega) only [nI_add, cl]
    refine ⟨vp_in_nI (by omega) (by omega), ih _ ⟨fb.tr z37, ?_⟩⟩
    have e := ms.put (i := 349 + 13 * q + v) (x := z0 v) (by omega)
    rw [wrd_s] at e
    rw [show 342 + 13 * q + 7 + v = 349 + 13 * q + v by omega]
    exact e
  · rw [wrd_0]
    exact ((((((ht.put (by omega)).put (by omega)).put (by omega)).put (by omega)).put (by omega)).put (by omega)).put (by omega)
theorem op_use {x : Int32} (h : RR σ) : E2 mX6_use mX7_use [.int x] σ := by
  obtain ⟨n, z, nx, H, hn, hz, ⟨m, p, q, hR⟩, hC, hM, hH⟩ := id h
  obtain ⟨th, ht1, ht2, hth⟩ := hR.2.2.2.2.2.2.2.2.1
  have hm6 := hR.2.1
  have hp20 := hR.2.2.2.1
  have hq := hR.2.2.2.2.1
  have hq24 := hR.2.2.2.2.2.1
  have e2 : ∀ s, MC s (σ.1 12) → s.1 37 (nI 2).toNatClampNeg = nI q := fun s hs => by rw [cl (by omega), hs 2 (by omega)]; exact hq
  rcases br_o (x := x) (N := m) (by omega) with ⟨j, hj, rfl⟩ | hx
  · by_cases hok : flt (σ.1 31) n = (-1000000)
    · have ok := flt_ok (by omega) hok
      by_cases h24 : q < 24
      · have inv := fm_inv (c := σ.1 12) (th := th) (sc := tsc (σ.1 31) n (σ.1 12)) p
        generalize ho : fm (σ.1 12) th (tsc (σ.1 31) n (σ.1 12)) p = o at inv
        have hA : ∀ K : Int32 → SS → Prop, (∀ s0, Fr PK FK σ s0 → CS s0 n (min (z + 1) 4) ((nx + 1) % 4) (recH H z (σ.1 12)) → ∀ s, Fr PC FC s0 s → s.2.1 3 = nI (lw (σ.1 31) n).length → (∀ i, i < (lw (σ.1 31) n).length → s.1 32 i = tw (σ.1 31) n i) → ((¬ fmN o = (-1000000)) → (CTi mX2_likenessTo 6 [.ref 1, .ref 4, .int (fmN o)] s (fun x7 s8 => CTi mX2_startNote 6 [.ref 1, .int (nI j), .int (fmN o), .int x7] s8 (fun x9 s10 => K x9 s10)))) ∧ ((fmN o = (-1000000)) → (K (-1000000) s))) → CTi mX6_use 7 [.ref 0, .int (nI j)] σ K := by
          intro K k
          refine eX6_use _ (by omega) (s_hmY (by omega) hR hj (br_nt one_ne (s_isFaulty (by omega) hn hC.2.2.2.1 (fun g => absurd hok g) (fun _ => br_t rfl (s_notes ?_)))))
          rw [hq]
          refine br_t (nI_lt h24 (by omega)) (s_keep (by omega) hz hC (fun s0 f cs => ?_))
          have e12 : s0.1 12 = σ.1 12 := f.1 12 rfl
          have e31 : s0.1 31 = σ.1 31 := f.1 31 rfl
          refine s_findMatch (n := n) (th := th) (m := m) (p := p) (q := q) (by omega) (by rw [e12]; exact hR) hn ((f.2.1 2 rfl).trans hC.2.2.2.1) (by rw [e31]; exact ok) (by rw [e12]; exact hth) ht2 (fun s f2 g1 g2 => ?_)
          rw [e31] at g1 g2
          rw [e31, e12, ho]
          exact k s0 f cs s f2 g1 g2
        cases o with
        | none =>
          refine E2.wr (v := (-1000000)) (c1 := σ.1 12) (nx := nx) hn hz ⟨m, p, q, hR⟩ hM hH ⟨m, p, q, hR⟩ (fun K k => hA K (fun s0 f cs s f2 _ _ => br_nf rfl (k s0 s f cs f2.CQ (fun t _ => by rw [f2.1 12 rfl, f.1 12 rfl])))) (fun s hs K k => eX7_use _ (by omega) (t_imY (by omega) hs.1 hR hj (br_nt one_ne (t_textFault (by omega) hn hs.2.1 (br_t (hs.eflt.trans hok) ⟨vp_in_nI (by omega) (by omega), ?_⟩)))))
          rw [e2 s hs.1]
          refine br_nt (nI_neq (by omega) (by omega) (by omega)) (t_records (by omega) hz hs (fun s2 f ms => t_found (by omega) ms.1 hR hn ms.2.1 (flt_ok (by omega) (ms.eflt.trans hok)) hth ht1 ht2 (fun s3 f3 => ?_)))
          unfold tsc
          rw [ms.etw, ms.elw]
          have e := ho
          unfold tsc at e
          rw [e]
          exact br_nf rfl (k s3 ((FrB.rec f).tr f3.SM.MB) (ms.M f3.SM))
        | some b =>
          obtain ⟨i1, i2, i3, i4⟩ := inv b rfl
          have nn : ¬ fmN (some b) = (-1000000) := nI_neN (by omega)
          obtain ⟨hl, hl1, hl2⟩ := hR.len i1
          refine E2.wr (v := nI q) (c1 := useR (σ.1 12) m q j b.1 (tsc (σ.1 31) n (σ.1 12) b.1) (feeV (σ.1 12) j b.1 (tsc (σ.1 31) n (σ.1 12) b.1))) (nx := nx) hn hz ⟨m, p, q, hR⟩ hM hH ⟨m, p, q + 1, useR_row hR hj i1 h24⟩ (fun K k => hA K (fun s0 f cs s f2 g1 g2 => br_nt nn ?_)) (fun s hs K k => eX7_use _ (by omega) (t_imY (by omega) hs.1 hR hj (br_nt one_ne (t_textFault (by omega) hn hs.2.1 (br_t (hs.eflt.trans hok) ⟨vp_in_nI (by omega) (by omega), ?_⟩)))))
          · have e12 : s.1 12 = σ.1 12 := (f2.1 12 rfl).trans (f.1 12 rfl)
            have hR' : Row (s.1 12) m p q := by rw [e12]; exact hR
            refine s_matchFee (n := n) (by omega) hR' hj i1 ok.2.1 ok.2.2 g1 g2 (fun s2 f3 => ?_)
            rw [e12]
            have e12' : s2.1 12 = σ.1 12 := (f3.1 12 rfl).trans e12
            refine s_startNote (m := m) (p := p) (by omega) (by rw [e12']; exact hR) h24 hj i1 (fun s3 f4 e3 => ?_)
            refine k s0 s3 f cs (f2.CQ.tr (f3.LC.CQ.tr f4.Q12)) (fun t _ => ?_)
            rw [e3, e12']
            rfl
          · rw [e2 s hs.1]
            refine br_nt (nI_neq (by omega) (by omega) (by omega)) (t_records (by omega) hz hs (fun s2 f ms => t_found (by omega) ms.1 hR hn ms.2.1 (flt_ok (by omega) (ms.eflt.trans hok)) hth ht1 ht2 (fun s3 f3 => ?_)))
            unfold tsc
            rw [ms.etw, ms.elw]
            have e := ho
            unfold tsc at e
            rw [e]
            have ms3 := ms.M f3.SM
            refine br_nt nn (t_textScore (by omega) ms3.1 (by omega) hn ms3.2.1 (flt_ok (by omega) (ms3.eflt.trans hok)) hl2 hl (fun s4 f4 => t_feeV (by omega) (ms3.1.fr f4 rfl) hR hj i1 ?_))
            rw [ms3.etw, ms3.elw]
            have ms4 := ms3.M f4.SM
            have e6 : s4.1 37 (nI 6).toNatClampNeg = σ.1 12 6 := by rw [cl (by omega), ms4.1 6 (by omega)]
            rw [e2 s4 ms4.1, e6]
            have e3 : s4.1 37 3 = σ.1 12 3 := ms4.1 3 (by omega)
            simp (disch := omega) only [cl, pk_mul, nI_add, sA_at, upd_ne, e3]
            refine ⟨vp_in_nI (by omega) (by omega), vp_in_nI (by omega) (by omega), vp_in_nI (by omega) (by omega), vp_in_nI (by omega) (by omega), vp_in_nI (by omega) (by omega), vp_in_nI (by omega) (by omega), vp_in_nI (by omega) (by omega), vp_in_nI (by omega) (by omega), vp_in_nI (by omega) (by omega), vp_in_nI (by omega) (by omega), ?_⟩
            refine t_useV (t := s4) (by omega) ms4 hR h24 hj i1 (fun t' fb mt => k t' ((FrB.rec f).tr (f3.SM.MB.tr (f4.SM.MB.tr fb))) mt)
      · have e24 : q = 24 := by omega
        subst e24
        refine E2.rd (v := (-1000004)) h hM (fun K k => eX6_use _ (by omega) (s_hmY (by omega) hR hj (br_nt one_ne (s_isFaulty (by omega) hn hC.2.2.2.1 (fun g => absurd hok g) (fun _ => br_t rfl (s_notes ?_)))))) (fun s hs K k => eX7_use _ (by omega) (t_imY (by omega) hs.1 hR hj (br_nt one_ne (t_textFault (by omega) hn hs.2.1 (br_t (hs.eflt.trans hok) ⟨vp_in_nI (by omega) (by omega), ?_⟩)))))
        · rw [hq]
          exact br_f (by decide) (k _ Fr.rf)
        · rw [e2 s hs.1]
          exact br_nf rfl (k _ Fr.rf)
    · exact E2.rd (v := (-1000003)) h hM (fun K k => eX6_use _ (by omega) (s_hmY (by omega) hR hj (br_nt one_ne (s_isFaulty (by omega) hn hC.2.2.2.1 (fun g => br_f one_ne (k _ Fr.rf)) (fun g => absurd g hok))))) (fun s hs K k => eX7_use _ (by omega) (t_imY (by omega) hs.1 hR hj (br_nt one_ne (t_textFault (by omega) hn hs.2.1 (br_f (fun e => hok (hs.eflt.symm.trans e)) (k _ Fr.rf))))))
  · exact E2.rd (v := (-1000001)) h hM (fun K k => eX6_use _ (by omega) (s_hmN (by omega) hR hx (br_nf rfl (k _ Fr.rf)))) (fun s hs K k => eX7_use _ (by omega) (t_imN (by omega) hs.1 hR hx (br_nf rfl (k _ Fr.rf))))
end OPU
