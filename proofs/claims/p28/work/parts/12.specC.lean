/-! SPECS: counting, texts, sentences that are the same (the class) -/
noncomputable def cntP (P : Nat → Prop) : Nat → Nat
  | 0 => 0
  | n + 1 => cntP P n + @ite Nat (P n) (Classical.propDecidable _) 1 0
theorem cntP_t {P : Nat → Prop} {n : Nat} (h : P n) : cntP P (n + 1) = cntP P n + 1 := by
  show cntP P n + @ite Nat (P n) (Classical.propDecidable _) 1 0 = _
  rw [if_pos h]
theorem cntP_f {P : Nat → Prop} {n : Nat} (h : ¬ P n) : cntP P (n + 1) = cntP P n := by
  show cntP P n + @ite Nat (P n) (Classical.propDecidable _) 1 0 = _
  rw [if_neg h]
  rfl
theorem cntP_le (P : Nat → Prop) (n : Nat) : cntP P n ≤ n := by
  induction n with
  | zero => exact Nat.le_refl 0
  | succ n ih =>
    rcases Classical.em (P n) with h | h
    · rw [cntP_t h]; omega
    · rw [cntP_f h]; omega
theorem cntP_congr {P Q : Nat → Prop} {n : Nat} (h : ∀ k, k < n → (P k ↔ Q k)) : cntP P n = cntP Q n := by
  induction n with
  | zero => rfl
  | succ n ih =>
    have h1 := ih (fun k hk => h k (by omega))
    rcases Classical.em (P n) with q | q
    · rw [cntP_t q, cntP_t ((h n (by omega)).mp q), h1]
    · rw [cntP_f q, cntP_f (fun z => q ((h n (by omega)).mpr z)), h1]
noncomputable def sumP (P : Nat → Prop) (f : Nat → Int32) : Nat → Int32
  | 0 => nI 0
  | n + 1 => @ite Int32 (P n) (Classical.propDecidable _) (sumP P f n + f n) (sumP P f n)
theorem sumP_t {P : Nat → Prop} {f : Nat → Int32} {n : Nat} (h : P n) : sumP P f (n + 1) = sumP P f n + f n := by
  show @ite Int32 (P n) (Classical.propDecidable _) (sumP P f n + f n) (sumP P f n) = _
  rw [if_pos h]
theorem sumP_f {P : Nat → Prop} {f : Nat → Int32} {n : Nat} (h : ¬ P n) : sumP P f (n + 1) = sumP P f n := by
  show @ite Int32 (P n) (Classical.propDecidable _) (sumP P f n + f n) (sumP P f n) = _
  rw [if_neg h]
theorem sumP_congr {P Q : Nat → Prop} {f g : Nat → Int32} {n : Nat} (h : ∀ k, k < n → (P k ↔ Q k) ∧ f k = g k) : sumP P f n = sumP Q g n := by
  induction n with
  | zero => rfl
  | succ n ih =>
    have h1 := ih (fun k hk => h k (by omega))
    obtain ⟨h2, h3⟩ := h n (by omega)
    rcases Classical.em (P n) with q | q
    · rw [sumP_t q, sumP_t (h2.mp q), h1, h3]
    · rw [sumP_f q, sumP_f (fun z => q (h2.mpr z)), h1]
/-- phrase j is live and has just this sentence -/
def LA (c : Nat → Int32) (j : Nat) (u : Nat → Int32) (la : Nat) : Prop := c (26 + 16 * j) = nI 1 ∧ c (23 + 16 * j) = nI la ∧ ∀ i, i < la → phw c j i = u i
/-- the words of phrase j stand in a sentence from a place on -/
def StAt (c : Nat → Int32) (j lb : Nat) (u : Nat → Int32) (la pl : Nat) : Prop := pl + lb ≤ la ∧ ∀ i, i < lb → phw c j i = u (pl + i)
theorem isL_32 : ¬ isL (nI 32) := fun h => absurd h.1 (by decide)
section SPC
variable {d : Nat} {σ : SS} {K : Int32 → SS → Prop} {Kv : SS → Prop}
theorem s_isLetter {x : Int32} (h1 : isL x → K (nI 1) σ) (h0 : ¬ isL x → K (nI 0) σ) : CTi mX3_isLetter d [.int x] σ K := by
  refine eX3_isLetter _ ⟨fun c => h0 (fun q => q.1 c), fun c => ⟨fun c2 => h0 (fun q => q.2 c2), fun c2 => h1 ⟨c, c2⟩⟩⟩
theorem s_fault {n : Nat} (hd : 1 ≤ d) (hn : n ≤ 40) (hl : σ.2.1 2 = nI n) (k : K (flt (σ.1 31) n) σ) : CTi mX3_fault d [.ref 3] σ K := by
  have key : ∀ r i c, i + r = n → c ≤ 10 → K (fltA (σ.1 31) n r i c) σ → VV mX3_fault d s00 4 [some (.ref 3), some (.int (nI c)), some (.int (nI i))] [] σ (Qi K) := by
    intro r
    induction r with
    | zero =>
      intro i c hi hc h
      refine bX3_fault_4 _ _ (by omega) ?_
      rw [hl]
      unfold fltA at h
      refine br_t (nI_le (by omega) (by omega)) ?_
      by_cases h0 : c = 0
      · rw [if_pos h0] at h
        subst h0
        exact br_nf rfl h
      · rw [if_neg h0] at h
        exact br_nt (nI_ne0 (by omega) (by omega)) h
    | succ r ih =>
      intro i c hi hc h
      refine bX3_fault_4 _ _ (by omega) ?_
      rw [hl, cl (by omega)]
      unfold fltA at h
      refine br_f (nI_ge (by omega) (by omega)) ⟨vp_in_nI (by omega) (by omega), s_isLetter (fun hL => ?_) (fun hL => ?_)⟩
      · rw [if_pos (show ¬ (σ.1 31 i) < nI 97 ∧ ¬ nI 122 < (σ.1 31 i) from hL)] at h
        refine br_f one_ne ?_
        by_cases h10 : c < 10
        · rw [if_pos h10] at h
          refine br_f (nI_ge h10 (by omega)) ?_
          rw [nI_add, nI_add]
          exact ih (i + 1) (c + 1) (by omega) (by omega) h
        · rw [if_neg h10] at h
          refine br_t (nI_le (by omega) (by omega)) ⟨vp_in_nI (by omega) (by omega), br_f (fun e => ?_) h⟩
          rw [e] at hL
          exact isL_32 hL
      · rw [if_neg (show ¬ (¬ (σ.1 31 i) < nI 97 ∧ ¬ nI 122 < (σ.1 31 i)) from hL)] at h
        refine br_t rfl ⟨vp_in_nI (by omega) (by omega), ?_⟩
        by_cases h32 : σ.1 31 i = nI 32
        · rw [if_pos h32] at h
          refine br_t h32 ?_
          rw [nI_add]
          exact ih (i + 1) c (by omega) hc h
        · rw [if_neg h32] at h
          exact br_f h32 h
  exact eX3_fault (key n 0 0 (by omega) (by omega) k)
theorem s_isFaulty {n : Nat} (hd : 2 ≤ d) (hn : n ≤ 40) (hl : σ.2.1 2 = nI n) (h1 : ¬ flt (σ.1 31) n = (-1000000) → K (nI 1) σ) (h0 : flt (σ.1 31) n = (-1000000) → K (nI 0) σ) : CTi mX3_isFaulty d [.ref 3] σ K := eX3_isFaulty (by omega) (s_fault (by omega) hn hl ⟨h0, h1⟩)
theorem s_readText {se w f n : Nat} (hse : Sen se w f) (hd : 1 ≤ d) (hn : n ≤ 40) (hl : σ.2.1 2 = nI n) (hok : TxtOK (σ.1 31) n) (k : ∀ s, Fr (P1 w) (P1 f) σ s → s.2.1 f = nI (lw (σ.1 31) n).length → (∀ i, i < (lw (σ.1 31) n).length → s.1 w i = tw (σ.1 31) n i) → Kv s) : CTv mX3_readInto d [.ref 3, .ref se] σ Kv := by
  have hw := hse.ne (p := 31) (by omega)
  have hf : P1 f 2 = false := by
    unfold P1
    rw [beq_eq_false_iff_ne]
    rcases hse.2.2.2.2 with ⟨-, -, rfl⟩ | ⟨-, -, rfl⟩ | ⟨-, -, rfl⟩ <;> omega
  refine eX3_readInto hse (by omega) (s_clear hse ?_)
  refine cup (I := fun i s => Fr (P1 w) (P1 f) σ s ∧ s.2.1 f = nI (lw (σ.1 31) i).length ∧ ∀ t, t < (lw (σ.1 31) i).length → s.1 w t = (lw (σ.1 31) i).getD t 0) (G := fun i s => VV mX3_readInto d s00 6 [some (.ref 3), some (.ref se), some (.int (nI i))] [] s (Qv Kv)) n ?_ ?_ 0 (Nat.zero_le _) _ ⟨Fr.sF (P1_self f), sF_at _ _ _, fun t ht => absurd ht (by show ¬ t < 0; omega)⟩
  · intro s ⟨h1, h2, h3⟩
    refine bX3_readInto_6 _ hse (by omega) ?_
    rw [h1.2.1 2 hf, hl]
    exact br_t (nI_le (Nat.le_refl _) (by omega)) (k s h1 h2 h3)
  · intro i hi ih s ⟨h1, h2, h3⟩
    refine bX3_readInto_6 _ hse (by omega) ?_
    rw [h1.2.1 2 hf, hl, cl (by omega), h1.1 31 hw]
    refine br_f (nI_ge hi (by omega)) ⟨vp_in_nI (by omega) (by omega), s_isLetter (fun hL => ?_) (fun hL => ?_)⟩
    · have hlen := lw_le (σ.1 31) (i + 1) n (by omega)
      have e1 := lw_t hL
      have e2 : (lw (σ.1 31) (i + 1)).length = (lw (σ.1 31) i).length + 1 := by rw [e1, List.length_append]; rfl
      have h10 := hok.2.2
      refine br_f one_ne ⟨vp_in_nI (by omega) (by omega), s_append hse (k := (lw (σ.1 31) i).length) (by omega) h2 ?_⟩
      rw [nI_add]
      refine ih _ ⟨h1.tr ((Fr.sA (P1_self w)).tr (Fr.sF (P1_self f))), by rw [sF_at, e2], fun t ht => ?_⟩
      rw [sF_a, sA_at, e1, h1.1 31 hw]
      rcases Nat.lt_or_ge t (lw (σ.1 31) i).length with q | q
      · rw [upd_ne _ _ (by omega), h3 t q, List.getD_eq_getElem?_getD, List.getD_eq_getElem?_getD, List.getElem?_append_left q]
      · rw [show t = (lw (σ.1 31) i).length by omega, upd_at, List.getD_eq_getElem?_getD, List.getElem?_append_right (Nat.le_refl _), Nat.sub_self]
        rfl
    · refine br_t rfl ?_
      rw [nI_add]
      exact ih _ ⟨h1, by rw [lw_f hL]; exact h2, by rw [lw_f hL]; exact h3⟩
theorem s_standsAt {se w f j la lb pl : Nat} {u : Nat → Int32} (hse : Sen se w f) (hd : 1 ≤ d) (hj : j < 20) (hla : la ≤ 10) (hlb : lb ≤ 10) (hpl : pl ≤ 10) (ha : σ.2.1 f = nI la) (hu : ∀ i, i < la → σ.1 w i = u i) (hlen : σ.1 12 (23 + 16 * j) = nI lb) (h1 : StAt (σ.1 12) j lb u la pl → K (nI 1) σ) (h0 : ¬ StAt (σ.1 12) j lb u la pl → K (nI 0) σ) : CTi mX2_standsAt d [.ref 1, .int (nI j), .ref se, .int (nI pl)] σ K := by
  refine eX2_standsAt _ _ hse (by omega) (s_phraseCell (k := 1) ?_)
  rw [cl (by omega), show 22 + 16 * j + 1 = 23 + 16 * j by omega, hlen]
  refine ⟨vp_in_nI (by omega) (by omega), s_phraseCell (k := 6) ?_⟩
  rw [ha, nI_add]
  by_cases hle : pl + lb ≤ la
  · refine br_t (nI_le hle (by omega)) ?_
    refine cup (I := fun i (_ : SS) => ∀ t, t < i → phw (σ.1 12) j t = u (pl + t)) (G := fun i _ => VV mX2_standsAt d s00 35 [some (.ref 1), some (.int (nI j)), some (.ref se), some (.int (nI pl)), some (.int (nI lb)), some (.int (nI (22 + 16 * j + 6))), some (.int (nI i))] [] σ (Qi K)) lb ?_ ?_ 0 (Nat.zero_le _) σ (fun t ht => absurd ht (by omega))
    · intro _ h
      exact bX2_standsAt_35 _ _ _ _ _ hse (br_t (nI_le (Nat.le_refl _) (by omega)) (h1 ⟨hle, h⟩))
    · intro i hi ih _ h
      refine bX2_standsAt_35 _ _ _ _ _ hse ?_
      rw [nI_add, nI_add, cl (by omega), cl (by omega), ha, hu (pl + i) (by omega), show 22 + 16 * j + 6 + i = 28 + 16 * j + i by omega]
      refine br_f (nI_ge hi (by omega)) ⟨vp_in_nI (by omega) (by omega), vp_in_nI (by omega) (by omega), nI_ge (by omega) (by omega), fun c => ?_, fun c => h0 (fun q => c (q.2 i hi))⟩
      rw [nI_add]
      refine ih σ (fun t ht => ?_)
      rcases Nat.lt_or_ge t i with q | q
      · exact h t q
      · rw [show t = i by omega]
        exact c
  · exact br_f (nI_ge (by omega) (by omega)) (h0 (fun q => hle q.1))
theorem s_isLiveAs {se w f j la lb : Nat} {u : Nat → Int32} (hse : Sen se w f) (hd : 2 ≤ d) (hj : j < 20) (hla : la ≤ 10) (hlb : lb ≤ 10) (ha : σ.2.1 f = nI la) (hu : ∀ i, i < la → σ.1 w i = u i) (hlen : σ.1 12 (23 + 16 * j) = nI lb) (h1 : LA (σ.1 12) j u la → K (nI 1) σ) (h0 : ¬ LA (σ.1 12) j u la → K (nI 0) σ) : CTi mX2_isLiveAs d [.ref 1, .int (nI j), .ref se] σ K := by
  refine eX2_isLiveAs _ hse (by omega) (s_isLive (by omega) hj (fun hlv => ?_) (fun hlv => ?_))
  · refine br_f one_ne (s_lengthOf (by omega) hj ?_)
    rw [hlen, ha]
    by_cases hll : lb = la
    · subst hll
      refine br_nf rfl (s_standsAt (pl := 0) (u := u) hse (by omega) hj hla hlb (by omega) ha hu hlen (fun hs => ?_) (fun hs => ?_))
      · exact br_f one_ne (h1 ⟨hlv, hlen, fun i hi => by rw [hs.2 i hi, Nat.zero_add]⟩)
      · exact br_t rfl (h0 (fun q => hs ⟨by omega, fun i hi => by rw [Nat.zero_add]; exact q.2.2 i hi⟩))
    · refine br_nt (nI_neq (by omega) (by omega) hll) (h0 (fun q => ?_))
      have := q.2.1
      rw [hlen] at this
      exact hll (nI_inj (by omega) (by omega) this)
  · exact br_t rfl (h0 (fun q => hlv q.1))
/-- the phrases that are in conflict with phrase j -/
def Cf (c : Nat → Int32) (j la k : Nat) : Prop := LA c k (phw c j) la ∧ ¬ c (24 + 16 * k) = c (24 + 16 * j)
noncomputable def cfl (c : Nat → Int32) (p j la : Nat) : Nat := @ite Nat (c (26 + 16 * j) = nI 1) (Classical.propDecidable _) (cntP (Cf c j la) p) 0
theorem s_conflictsOf {j la p : Nat} (hd : 3 ≤ d) (hp : σ.1 12 1 = nI p) (hp20 : p ≤ 20) (hj : j < p) (hlen : σ.1 12 (23 + 16 * j) = nI la) (hla : la ≤ 10) (hlens : ∀ k, k < p → ∃ l, l ≤ 10 ∧ σ.1 12 (23 + 16 * k) = nI l) (k : ∀ s, Fr PL FLk σ s → K (nI (cfl (σ.1 12) p j la)) s) : CTi mX2_conflictsOf d [.ref 1, .int (nI j)] σ K := by
  refine eX2_conflictsOf _ (by omega) (s_isLive (by omega) (by omega) (fun hlv => ?_) (fun hlv => ?_))
  · have ecf : cfl (σ.1 12) p j la = cntP (Cf (σ.1 12) j la) p := if_pos hlv
    rw [ecf] at k
    refine br_nt one_ne (s_readInto Sen6 (by omega) (by omega) hla hlen (fun s hs hf hw => ?_))
    have e12 := hs.1 12 rfl
    refine cup (I := fun i (_ : SS) => True) (G := fun i _ => VV mX2_conflictsOf d s00 23 [some (.ref 1), some (.int (nI j)), some (.int (nI (cntP (Cf (σ.1 12) j la) i))), some (.int (nI i))] [] s (Qi K)) p ?_ ?_ 0 (Nat.zero_le _) s trivial
    · intro _ _
      refine bX2_conflictsOf_23 _ _ _ (by omega) (s_phrases ?_)
      rw [e12, hp]
      exact br_t (nI_le (Nat.le_refl _) (by omega)) (k s (hs.one rfl rfl))
    · intro i hi ih _ _
      refine bX2_conflictsOf_23 _ _ _ (by omega) (s_phrases ?_)
      rw [e12, hp]
      obtain ⟨lb, hlb, hlen2⟩ := hlens i hi
      refine br_f (nI_ge hi (by omega)) (s_isLiveAs (u := phw (σ.1 12) j) Sen6 (by omega) (by omega) hla hlb hf hw (by rw [e12]; exact hlen2) (fun hL => ?_) (fun hL => ?_))
      · rw [e12] at hL
        refine br_f one_ne (s_targetOf (by omega) (by omega) (s_targetOf (by omega) (by omega) ?_))
        rw [e12]
        by_cases ht : σ.1 12 (24 + 16 * i) = σ.1 12 (24 + 16 * j)
        · refine br_t ht ?_
          rw [nI_add]
          have := ih s trivial
          rw [cntP_f (fun q => q.2 ht)] at this
          exact this
        · refine br_f ht ?_
          rw [nI_add, nI_add]
          have := ih s trivial
          rw [cntP_t (show Cf (σ.1 12) j la i from ⟨hL, ht⟩)] at this
          exact this
      · rw [e12] at hL
        refine br_t rfl ?_
        rw [nI_add]
        have := ih s trivial
        rw [cntP_f (fun q => hL q.1)] at this
        exact this
  · have ecf : cfl (σ.1 12) p j la = 0 := if_neg hlv
    rw [ecf] at k
    exact br_nf rfl (k σ Fr.rf)
end SPC
