/-! SPECS: sentences and how alike they are (the class) -/
theorem Sen.ne {se w f : Nat} (h : Sen se w f) {p : Nat} (hp : p ≠ 14 ∧ p ≠ 15 ∧ p ≠ 32) : P1 w p = false := by
  unfold P1
  rw [beq_eq_false_iff_ne]
  rcases h.2.2.2.2 with ⟨-, rfl, -⟩ | ⟨-, rfl, -⟩ | ⟨-, rfl, -⟩ <;> omega
theorem Sen.w_ne {se w f : Nat} (h : Sen se w f) : w = 14 ∨ w = 15 ∨ w = 32 := by
  rcases h.2.2.2.2 with ⟨-, rfl, -⟩ | ⟨-, rfl, -⟩ | ⟨-, rfl, -⟩ <;> omega
theorem P1_self (w : Nat) : P1 w w = true := by simp [P1]
theorem imin {x y : Nat} (hx : x < 2 ^ 31) (hy : y < 2 ^ 31) : (if nI y < nI x then nI y else nI x) = nI (min x y) := by
  by_cases h : y < x
  · rw [if_pos (nI_lt h hx), Nat.min_eq_right (by omega)]
  · rw [if_neg (nI_nlt (by omega) hy), Nat.min_eq_left (by omega)]
theorem imax {x y : Nat} (hx : x < 2 ^ 31) (hy : y < 2 ^ 31) : (if nI x < nI y then nI y else nI x) = nI (max x y) := by
  by_cases h : x < y
  · rw [if_pos (nI_lt h hy), Nat.max_eq_right (by omega)]
  · rw [if_neg (nI_nlt (by omega) hx), Nat.max_eq_left (by omega)]
def PY (p : Nat) : Bool := decide (16 ≤ p) && decide (p < 27)
def F0f (_ : Nat) : Bool := false
theorem PY_t {i : Nat} (h : i < 11) : PY (16 + i) = true := by
  simp only [PY, Bool.and_eq_true, decide_eq_true_eq]
  omega
theorem PY_f {p : Nat} (h : p < 16 ∨ 27 ≤ p) : PY p = false := by
  simp only [PY, Bool.and_eq_false_iff, decide_eq_false_iff_not]
  omega
theorem Fr.YL {σ σ' : SS} (h : Fr PY F0f σ σ') : Fr PL FLk σ σ' := h.mono (fun p hp => by
  simp only [PL, PY, Bool.and_eq_false_iff, decide_eq_false_iff_not] at hp ⊢
  omega) (fun _ _ => rfl)
section SPB
variable {d : Nat} {σ : SS} {K : Int32 → SS → Prop} {Kv : SS → Prop}
theorem s_readInto {se w f j l : Nat} (hse : Sen se w f) (hd : 2 ≤ d) (hj : j < 20) (hl : l ≤ 10) (hlen : σ.1 12 (23 + 16 * j) = nI l) (k : ∀ s, Fr (P1 w) (P1 f) σ s → s.2.1 f = nI l → (∀ i, i < l → s.1 w i = σ.1 12 (28 + 16 * j + i)) → Kv s) : CTv mX2_readInto d [.ref 1, .ref se, .int (nI j)] σ Kv := by
  have hw := hse.ne (p := 12) (by omega)
  refine eX2_readInto _ hse (by omega) (s_clear hse ?_)
  refine cup (I := fun i s => Fr (P1 w) (P1 f) σ s ∧ s.2.1 f = nI i ∧ ∀ t, t < i → s.1 w t = σ.1 12 (28 + 16 * j + t)) (G := fun i s => VV mX2_readInto d s00 6 [some (.ref 1), some (.ref se), some (.int (nI j)), some (.int (nI i))] [] s (Qv Kv)) l ?_ ?_ 0 (Nat.zero_le _) _ ⟨Fr.sF (P1_self f), sF_at _ _ _, fun t ht => absurd ht (by omega)⟩
  · intro s ⟨h1, h2, h3⟩
    refine bX2_readInto_6 _ _ hse (by omega) (s_lengthOf (by omega) hj ?_)
    rw [h1.1 12 hw, hlen]
    exact br_t (nI_le (Nat.le_refl _) (by omega)) (k s h1 h2 h3)
  · intro i hi ih s ⟨h1, h2, h3⟩
    refine bX2_readInto_6 _ _ hse (by omega) (s_lengthOf (by omega) hj ?_)
    rw [h1.1 12 hw, hlen]
    refine br_f (nI_ge hi (by omega)) (s_wordOf (by omega) hj (by omega) (s_append hse (by omega) h2 ?_))
    rw [nI_add]
    refine ih _ ⟨h1.tr ((Fr.sA (P1_self w)).tr (Fr.sF (P1_self f))), sF_at _ _ _, fun t ht => ?_⟩
    rw [sF_a, sA_at, h1.1 12 hw]
    rcases Nat.lt_or_ge t i with q | q
    · rw [upd_ne _ _ (by omega), h3 t q]
    · rw [show t = i by omega, upd_at]
theorem s_distance {se w f se2 w2 f2 la lb : Nat} {u v : Nat → Int32} (hse : Sen se w f) (hse2 : Sen se2 w2 f2) (hd : 1 ≤ d) (hla : la ≤ 10) (hlb : lb ≤ 10) (ha : σ.2.1 f = nI la) (hb : σ.2.1 f2 = nI lb) (hu : ∀ i, i < la → σ.1 w i = u i) (hv : ∀ i, i < lb → σ.1 w2 i = v i) (k : ∀ s, Fr PY F0f σ s → K (nI (ed u v la lb)) s) : CTi mX5_distance d [.ref 8, .ref se, .ref se2] σ K := by
  have hw := hse.w_ne
  have hw2 := hse2.w_ne
  have edb : ∀ i j, i ≤ la → j ≤ lb → ed u v i j < 2 ^ 31 := fun i j hi hj => by
    have := ed_le u v i j
    omega
  refine eX5_distance hse hse2 ?_
  refine cup (I := fun i s => Fr PY F0f σ s ∧ ∀ t, t < i → ∀ j, j ≤ lb → s.1 (16 + t) j = nI (ed u v t j)) (G := fun i s => VV mX5_distance d s00 2 [some (.ref 8), some (.ref se), some (.ref se2), some (.int (nI i)), none, none, none] [] s (Qi K)) (la + 1) ?_ ?_ 0 (Nat.zero_le _) σ ⟨Fr.rf, fun t ht => absurd ht (by omega)⟩
  · intro s ⟨h1, h2⟩
    refine bX5_distance_2 _ hse hse2 ?_
    rw [h1.2.1 f rfl, h1.2.1 f2 rfl, ha, hb, cl (by omega), cl (by omega), h2 la (by omega) lb (Nat.le_refl _)]
    exact br_t (nI_lt (by omega) (by omega)) ⟨vp_in_nI (by omega) (by omega), vp_in_nI (by omega) (by omega), k s h1⟩
  · intro i hi ih s ⟨h1, h2⟩
    refine bX5_distance_2 _ hse hse2 ?_
    rw [h1.2.1 f rfl, ha]
    refine br_f (nI_nlt (by omega) (by omega)) ?_
    refine cup (I := fun j s => Fr PY F0f σ s ∧ (∀ t, t < i → ∀ j, j ≤ lb → s.1 (16 + t) j = nI (ed u v t j)) ∧ ∀ t, t < j → s.1 (16 + i) t = nI (ed u v i t)) (G := fun j s => VV mX5_distance d s00 13 [some (.ref 8), some (.ref se), some (.ref se2), some (.int (nI i)), some (.int (nI j)), none, none] [] s (Qi K)) (lb + 1) ?_ ?_ 0 (Nat.zero_le _) s ⟨h1, h2, fun t ht => absurd ht (by omega)⟩
    · intro s ⟨h1, h2, h3⟩
      refine bX5_distance_13 _ _ hse hse2 ?_
      rw [h1.2.1 f2 rfl, hb, nI_add]
      refine br_t (nI_lt (by omega) (by omega)) (ih s ⟨h1, fun t ht j hj => ?_⟩)
      rcases Nat.lt_or_ge t i with q | q
      · exact h2 t q j hj
      · rw [show t = i by omega]
        exact h3 j (by omega)
    · intro j hj ih2 s ⟨h1, h2, h3⟩
      have done : ∀ x, x = nI (ed u v i j) → VV mX5_distance d s00 131 [some (.ref 8), some (.ref se), some (.ref se2), some (.int (nI i)), some (.int (nI j)), none, none] [] (sA s (16 + i) j x) (Qi K) := by
        rintro x rfl
        refine bX5_distance_131 _ _ hse hse2 ?_
        rw [nI_add]
        refine ih2 _ ⟨h1.tr (Fr.sA (PY_t (by omega))), fun t ht b hb2 => ?_, fun t ht => ?_⟩
        · rw [sA_ne _ _ _ (by omega)]
          exact h2 t ht b hb2
        · rw [sA_at]
          rcases Nat.lt_or_ge t j with q | q
          · rw [upd_ne _ _ (by omega)]
            exact h3 t q
          · rw [show t = j by omega, upd_at]
      refine bX5_distance_13 _ _ hse hse2 ?_
      rw [h1.2.1 f2 rfl, hb]
      refine br_f (nI_nlt (by omega) (by omega)) ?_
      cases i with
      | zero =>
        refine br_t rfl ⟨vp_in_nI (by omega) (by omega), vp_in_nI (by omega) (by omega), ?_⟩
        rw [cl (by omega), cl (by omega), nI_add]
        exact done _ (by rw [ed_0, Nat.zero_add])
      | succ i =>
        refine br_f (nI_ne0 (by omega) (by omega)) ?_
        cases j with
        | zero =>
          refine br_nf rfl ⟨vp_in_nI (by omega) (by omega), vp_in_nI (by omega) (by omega), ?_⟩
          rw [cl (by omega), cl (by omega), nI_add]
          exact done _ (by rw [ed_s0])
        | succ j =>
          refine br_nt (nI_ne0 (by omega) (by omega)) ?_
          rw [pk_sub (by omega), pk_sub (by omega), Nat.add_sub_cancel, Nat.add_sub_cancel, cl (by omega), cl (by omega), h1.1 w (PY_f (by omega)), h1.1 w2 (PY_f (by omega)), hu i (by omega), hv j (by omega), h1.2.1 f rfl, ha]
          refine ⟨vp_in_nI (by omega) (by omega), nI_ge (by omega) (by omega), vp_in_nI (by omega) (by omega), nI_ge (by omega) (by omega), ?_⟩
          have go : ∀ c : Nat, c ≤ 1 → c = (if u i = v j then 0 else 1) → VV mX5_distance d s00 72 [some (.ref 8), some (.ref se), some (.ref se2), some (.int (nI (i + 1))), some (.int (nI (j + 1))), some (.int (nI c)), none] [] s (Qi K) := by
            intro c hc1 hc
            refine bX5_distance_72 _ _ _ hse hse2 hd ?_
            rw [pk_sub (by omega), pk_sub (by omega), Nat.add_sub_cancel, Nat.add_sub_cancel, cl (by omega), cl (by omega), cl (by omega), cl (by omega)]
            have b1 := edb i (j + 1) (by omega) (by omega)
            have b2 := edb (i + 1) j (by omega) (by omega)
            have b3 := edb i j (by omega) (by omega)
            have l1 := ed_le u v i (j + 1)
            have l2 := ed_le u v (i + 1) j
            have l3 := ed_le u v i j
            rw [h2 i (by omega) (j + 1) (by omega), h3 j (by omega), h2 i (by omega) j (by omega), imin b1 b2, nI_add, nI_add, imin (by omega) (by omega)]
            refine ⟨vp_in_nI (by omega) (by omega), vp_in_nI (by omega) (by omega), vp_in_nI (by omega) (by omega), vp_in_nI (by omega) (by omega), vp_in_nI (by omega) (by omega), vp_in_nI (by omega) (by omega), vp_in_nI (by omega) (by omega), vp_in_nI (by omega) (by omega), ?_⟩
            exact done _ (by rw [ed_ss, hc])
          by_cases hc : u i = v j
          · exact br_nf hc (go 0 (by omega) (by rw [if_pos hc]))
          · exact br_nt hc (go 1 (by omega) (by rw [if_neg hc]))
theorem s_measure {se w f se2 w2 f2 la lb : Nat} {u v : Nat → Int32} (hse : Sen se w f) (hse2 : Sen se2 w2 f2) (hd : 2 ≤ d) (h1 : 1 ≤ la) (hla : la ≤ 10) (hlb : lb ≤ 10) (ha : σ.2.1 f = nI la) (hb : σ.2.1 f2 = nI lb) (hu : ∀ i, i < la → σ.1 w i = u i) (hv : ∀ i, i < lb → σ.1 w2 i = v i) (k : ∀ s, Fr PY F0f σ s → K (nI (scr u la v lb)) s) : CTi mX5_measure d [.ref 8, .ref se, .ref se2] σ K := by
  refine eX5_measure hse hse2 (by omega) ?_
  rw [ha, hb, imax (by omega) (by omega)]
  have he := ed_le u v la lb
  refine br_f (nI_nlt (by omega) (by omega)) (br_t (nI_le (by omega) (by omega)) (s_distance hse hse2 (by omega) hla hlb ha hb hu hv (fun s hs => ⟨nI_ne0 (by omega) (by omega), ?_⟩)))
  rw [pk_sub he, pk_mul, pk_div (by omega) (by omega) (by omega)]
  exact k s hs
/-- the sentence of phrase j in a row -/
def phw (c : Nat → Int32) (j : Nat) : Nat → Int32 := fun i => c (28 + 16 * j + i)
theorem s_likenessTo {se w f la j lb : Nat} {u : Nat → Int32} (hse : Sen se w f) (h7 : w ≠ 15) (hd : 3 ≤ d) (h1 : 1 ≤ la) (hla : la ≤ 10) (hlb : lb ≤ 10) (hj : j < 20) (ha : σ.2.1 f = nI la) (hu : ∀ i, i < la → σ.1 w i = u i) (hlen : σ.1 12 (23 + 16 * j) = nI lb) (k : ∀ s, Fr PL FLk σ s → K (nI (scr u la (phw (σ.1 12) j) lb)) s) : CTi mX2_likenessTo d [.ref 1, .ref se, .int (nI j)] σ K := by
  refine eX2_likenessTo _ hse (by omega) (s_readInto Sen7 (by omega) hj hlb hlen (fun s hs hf hw => ?_))
  have f6 : f ≠ 6 := by
    rcases hse.2.2.2.2 with ⟨-, -, rfl⟩ | ⟨-, -, rfl⟩ | ⟨-, hw, -⟩ <;> omega
  refine s_measure hse Sen7 (by omega) h1 hla hlb ?_ hf (fun i hi => ?_) hw (fun s2 hs2 => k s2 ((hs.one rfl rfl).tr hs2.YL))
  · rw [hs.2.1 f (by unfold P1; rw [beq_eq_false_iff_ne]; exact f6)]
    exact ha
  · rw [hs.1 w (by unfold P1; rw [beq_eq_false_iff_ne]; exact h7)]
    exact hu i hi
theorem s_likenessOf {j la j2 lb : Nat} (hd : 4 ≤ d) (h1 : 1 ≤ la) (hla : la ≤ 10) (hlb : lb ≤ 10) (hj : j < 20) (hj2 : j2 < 20) (hlen : σ.1 12 (23 + 16 * j) = nI la) (hlen2 : σ.1 12 (23 + 16 * j2) = nI lb) (k : ∀ s, Fr PL FLk σ s → K (nI (scr (phw (σ.1 12) j) la (phw (σ.1 12) j2) lb)) s) : CTi mX2_likenessOf d [.ref 1, .int (nI j), .int (nI j2)] σ K := by
  refine eX2_likenessOf _ _ (by omega) (s_readInto Sen6 (by omega) hj hla hlen (fun s hs hf hw => ?_))
  have e12 := hs.1 12 rfl
  refine s_likenessTo (u := phw (σ.1 12) j) Sen6 (by decide) (by omega) h1 hla hlb hj2 hf hw (by rw [e12]; exact hlen2) (fun s2 hs2 => ?_)
  rw [e12]
  exact k s2 ((hs.one rfl rfl).tr hs2)
end SPB
