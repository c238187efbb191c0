/-! SPECS of the class's small methods: cells by number -/
section SPA
variable {d : Nat} {σ : SS} {K : Int32 → SS → Prop} {Kv : SS → Prop}
theorem s_memberCell {j k : Nat} (h : K (nI (10 + 2 * j + k)) σ) : CTi mX2_memberCell d [.int (nI j), .int (nI k)] σ K := eX2_memberCell _ _ (by rw [pk_mul, nI_add, nI_add, Nat.mul_comm j]; exact h)
theorem s_phraseCell {j k : Nat} (h : K (nI (22 + 16 * j + k)) σ) : CTi mX2_phraseCell d [.int (nI j), .int (nI k)] σ K := eX2_phraseCell _ _ (by rw [pk_mul, nI_add, nI_add, Nat.mul_comm j]; exact h)
theorem s_noteCell {j k : Nat} (h : K (nI (342 + 13 * j + k)) σ) : CTi mX2_noteCell d [.int (nI j), .int (nI k)] σ K := eX2_noteCell _ _ (by rw [pk_mul, nI_add, nI_add, Nat.mul_comm j]; exact h)
theorem s_members (h : K (σ.1 12 0) σ) : CTi mX2_members d [.ref 1] σ K := eX2_members ⟨vp_in_nI (by omega) (by omega), h⟩
theorem s_phrases (h : K (σ.1 12 1) σ) : CTi mX2_phrases d [.ref 1] σ K := eX2_phrases ⟨vp_in_nI (by omega) (by omega), h⟩
theorem s_notes (h : K (σ.1 12 2) σ) : CTi mX2_notes d [.ref 1] σ K := eX2_notes ⟨vp_in_nI (by omega) (by omega), h⟩
theorem s_tick (h : K (σ.1 12 3) σ) : CTi mX2_tick d [.ref 1] σ K := eX2_tick ⟨vp_in_nI (by omega) (by omega), h⟩
theorem s_settingOf {k : Nat} (hk : k < 5) (h : K (σ.1 12 (5 + k)) σ) : CTi mX2_settingOf d [.ref 1, .int (nI k)] σ K := eX2_settingOf _ (by
  rw [nI_add, cl (by omega)]
  exact ⟨vp_in_nI (by omega) (by omega), h⟩)
theorem s_hasMember {x : Int32} {m : Nat} (hd : 1 ≤ d) (hm : σ.1 12 0 = nI m) (hm6 : m ≤ 6) (h1 : ∀ j, j < m → x = nI j → K (nI 1) σ) (h0 : (∀ j, j < m → ¬ x = nI j) → K (nI 0) σ) : CTi mX2_hasMember d [.ref 1, .int x] σ K := by
  refine eX2_hasMember _ hd ⟨fun c => h0 (fun j hj e => ?_), fun c => s_members ?_⟩
  · rw [e] at c
    exact nI_pos (by omega) c
  · rw [hm]
    refine ⟨fun c2 => h0 (fun j hj e => ?_), fun c2 => ?_⟩
    · rw [e] at c2
      exact nI_ge hj (by omega) c2
    · rcases pk_ix x (n := m) (by omega) with q | q | ⟨j, hj, e⟩
      · exact absurd q c
      · exact absurd q c2
      · exact h1 j hj e
theorem s_hasPhrase {x : Int32} {m : Nat} (hd : 1 ≤ d) (hm : σ.1 12 1 = nI m) (hm6 : m ≤ 20) (h1 : ∀ j, j < m → x = nI j → K (nI 1) σ) (h0 : (∀ j, j < m → ¬ x = nI j) → K (nI 0) σ) : CTi mX2_hasPhrase d [.ref 1, .int x] σ K := by
  refine eX2_hasPhrase _ hd ⟨fun c => h0 (fun j hj e => ?_), fun c => s_phrases ?_⟩
  · rw [e] at c
    exact nI_pos (by omega) c
  · rw [hm]
    refine ⟨fun c2 => h0 (fun j hj e => ?_), fun c2 => ?_⟩
    · rw [e] at c2
      exact nI_ge hj (by omega) c2
    · rcases pk_ix x (n := m) (by omega) with q | q | ⟨j, hj, e⟩
      · exact absurd q c
      · exact absurd q c2
      · exact h1 j hj e
theorem s_hasNote {x : Int32} {m : Nat} (hd : 1 ≤ d) (hm : σ.1 12 2 = nI m) (hm6 : m ≤ 24) (h1 : ∀ j, j < m → x = nI j → K (nI 1) σ) (h0 : (∀ j, j < m → ¬ x = nI j) → K (nI 0) σ) : CTi mX2_hasNote d [.ref 1, .int x] σ K := by
  refine eX2_hasNote _ hd ⟨fun c => h0 (fun j hj e => ?_), fun c => s_notes ?_⟩
  · rw [e] at c
    exact nI_pos (by omega) c
  · rw [hm]
    refine ⟨fun c2 => h0 (fun j hj e => ?_), fun c2 => ?_⟩
    · rw [e] at c2
      exact nI_ge hj (by omega) c2
    · rcases pk_ix x (n := m) (by omega) with q | q | ⟨j, hj, e⟩
      · exact absurd q c
      · exact absurd q c2
      · exact h1 j hj e
theorem s_priceOf {j : Nat} (hd : 1 ≤ d) (hj : j < 6) (h : K (σ.1 12 (10 + 2 * j)) σ) : CTi mX2_priceOf d [.ref 1, .int (nI j)] σ K := eX2_priceOf _ hd (s_memberCell (k := 0) (by
  rw [cl (by omega)]
  exact ⟨vp_in_nI (by omega) (by omega), h⟩))
theorem s_ownerOf {j : Nat} (hd : 1 ≤ d) (hj : j < 20) (h : K (σ.1 12 (22 + 16 * j)) σ) : CTi mX2_ownerOf d [.ref 1, .int (nI j)] σ K := eX2_ownerOf _ hd (s_phraseCell (k := 0) (by
  rw [cl (by omega)]
  exact ⟨vp_in_nI (by omega) (by omega), h⟩))
theorem s_lengthOf {j : Nat} (hd : 1 ≤ d) (hj : j < 20) (h : K (σ.1 12 (23 + 16 * j)) σ) : CTi mX2_lengthOf d [.ref 1, .int (nI j)] σ K := eX2_lengthOf _ hd (s_phraseCell (k := 1) (by
  rw [cl (by omega), show 22 + 16 * j + 1 = 23 + 16 * j by omega]
  exact ⟨vp_in_nI (by omega) (by omega), h⟩))
theorem s_targetOf {j : Nat} (hd : 1 ≤ d) (hj : j < 20) (h : K (σ.1 12 (24 + 16 * j)) σ) : CTi mX2_targetOf d [.ref 1, .int (nI j)] σ K := eX2_targetOf _ hd (s_phraseCell (k := 2) (by
  rw [cl (by omega), show 22 + 16 * j + 2 = 24 + 16 * j by omega]
  exact ⟨vp_in_nI (by omega) (by omega), h⟩))
theorem s_parentOf {j : Nat} (hd : 1 ≤ d) (hj : j < 20) (h : K (σ.1 12 (25 + 16 * j)) σ) : CTi mX2_parentOf d [.ref 1, .int (nI j)] σ K := eX2_parentOf _ hd (s_phraseCell (k := 3) (by
  rw [cl (by omega), show 22 + 16 * j + 3 = 25 + 16 * j by omega]
  exact ⟨vp_in_nI (by omega) (by omega), h⟩))
theorem s_isLive {j : Nat} (hd : 1 ≤ d) (hj : j < 20) (h1 : σ.1 12 (26 + 16 * j) = nI 1 → K (nI 1) σ) (h0 : ¬ σ.1 12 (26 + 16 * j) = nI 1 → K (nI 0) σ) : CTi mX2_isLive d [.ref 1, .int (nI j)] σ K := eX2_isLive _ hd (s_phraseCell (k := 4) (by
  rw [cl (by omega), show 22 + 16 * j + 4 = 26 + 16 * j by omega]
  exact ⟨vp_in_nI (by omega) (by omega), h0, h1⟩))
theorem s_usesOf {j : Nat} (hd : 1 ≤ d) (hj : j < 20) (h : K (σ.1 12 (27 + 16 * j)) σ) : CTi mX2_usesOf d [.ref 1, .int (nI j)] σ K := eX2_usesOf _ hd (s_phraseCell (k := 5) (by
  rw [cl (by omega), show 22 + 16 * j + 5 = 27 + 16 * j by omega]
  exact ⟨vp_in_nI (by omega) (by omega), h⟩))
theorem s_wordOf {j i : Nat} (hd : 1 ≤ d) (hj : j < 20) (hi : i < 10) (h : K (σ.1 12 (28 + 16 * j + i)) σ) : CTi mX2_wordOf d [.ref 1, .int (nI j), .int (nI i)] σ K := eX2_wordOf _ _ hd (by
  rw [nI_add]
  refine s_phraseCell (k := 6 + i) ?_
  rw [cl (by omega), show 22 + 16 * j + (6 + i) = 28 + 16 * j + i by omega]
  exact ⟨vp_in_nI (by omega) (by omega), h⟩)
theorem s_noteProperty {j k : Nat} (hd : 1 ≤ d) (hj : j < 24) (hk : k < 13) (h : K (σ.1 12 (342 + 13 * j + k)) σ) : CTi mX2_noteProperty d [.ref 1, .int (nI j), .int (nI k)] σ K := eX2_noteProperty _ _ hd (s_noteCell (by
  rw [cl (by omega)]
  exact ⟨vp_in_nI (by omega) (by omega), h⟩))
theorem s_isPaidBack {j : Nat} (hd : 1 ≤ d) (hj : j < 24) (h1 : σ.1 12 (347 + 13 * j) = nI 1 → K (nI 1) σ) (h0 : ¬ σ.1 12 (347 + 13 * j) = nI 1 → K (nI 0) σ) : CTi mX2_isPaidBack d [.ref 1, .int (nI j)] σ K := eX2_isPaidBack _ hd (s_noteCell (k := 5) (by
  rw [cl (by omega), show 342 + 13 * j + 5 = 347 + 13 * j by omega]
  exact ⟨vp_in_nI (by omega) (by omega), h0, h1⟩))
theorem s_feeFor {x : Int32} {m j o : Nat} (hd : 2 ≤ d) (hj : j < 20) (ho : o < 6) (hm : m < 6) (hown : σ.1 12 (22 + 16 * j) = nI o) (h : K (if o = m then nI 0 else σ.1 12 (10 + 2 * o) * x / nI 100) σ) : CTi mX2_feeFor d [.ref 1, .int (nI m), .int (nI j), .int x] σ K := by
  refine eX2_feeFor _ _ _ (by omega) (s_ownerOf (by omega) hj ?_)
  rw [hown]
  by_cases q : o = m
  · rw [if_pos q] at h
    subst q
    exact br_nf rfl h
  · rw [if_neg q] at h
    exact br_nt (nI_neq (by omega) (by omega) q) (s_priceOf (by omega) ho h)
/-! sentences -/
theorem s_clear {se w f : Nat} (hse : Sen se w f) (h : Kv (sF σ f (nI 0))) : CTv mX1_clear d [.ref se] σ Kv := eX1_clear hse h
theorem s_append {se w f k : Nat} {x : Int32} (hse : Sen se w f) (hk : k < 10) (hf : σ.2.1 f = nI k) (h : Kv (sF (sA σ w k x) f (nI (k + 1)))) : CTv mX1_append d [.ref se, .int x] σ Kv := by
  refine eX1_append _ hse (br_f (by rw [hf]; exact nI_ge hk (by omega)) ?_)
  rw [hf, cl (by omega), sA_f, hf, nI_add]
  exact ⟨vp_in_nI hk (by omega), h⟩
end SPA
