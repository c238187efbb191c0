/-! THE METHODS THAT ONLY READ: both sides answer the same -/
theorem br_o {x : Int32} {N : Nat} (hN : N < 2 ^ 31) : (∃ j, j < N ∧ x = nI j) ∨ ∀ j, j < N → ¬ x = nI j := by
  by_cases h : ∃ j, j < N ∧ x = nI j
  · exact Or.inl h
  · exact Or.inr (fun j hj e => h ⟨j, hj, e⟩)
theorem c_y {j N : Nat} {B C : Prop} (hj : j < N) (hN : N < 2 ^ 31) (b : B) : ((nI j < 0) → C) ∧ ((¬ nI j < 0) → ((nI j < nI N → B) ∧ (¬ nI j < nI N → C))) := ⟨fun q => absurd q (nI_pos (by omega)), fun _ => ⟨fun _ => b, fun q => absurd (nI_lt hj hN) q⟩⟩
theorem c_n {x : Int32} {N : Nat} {B C : Prop} (hN : N < 2 ^ 31) (h : ∀ j, j < N → ¬ x = nI j) (c : C) : ((x < 0) → C) ∧ ((¬ x < 0) → ((x < nI N → B) ∧ (¬ x < nI N → C))) := ⟨fun _ => c, fun q => ⟨fun q2 => by
  obtain ⟨j, hj, rfl⟩ := nI_of q
  by_cases hjN : j < N
  · exact absurd rfl (h j hjN)
  · exact absurd (nI_le (by omega) hj) (Int32.not_le.mpr q2), fun _ => c⟩⟩
theorem e_y {j N : Nat} {B C : Prop} (hj : j ≤ N) (hN : N < 2 ^ 31) (b : B) : ((nI j < 0) → C) ∧ ((¬ nI j < 0) → ((nI j ≤ nI N → B) ∧ (¬ nI j ≤ nI N → C))) := ⟨fun q => absurd q (nI_pos (by omega)), fun _ => ⟨fun _ => b, fun q => absurd (nI_le hj hN) q⟩⟩
theorem e_n {x : Int32} {N : Nat} {B C : Prop} (hN : N + 1 < 2 ^ 31) (h : ∀ j, j < N + 1 → ¬ x = nI j) (c : C) : ((x < 0) → C) ∧ ((¬ x < 0) → ((x ≤ nI N → B) ∧ (¬ x ≤ nI N → C))) := ⟨fun _ => c, fun q => ⟨fun q2 => by
  obtain ⟨j, hj, rfl⟩ := nI_of q
  by_cases hjN : j < N + 1
  · exact absurd rfl (h j hjN)
  · exact absurd q2 (nI_ge (by omega) hj), fun _ => c⟩⟩
theorem lt_n {x : Int32} {N : Nat} {B C : Prop} (h : ¬ x < 0) (hN : N < 2 ^ 31) (h1 : ∀ j, j < N → x = nI j → B) (h0 : ∀ j, N ≤ j → j < 2 ^ 31 → x = nI j → C) : (nI N ≤ x → C) ∧ (¬ nI N ≤ x → B) := by
  obtain ⟨j, hj, rfl⟩ := nI_of h
  by_cases hjN : j < N
  · exact br_f (nI_ge hjN (by omega)) (h1 j hjN rfl)
  · exact br_t (nI_le (by omega) hj) (h0 j (by omega) hj rfl)
/-! the text of the reference -/
section OPR
variable {d : Nat} {σ : SS} {K : Int32 → SS → Prop} {Kv : SS → Prop} {c : Nat → Int32} {m p q n z : Nat}
theorem s_hmY {j : Nat} (hd : 1 ≤ d) (hR : Row (σ.1 12) m p q) (hj : j < m) (k : K (nI 1) σ) : CTi mX2_hasMember d [.ref 1, .int (nI j)] σ K := s_hasMember hd hR.1 hR.2.1 (fun _ _ _ => k) (fun h => absurd rfl (h j hj))
theorem s_hmN {x : Int32} (hd : 1 ≤ d) (hR : Row (σ.1 12) m p q) (hx : ∀ j, j < m → ¬ x = nI j) (k : K (nI 0) σ) : CTi mX2_hasMember d [.ref 1, .int x] σ K := s_hasMember hd hR.1 hR.2.1 (fun j hj e => absurd e (hx j hj)) (fun _ => k)
theorem s_hpY {j : Nat} (hd : 1 ≤ d) (hR : Row (σ.1 12) m p q) (hj : j < p) (k : K (nI 1) σ) : CTi mX2_hasPhrase d [.ref 1, .int (nI j)] σ K := s_hasPhrase hd hR.2.2.1 hR.2.2.2.1 (fun _ _ _ => k) (fun h => absurd rfl (h j hj))
theorem s_hpN {x : Int32} (hd : 1 ≤ d) (hR : Row (σ.1 12) m p q) (hx : ∀ j, j < p → ¬ x = nI j) (k : K (nI 0) σ) : CTi mX2_hasPhrase d [.ref 1, .int x] σ K := s_hasPhrase hd hR.2.2.1 hR.2.2.2.1 (fun j hj e => absurd e (hx j hj)) (fun _ => k)
theorem s_hnY {j : Nat} (hd : 1 ≤ d) (hR : Row (σ.1 12) m p q) (hj : j < q) (k : K (nI 1) σ) : CTi mX2_hasNote d [.ref 1, .int (nI j)] σ K := s_hasNote hd hR.2.2.2.2.1 hR.2.2.2.2.2.1 (fun _ _ _ => k) (fun h => absurd rfl (h j hj))
theorem s_hnN {x : Int32} (hd : 1 ≤ d) (hR : Row (σ.1 12) m p q) (hx : ∀ j, j < q → ¬ x = nI j) (k : K (nI 0) σ) : CTi mX2_hasNote d [.ref 1, .int x] σ K := s_hasNote hd hR.2.2.2.2.1 hR.2.2.2.2.2.1 (fun j hj e => absurd e (hx j hj)) (fun _ => k)
/-! the operations -/
/-- what a match costs a member -/
theorem s_matchFee {j i n : Nat} (hd : 4 ≤ d) (hR : Row (σ.1 12) m p q) (hj : j < m) (hi : i < p) {la : Nat} {u : Nat → Int32} (h1 : 1 ≤ la) (h2 : la ≤ 10) (g1 : σ.2.1 3 = nI la) (g2 : ∀ k, k < la → σ.1 32 k = u k) (k : ∀ s, Fr PL FLk σ s → K (nI (scr u la (phw (σ.1 12) i) (lnN (σ.1 12) i))) s) : CTi mX2_likenessTo d [.ref 1, .ref 4, .int (nI i)] σ K := by
  have hp20 := hR.2.2.2.1
  obtain ⟨hl, hl1, hl2⟩ := hR.len hi
  exact s_likenessTo Sen4 (by omega) (by omega) h1 h2 hl2 (by omega) g1 g2 hl k
noncomputable def feeV (c : Nat → Int32) (j i x : Nat) : Int32 := if owN c i = j then nI 0 else c (10 + 2 * owN c i) * nI x / nI 100
theorem s_feeV {j i x : Nat} (hd : 2 ≤ d) (hR : Row (σ.1 12) m p q) (hj : j < m) (hi : i < p) (k : K (feeV (σ.1 12) j i x) σ) : CTi mX2_feeFor d [.ref 1, .int (nI j), .int (nI i), .int (nI x)] σ K := by
  have hp20 := hR.2.2.2.1
  have hm6 := hR.2.1
  obtain ⟨ho, ho2⟩ := hR.own hi
  exact s_feeFor hd (by omega) (by omega) (by omega) ho k
end OPR
