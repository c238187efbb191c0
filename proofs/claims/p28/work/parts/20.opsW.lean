/-! THE METHODS THAT WRITE A FEW CELLS -/
def PQ (p : Nat) : Bool := p == 12 || PC p
theorem PC_Q {p : Nat} (h : PQ p = false) : PC p = false := by
  simp only [PQ, Bool.or_eq_false_iff] at h
  exact h.2
theorem P12_Q {p : Nat} (h : PQ p = false) : P1 12 p = false := by
  simp only [PQ, Bool.or_eq_false_iff] at h
  exact h.1
theorem Fr.CQ {σ s : SS} (h : Fr PC FC σ s) : Fr PQ FC σ s := h.mono (fun _ => PC_Q) (fun _ q => q)
theorem Fr.Q12 {σ s : SS} (h : Fr (P1 12) F0f σ s) : Fr PQ FC σ s := h.mono (fun _ => P12_Q) (fun _ _ => rfl)
theorem PQ_f {p : Nat} (h : 27 ≤ p ∧ p < 32 ∨ 37 ≤ p) : PQ p = false := by
  simp only [PQ, PC, Bool.or_eq_false_iff, Bool.and_eq_false_iff, decide_eq_false_iff_not, beq_eq_false_iff_ne]
  omega
theorem CS.Q {σ s : SS} {n z nx : Nat} {H : Nat → Nat → Int32} (h : CS σ n z nx H) (hf : Fr PQ FC σ s) : CS s n z nx H := h.fr hf (fun _ a b => PQ_f (Or.inl ⟨a, by omega⟩)) rfl rfl rfl
theorem Row.low {c c1 : Nat → Int32} {m m' p q : Nat} (h : Row c m p q) (hm : m ≤ m') (hm6 : m' ≤ 6) (h0 : c1 0 = nI m') (h1 : c1 1 = c 1) (h2 : c1 2 = c 2) (hc : ∀ k, 22 ≤ k → k < 654 → c1 k = c k) (h5 : ∃ t, 1 ≤ t ∧ t ≤ 100 ∧ c1 5 = nI t) (h10 : ∀ j, j < m' → ∃ pr, pr ≤ 200 ∧ c1 (10 + 2 * j) = nI pr) : Row c1 m' p q := by
  obtain ⟨g0, g1, g2, g3, g4, g5, g6, g7, g8, g9⟩ := h
  refine ⟨h0, hm6, h1.trans g2, g3, h2.trans g4, g5, fun j hj => ?_, fun k hk => ?_, h5, h10⟩
  · obtain ⟨⟨o, o1, o2⟩, a2, a3, a4⟩ := g6 j hj
    unfold PhOK
    rw [hc _ (by omega) (by omega), hc _ (by omega) (by omega), hc _ (by omega) (by omega), hc _ (by omega) (by omega)]
    exact ⟨⟨o, by omega, o2⟩, a2, a3, a4⟩
  · obtain ⟨⟨o, o1, o2⟩, a2, a3⟩ := g7 k hk
    unfold NtOK
    rw [hc _ (by omega) (by omega), hc _ (by omega) (by omega), hc _ (by omega) (by omega)]
    exact ⟨⟨o, by omega, o2⟩, a2, a3⟩
theorem z12 {σ : SS} {i : Nat} {x : Int32} : Fr PQ FC σ (sA σ 12 i x) := Fr.sA rfl
section OPW
variable {d : Nat} {σ : SS} {K : Int32 → SS → Prop} {Kv : SS → Prop} {c : Nat → Int32} {m p q n z : Nat}
theorem s_startMember (hd : 1 ≤ d) (hm : σ.1 12 0 = nI m) (hm6 : m < 6) (k : K (nI m) (sA (sA (sA σ 12 0 (nI (m + 1))) 12 (10 + 2 * m) (nI 40)) 12 (11 + 2 * m) (nI 0))) : CTi mX2_startMember d [.ref 1] σ K := by
  refine eX2_startMember hd ⟨vp_in_nI (by omega) (by omega), vp_in_nI (by omega) (by omega), ?_⟩
  rw [cl (n := 0) (by omega), hm, nI_add]
  refine s_memberCell (k := 0) ⟨vp_in_nI (by omega) (by omega), s_memberCell (k := 1) ⟨vp_in_nI (by omega) (by omega), ?_⟩⟩
  rw [cl (by omega), cl (by omega), Nat.add_zero, show 10 + 2 * m + 1 = 11 + 2 * m by omega]
  exact k
theorem lst_0 {y : Int32} (h1 : ¬ y < lst 100 0) (h2 : ¬ lst 101 0 < y) : ∃ t, 1 ≤ t ∧ t ≤ 100 ∧ y = nI t := by
  have h1 : ¬ y < nI 1 := h1
  have h2 : ¬ nI 100 < y := h2
  rcases br_o (x := y) (N := 101) (by omega) with ⟨t, ht, rfl⟩ | hy
  · refine ⟨t, ?_, by omega, rfl⟩
    rcases Nat.eq_zero_or_pos t with e | e
    · subst e
      exact absurd (by decide) h1
    · exact e
  · exfalso
    have h0 : ¬ y < 0 := fun e => h1 (Int32.lt_trans e (by decide))
    obtain ⟨t, ht, rfl⟩ := nI_of h0
    by_cases q : t < 101
    · exact hy t q rfl
    · exact h2 (nI_lt (by omega) ht)
end OPW
