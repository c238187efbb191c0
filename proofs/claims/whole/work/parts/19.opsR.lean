/-! THE METHODS THAT ONLY READ: both sides answer the same -/
theorem br_o {x : Int32} {N : Nat} (hN : N < 2 ^ 31) : (∃ j, j < N ∧ x = nI j) ∨ ∀ j, j < N → ¬ x = nI j := by
  by_cases h : ∃ j, j < N ∧ x = nI j
  · exact Or.inl h
  · exact Or.inr (fun j hj e => h ⟨j, hj, e⟩)
theorem c_y {j N : Nat} {B C : Prop} (hj : j < N) (hN : N < 2 ^ 31) (b : B) : ((nI j < 0) → C) ∧ ((¬ nI j < 0) → ((nI j < nI N → B) ∧ (¬ nI j < nI N → C))) := ⟨fun q => absurd q (nI_pos (by omega)), fun _ => ⟨fun _ => b, fun q => absurd (nI_lt hj hN) q⟩⟩
theorem c_n {x : Int32} {N : Nat} {B C : Prop} (hN : N < 2 ^ 31) (h : ∀ j, j < N → ¬ x = nI j) (c : C) : ((x < 0) → C) ∧ ((¬ x < 0) → ((x < nI N → B) ∧ (¬ x < nI N → C))) := ⟨fun _ => c, fun q => ⟨fun q2 => by
  obtain ⟨j, hj, rfl⟩ := nI_of q
  by_cases hjN : j < N
  · exact absurd rfl (h j hjN)
  · exact absurd (nI_le (by omega) hj) (Int32.not_le.mpr q2), fun _ => c⟩⟩
theorem e_y {j N : Nat} {B C : Prop} (hj : j ≤ N) (hN : N < 2 ^ 31) (b : B) : ((nI j < 0) → C) ∧ ((¬ nI j < 0) → ((nI j ≤ nI N → B) ∧ (¬ nI j ≤ nI N → C))) := ⟨fun q => absurd q (nI_pos (by omega)), fun _ => ⟨fun _ => b, fun q => absurd (nI_le hj hN) q⟩⟩
theorem e_n {x : Int32} {N : Nat} {B C : Prop} (hN : N + 1 < 2 ^ 31) (h : ∀ j, j < N + 1 → ¬ x = nI j) (c : C) : ((x < 0) → C) ∧ ((¬ x < 0) → ((x ≤ nI N → B) ∧ (¬ x ≤ nI N → C))) := ⟨fun _ => c, fun q => ⟨fun q2 => by
  obtain ⟨j, hj, rfl⟩ := nI_of q
  by_cases hjN : j < N + 1
  · exact absurd rfl (h j hjN)
  · exact absurd q2 (nI_ge (by omega) hj), fun _ => c⟩⟩
theorem lt_n {x : Int32} {N : Nat} {B C : Prop} (h : ¬ x < 0) (hN : N < 2 ^ 31) (h1 : ∀ j, j < N → x = nI j → B) (h0 : ∀ j, N ≤ j → j < 2 ^ 31 → x = nI j → C) : (nI N ≤ x → C) ∧ (¬ nI N ≤ x → B) := by
  obtain ⟨j, hj, rfl⟩ := nI_of h
  by_cases hjN : j < N
  · exact br_f (nI_ge hjN (by omega)) (h1 j hjN rfl)
  · exact br_t (nI_le (by omega) hj) (h0 j (by omega) hj rfl)
def E2 (MA MB : MD) (as : List Value) (σ : SS) : Prop := CTi MA 7 (.ref 0 :: as) σ (fun r1 s1 => CTi MB 7 (.ref 11 :: as) s1 (fun r2 s2 => r1 = r2 ∧ RR s2))
theorem E2.rd {MA MB : MD} {as : List Value} {σ : SS} {n z : Nat} {H : Nat → Nat → Int32} {v : Int32} (h : RR σ) (hM : MS σ (σ.1 12) (σ.1 31) n z H) (hA : ∀ K : Int32 → SS → Prop, (∀ s, Fr PC FC σ s → K v s) → CTi MA 7 (.ref 0 :: as) σ K) (hB : ∀ s, MS s (σ.1 12) (σ.1 31) n z H → ∀ K : Int32 → SS → Prop, (∀ t, Fr PM FM s t → K v t) → CTi MB 7 (.ref 11 :: as) s K) : E2 MA MB as σ :=
  hA _ (fun s f => hB s (hM.A f.CA) _ (fun _ f2 => ⟨rfl, h.rw f f2⟩))
/-! the text of the reference -/
theorem MS.elw {s : SS} {c b : Nat → Int32} {n z : Nat} {H : Nat → Nat → Int32} (h : MS s c b n z H) : lw (s.1 45) n = lw b n := lw_congr n h.2.2.1
theorem MS.eflt {s : SS} {c b : Nat → Int32} {n z : Nat} {H : Nat → Nat → Int32} (h : MS s c b n z H) : flt (s.1 45) n = flt b n := flt_congr h.2.2.1
theorem MS.etw {s : SS} {c b : Nat → Int32} {n z : Nat} {H : Nat → Nat → Int32} (h : MS s c b n z H) : tw (s.1 45) n = tw b n := by
  funext k
  show (lw (s.1 45) n).getD k 0 = (lw b n).getD k 0
  rw [h.elw]
section OPR
variable {d : Nat} {σ : SS} {K : Int32 → SS → Prop} {Kv : SS → Prop} {c : Nat → Int32} {m p q n z : Nat}
theorem s_hmY {j : Nat} (hd : 1 ≤ d) (hR : Row (σ.1 12) m p q) (hj : j < m) (k : K (nI 1) σ) : CTi mX2_hasMember d [.ref 1, .int (nI j)] σ K := s_hasMember hd hR.1 hR.2.1 (fun _ _ _ => k) (fun h => absurd rfl (h j hj))
theorem s_hmN {x : Int32} (hd : 1 ≤ d) (hR : Row (σ.1 12) m p q) (hx : ∀ j, j < m → ¬ x = nI j) (k : K (nI 0) σ) : CTi mX2_hasMember d [.ref 1, .int x] σ K := s_hasMember hd hR.1 hR.2.1 (fun j hj e => absurd e (hx j hj)) (fun _ => k)
theorem s_hpY {j : Nat} (hd : 1 ≤ d) (hR : Row (σ.1 12) m p q) (hj : j < p) (k : K (nI 1) σ) : CTi mX2_hasPhrase d [.ref 1, .int (nI j)] σ K := s_hasPhrase hd hR.2.2.1 hR.2.2.2.1 (fun _ _ _ => k) (fun h => absurd rfl (h j hj))
theorem s_hpN {x : Int32} (hd : 1 ≤ d) (hR : Row (σ.1 12) m p q) (hx : ∀ j, j < p → ¬ x = nI j) (k : K (nI 0) σ) : CTi mX2_hasPhrase d [.ref 1, .int x] σ K := s_hasPhrase hd hR.2.2.1 hR.2.2.2.1 (fun j hj e => absurd e (hx j hj)) (fun _ => k)
theorem s_hnY {j : Nat} (hd : 1 ≤ d) (hR : Row (σ.1 12) m p q) (hj : j < q) (k : K (nI 1) σ) : CTi mX2_hasNote d [.ref 1, .int (nI j)] σ K := s_hasNote hd hR.2.2.2.2.1 hR.2.2.2.2.2.1 (fun _ _ _ => k) (fun h => absurd rfl (h j hj))
theorem s_hnN {x : Int32} (hd : 1 ≤ d) (hR : Row (σ.1 12) m p q) (hx : ∀ j, j < q → ¬ x = nI j) (k : K (nI 0) σ) : CTi mX2_hasNote d [.ref 1, .int x] σ K := s_hasNote hd hR.2.2.2.2.1 hR.2.2.2.2.2.1 (fun j hj e => absurd e (hx j hj)) (fun _ => k)
theorem t_imY {j : Nat} (hd : 1 ≤ d) (hc : MC σ c) (hR : Row c m p q) (hj : j < m) (k : K (nI 1) σ) : CTi mX7_isMember d [.ref 11, .int (nI j)] σ K := t_isMember hd hc hR.1 hR.2.1 (fun _ _ _ => k) (fun h => absurd rfl (h j hj))
theorem t_imN {x : Int32} (hd : 1 ≤ d) (hc : MC σ c) (hR : Row c m p q) (hx : ∀ j, j < m → ¬ x = nI j) (k : K (nI 0) σ) : CTi mX7_isMember d [.ref 11, .int x] σ K := t_isMember hd hc hR.1 hR.2.1 (fun j hj e => absurd e (hx j hj)) (fun _ => k)
theorem t_ipY {j : Nat} (hd : 1 ≤ d) (hc : MC σ c) (hR : Row c m p q) (hj : j < p) (k : K (nI 1) σ) : CTi mX7_isPhrase d [.ref 11, .int (nI j)] σ K := t_isPhrase hd hc hR.2.2.1 hR.2.2.2.1 (fun _ _ _ => k) (fun h => absurd rfl (h j hj))
theorem t_ipN {x : Int32} (hd : 1 ≤ d) (hc : MC σ c) (hR : Row c m p q) (hx : ∀ j, j < p → ¬ x = nI j) (k : K (nI 0) σ) : CTi mX7_isPhrase d [.ref 11, .int x] σ K := t_isPhrase hd hc hR.2.2.1 hR.2.2.2.1 (fun j hj e => absurd e (hx j hj)) (fun _ => k)
theorem t_inY {a j b : Nat} (ha : a ≤ j) (hj : j ≤ b) (hb : b < 2 ^ 31) (k : K (nI 1) σ) : CTi mX7_in d [.int (nI j), .int (nI a), .int (nI b)] σ K := t_in (fun _ _ => k) (fun h => h.elim (fun h => absurd (nI_le ha (by omega)) (Int32.not_le.mpr h)) (fun h => absurd (nI_le hj hb) (Int32.not_le.mpr h)))
theorem t_inX {x : Int32} {b : Nat} (hb : b + 1 < 2 ^ 31) (hx : ∀ j, j < b + 1 → ¬ x = nI j) (k : K (nI 0) σ) : CTi mX7_in d [.int x, .int (nI 0), .int (nI b)] σ K := t_in (fun h1 h2 => by
  obtain ⟨j, hj, rfl⟩ := nI_of h1
  by_cases hjb : j < b + 1
  · exact absurd rfl (hx j hjb)
  · exact absurd (nI_lt (by omega) hj) h2) (fun _ => k)
theorem t_phraseV {j w : Nat} (hd : 6 ≤ d) (hc : MC σ c) (hR : Row c m p q) (hj : j < p) (hw : w < 7) (k : ∀ s, Fr PM FM σ s → K (pprop c p j w) s) : CTi mX7_phrase d [.ref 11, .int (nI j), .int (nI w)] σ K := by
  have hp := hR.2.2.2.1
  refine eX7_phrase _ _ (by omega) (t_ipY (by omega) hc hR hj (br_nt one_ne (t_inY (by omega) (by omega) (by omega) (br_nt one_ne ?_))))
  by_cases h6 : w = 6
  · subst h6
    refine br_t (nI_le (by omega) (by omega)) (t_conflicts (by omega) hc hR hj (fun s f => ?_))
    have e := k s f.SM
    unfold pprop at e
    rw [if_neg (by omega)] at e
    exact e
  · refine br_f (nI_ge (by omega) (by omega)) (t_of hc (by omega) (by omega) ?_)
    have e := k σ Fr.rf
    unfold pprop at e
    rw [if_pos (by omega)] at e
    exact e
/-! the operations -/
theorem op_count {x : Int32} (h : RR σ) : E2 mX6_count mX7_count [.int x] σ := by
  obtain ⟨n, z, nx, H, hn, hz, ⟨m, p, q, hR⟩, hC, hM, hH⟩ := id h
  rcases br_o (x := x) (N := 14) (by omega) with ⟨j, hj, rfl⟩ | hx
  · by_cases h13 : j = 13
    · subst h13
      refine E2.rd (v := nI n) h hM (fun K k => eX6_count _ (by omega) (c_y hj (by omega) (br_nf rfl ?_))) (fun s hs K k => eX7_count _ (by omega) (t_inY (by omega) (by omega) (by omega) (br_f one_ne ?_)))
      · rw [hC.2.2.2.1]
        exact k _ Fr.rf
      · refine eX7_counted _ (by omega) (br_t (nI_le (by omega) (by omega)) (br_nt (by decide) (br_nt (by decide) (br_nt (by decide) (br_nt (by decide) (br_nt (by decide) (br_nt (by decide) (br_nf rfl ?_))))))))
        rw [hs.2.1]
        exact k _ Fr.rf
    · exact E2.rd (v := cprop (σ.1 12) p q j) h hM (fun K k => eX6_count _ (by omega) (c_y hj (by omega) (br_nt (nI_neq (by omega) (by omega) h13) (s_countOf (by omega) hR (by omega) (fun s f => k s f.LC))))) (fun s hs K k => eX7_count _ (by omega) (t_inY (by omega) (by omega) (by omega) (br_f one_ne (t_counted (by omega) hs.1 hR (by omega) (fun s f => k s f.SM)))))
  · exact E2.rd (v := (-1000002)) h hM (fun K k => eX6_count _ (by omega) (c_n (by omega) hx (k _ Fr.rf))) (fun s hs K k => eX7_count _ (by omega) (t_inX (by omega) hx (br_t rfl (k _ Fr.rf))))
theorem op_member {x y : Int32} (h : RR σ) : E2 mX6_member mX7_member [.int x, .int y] σ := by
  obtain ⟨n, z, nx, H, hn, hz, ⟨m, p, q, hR⟩, hC, hM, hH⟩ := id h
  have hm6 := hR.2.1
  rcases br_o (x := x) (N := m) (by omega) with ⟨j, hj, rfl⟩ | hx
  · rcases br_o (x := y) (N := 5) (by omega) with ⟨w, hw, rfl⟩ | hy
    · exact E2.rd (v := mprop (σ.1 12) p q j w) h hM (fun K k => eX6_member _ _ (by omega) (s_hmY (by omega) hR hj (br_nt one_ne (c_y hw (by omega) (s_memberProperty (by omega) hR (by omega) hw (k _ Fr.rf)))))) (fun s hs K k => eX7_member _ _ (by omega) (t_imY (by omega) hs.1 hR hj (br_nt one_ne (t_inY (by omega) (by omega) (by omega) (br_f one_ne (t_memberNow (by omega) hs.1 hR (by omega) hw (k _ Fr.rf)))))))
    · exact E2.rd (v := (-1000002)) h hM (fun K k => eX6_member _ _ (by omega) (s_hmY (by omega) hR hj (br_nt one_ne (c_n (by omega) hy (k _ Fr.rf))))) (fun s hs K k => eX7_member _ _ (by omega) (t_imY (by omega) hs.1 hR hj (br_nt one_ne (t_inX (by omega) hy (br_t rfl (k _ Fr.rf))))))
  · exact E2.rd (v := (-1000001)) h hM (fun K k => eX6_member _ _ (by omega) (s_hmN (by omega) hR hx (br_nf rfl (k _ Fr.rf)))) (fun s hs K k => eX7_member _ _ (by omega) (t_imN (by omega) hs.1 hR hx (br_nf rfl (k _ Fr.rf))))
theorem op_phrase {x y : Int32} (h : RR σ) : E2 mX6_phrase mX7_phrase [.int x, .int y] σ := by
  obtain ⟨n, z, nx, H, hn, hz, ⟨m, p, q, hR⟩, hC, hM, hH⟩ := id h
  have hp20 := hR.2.2.2.1
  rcases br_o (x := x) (N := p) (by omega) with ⟨j, hj, rfl⟩ | hx
  · rcases br_o (x := y) (N := 7) (by omega) with ⟨w, hw, rfl⟩ | hy
    · exact E2.rd (v := pprop (σ.1 12) p j w) h hM (fun K k => eX6_phrase _ _ (by omega) (s_hpY (by omega) hR hj (br_nt one_ne (c_y hw (by omega) (s_phraseProperty (by omega) hR hj hw (fun s f => k s f.LC)))))) (fun s hs K k => t_phraseV (by omega) hs.1 hR hj hw k)
    · exact E2.rd (v := (-1000002)) h hM (fun K k => eX6_phrase _ _ (by omega) (s_hpY (by omega) hR hj (br_nt one_ne (c_n (by omega) hy (k _ Fr.rf))))) (fun s hs K k => eX7_phrase _ _ (by omega) (t_ipY (by omega) hs.1 hR hj (br_nt one_ne (t_inX (by omega) hy (br_nf rfl (k _ Fr.rf))))))
  · exact E2.rd (v := (-1000001)) h hM (fun K k => eX6_phrase _ _ (by omega) (s_hpN (by omega) hR hx (br_nf rfl (k _ Fr.rf)))) (fun s hs K k => eX7_phrase _ _ (by omega) (t_ipN (by omega) hs.1 hR hx (br_nf rfl (k _ Fr.rf))))
theorem op_word {x y : Int32} (h : RR σ) : E2 mX6_word mX7_word [.int x, .int y] σ := by
  obtain ⟨n, z, nx, H, hn, hz, ⟨m, p, q, hR⟩, hC, hM, hH⟩ := id h
  have hp20 := hR.2.2.2.1
  rcases br_o (x := x) (N := p) (by omega) with ⟨j, hj, rfl⟩ | hx
  · obtain ⟨hl, hl1, hl2⟩ := hR.len hj
    by_cases hy : y < 0
    · exact E2.rd (v := (-1000002)) h hM (fun K k => eX6_word _ _ (by omega) (s_hpY (by omega) hR hj (br_nt one_ne (br_f (Int32.not_le.mpr hy) (k _ Fr.rf))))) (fun s hs K k => eX7_word _ _ (by omega) (t_ipY (by omega) hs.1 hR hj (br_nt one_ne (br_f (Int32.not_le.mpr hy) (k _ Fr.rf)))))
    · obtain ⟨i, hi, rfl⟩ := nI_of hy
      have h0i : 0 ≤ nI i := Int32.not_lt.mp hy
      by_cases hil : i < lnN (σ.1 12) j
      · refine E2.rd (v := σ.1 12 (28 + 16 * j + i)) h hM (fun K k => eX6_word _ _ (by omega) (s_hpY (by omega) hR hj (br_nt one_ne (br_t h0i (s_lengthOf (by omega) (by omega) ?_))))) (fun s hs K k => eX7_word _ _ (by omega) (t_ipY (by omega) hs.1 hR hj (br_nt one_ne (br_t h0i (t_of hs.1 (by omega) (by omega) ?_)))))
        · rw [hl]
          exact br_f (nI_ge hil (by omega)) (s_wordOf (by omega) (by omega) (by omega) (k _ Fr.rf))
        · rw [show 22 + 16 * j + 1 = 23 + 16 * j by omega, hl, nI_add]
          refine br_f (nI_ge hil (by omega)) (t_of hs.1 (by omega) (by omega) ?_)
          rw [show 22 + 16 * j + (6 + i) = 28 + 16 * j + i by omega]
          exact k _ Fr.rf
      · refine E2.rd (v := (-1000000)) h hM (fun K k => eX6_word _ _ (by omega) (s_hpY (by omega) hR hj (br_nt one_ne (br_t h0i (s_lengthOf (by omega) (by omega) ?_))))) (fun s hs K k => eX7_word _ _ (by omega) (t_ipY (by omega) hs.1 hR hj (br_nt one_ne (br_t h0i (t_of hs.1 (by omega) (by omega) ?_)))))
        · rw [hl]
          exact br_t (nI_le (by omega) hi) (k _ Fr.rf)
        · rw [show 22 + 16 * j + 1 = 23 + 16 * j by omega, hl]
          exact br_t (nI_le (by omega) hi) (k _ Fr.rf)
  · exact E2.rd (v := (-1000001)) h hM (fun K k => eX6_word _ _ (by omega) (s_hpN (by omega) hR hx (br_nf rfl (k _ Fr.rf)))) (fun s hs K k => eX7_word _ _ (by omega) (t_ipN (by omega) hs.1 hR hx (br_nf rfl (k _ Fr.rf))))
theorem op_score {x y : Int32} (h : RR σ) : E2 mX6_score mX7_score [.int x, .int y] σ := by
  obtain ⟨n, z, nx, H, hn, hz, ⟨m, p, q, hR⟩, hC, hM, hH⟩ := id h
  have hp20 := hR.2.2.2.1
  rcases br_o (x := x) (N := p) (by omega) with ⟨j, hj, rfl⟩ | hx
  · obtain ⟨hl, hl1, hl2⟩ := hR.len hj
    rcases br_o (x := y) (N := p) (by omega) with ⟨i, hi, rfl⟩ | hy
    · obtain ⟨gl, gl1, gl2⟩ := hR.len hi
      exact E2.rd (v := nI (scr (phw (σ.1 12) j) (lnN (σ.1 12) j) (phw (σ.1 12) i) (lnN (σ.1 12) i))) h hM (fun K k => eX6_score _ _ (by omega) (s_hpY (by omega) hR hj (br_f one_ne (s_hpY (by omega) hR hi (br_nt one_ne (s_likenessOf (by omega) hl1 hl2 gl2 (by omega) (by omega) hl gl (fun s f => k s f.LC))))))) (fun s hs K k => eX7_score _ _ (by omega) (t_ipY (by omega) hs.1 hR hj (br_f one_ne (t_ipY (by omega) hs.1 hR hi (br_f one_ne (t_scoreOf (by omega) hs.1 (by omega) (by omega) hl1 hl2 gl2 hl gl (fun s f => k s f.SM)))))))
    · exact E2.rd (v := (-1000001)) h hM (fun K k => eX6_score _ _ (by omega) (s_hpY (by omega) hR hj (br_f one_ne (s_hpN (by omega) hR hy (br_nf rfl (k _ Fr.rf)))))) (fun s hs K k => eX7_score _ _ (by omega) (t_ipY (by omega) hs.1 hR hj (br_f one_ne (t_ipN (by omega) hs.1 hR hy (br_t rfl (k _ Fr.rf))))))
  · exact E2.rd (v := (-1000001)) h hM (fun K k => eX6_score _ _ (by omega) (s_hpN (by omega) hR hx (br_t rfl (k _ Fr.rf)))) (fun s hs K k => eX7_score _ _ (by omega) (t_ipN (by omega) hs.1 hR hx (br_t rfl (k _ Fr.rf))))
theorem op_agreed (h : RR σ) : E2 mX6_agreed mX7_agreed [] σ := by
  obtain ⟨n, z, nx, H, hn, hz, ⟨m, p, q, hR⟩, hC, hM, hH⟩ := id h
  by_cases hok : flt (σ.1 31) n = (-1000000)
  · refine s_agreed (by omega) hR hn hC.2.2.2.1 (fun g => absurd hok g) (fun _ g s b x f o => ?_)
    have hs := hM.A f.CA
    refine t_agreed (by omega) hs.1 hR hn hs.2.1 (fun g2 => absurd (hs.eflt.trans hok) g2) (fun _ g2 t b2 x2 f2 o2 => ⟨?_, h.rw f f2.SM⟩)
    rw [hs.etw, hs.elw] at o2
    exact agree_uniq hR o o2
  · refine s_agreed (by omega) hR hn hC.2.2.2.1 (fun g => ?_) (fun g _ => absurd g hok)
    refine t_agreed (by omega) hM.1 hR hn hM.2.1 (fun g2 => ⟨rfl, h.rw Fr.rf Fr.rf⟩) (fun e g2 t b2 x2 f2 o2 => absurd (hM.eflt.symm.trans e) hok)
theorem op_match (h : RR σ) : E2 mX6_match mX7_match [] σ := by
  obtain ⟨n, z, nx, H, hn, hz, ⟨m, p, q, hR⟩, hC, hM, hH⟩ := id h
  obtain ⟨th, ht1, ht2, hth⟩ := hR.2.2.2.2.2.2.2.2.1
  by_cases hok : flt (σ.1 31) n = (-1000000)
  · have ok := flt_ok (by omega) hok
    refine E2.rd (v := fmN (fm (σ.1 12) th (tsc (σ.1 31) n (σ.1 12)) p)) h hM (fun K k => eX6_match (by omega) (s_isFaulty (by omega) hn hC.2.2.2.1 (fun g => absurd hok g) (fun _ => br_t rfl (s_findMatch (by omega) hR hn hC.2.2.2.1 ok hth ht2 (fun s f _ _ => k s f))))) (fun s hs K k => eX7_match (by omega) (t_textFault (by omega) hn hs.2.1 (br_nf (hs.eflt.trans hok) ?_)))
    refine t_found (by omega) hs.1 hR hn hs.2.1 (flt_ok (by omega) (hs.eflt.trans hok)) hth ht1 ht2 (fun s2 f => ?_)
    unfold tsc
    rw [hs.etw, hs.elw]
    exact k s2 f.SM
  · exact E2.rd (v := (-1000003)) h hM (fun K k => eX6_match (by omega) (s_isFaulty (by omega) hn hC.2.2.2.1 (fun g => br_f one_ne (k _ Fr.rf)) (fun g => absurd g hok))) (fun s hs K k => eX7_match (by omega) (t_textFault (by omega) hn hs.2.1 (br_nt (fun e => hok (hs.eflt.symm.trans e)) (k _ Fr.rf))))
theorem op_alike {x : Int32} (h : RR σ) : E2 mX6_alike mX7_alike [.int x] σ := by
  obtain ⟨n, z, nx, H, hn, hz, ⟨m, p, q, hR⟩, hC, hM, hH⟩ := id h
  have hp20 := hR.2.2.2.1
  rcases br_o (x := x) (N := p) (by omega) with ⟨j, hj, rfl⟩ | hx
  · obtain ⟨hl, hl1, hl2⟩ := hR.len hj
    by_cases hok : flt (σ.1 31) n = (-1000000)
    · have ok := flt_ok (by omega) hok
      refine E2.rd (v := nI (tsc (σ.1 31) n (σ.1 12) j)) h hM (fun K k => eX6_alike _ (by omega) (s_hpY (by omega) hR hj (br_nt one_ne (s_isFaulty (by omega) hn hC.2.2.2.1 (fun g => absurd hok g) (fun _ => br_t rfl (s_readText Sen4 (by omega) hn hC.2.2.2.1 ok (fun s f g1 g2 => ?_))))))) (fun s hs K k => eX7_alike _ (by omega) (t_ipY (by omega) hs.1 hR hj (br_nt one_ne (t_textFault (by omega) hn hs.2.1 (br_nf (hs.eflt.trans hok) ?_)))))
      · have e12 : s.1 12 = σ.1 12 := f.1 12 rfl
        refine s_likenessTo Sen4 (by omega) (by omega) ok.2.1 ok.2.2 hl2 (by omega) g1 g2 (by rw [e12]; exact hl) (fun s2 f2 => ?_)
        rw [e12]
        exact k s2 ((f.one rfl rfl).tr f2.LC)
      · refine t_textScore (by omega) hs.1 (by omega) hn hs.2.1 (flt_ok (by omega) (hs.eflt.trans hok)) hl2 hl (fun s2 f => ?_)
        rw [hs.etw, hs.elw]
        exact k s2 f.SM
    · exact E2.rd (v := (-1000003)) h hM (fun K k => eX6_alike _ (by omega) (s_hpY (by omega) hR hj (br_nt one_ne (s_isFaulty (by omega) hn hC.2.2.2.1 (fun g => br_f one_ne (k _ Fr.rf)) (fun g => absurd g hok))))) (fun s hs K k => eX7_alike _ (by omega) (t_ipY (by omega) hs.1 hR hj (br_nt one_ne (t_textFault (by omega) hn hs.2.1 (br_nt (fun e => hok (hs.eflt.symm.trans e)) (k _ Fr.rf))))))
  · exact E2.rd (v := (-1000001)) h hM (fun K k => eX6_alike _ (by omega) (s_hpN (by omega) hR hx (br_nf rfl (k _ Fr.rf)))) (fun s hs K k => eX7_alike _ (by omega) (t_ipN (by omega) hs.1 hR hx (br_nf rfl (k _ Fr.rf))))
/-- what a match costs a member -/
theorem s_matchFee {j i n : Nat} (hd : 4 ≤ d) (hR : Row (σ.1 12) m p q) (hj : j < m) (hi : i < p) {la : Nat} {u : Nat → Int32} (h1 : 1 ≤ la) (h2 : la ≤ 10) (g1 : σ.2.1 3 = nI la) (g2 : ∀ k, k < la → σ.1 32 k = u k) (k : ∀ s, Fr PL FLk σ s → K (nI (scr u la (phw (σ.1 12) i) (lnN (σ.1 12) i))) s) : CTi mX2_likenessTo d [.ref 1, .ref 4, .int (nI i)] σ K := by
  have hp20 := hR.2.2.2.1
  obtain ⟨hl, hl1, hl2⟩ := hR.len hi
  exact s_likenessTo Sen4 (by omega) (by omega) h1 h2 hl2 (by omega) g1 g2 hl k
noncomputable def feeV (c : Nat → Int32) (j i x : Nat) : Int32 := if owN c i = j then nI 0 else c (10 + 2 * owN c i) * nI x / nI 100
theorem s_feeV {j i x : Nat} (hd : 2 ≤ d) (hR : Row (σ.1 12) m p q) (hj : j < m) (hi : i < p) (k : K (feeV (σ.1 12) j i x) σ) : CTi mX2_feeFor d [.ref 1, .int (nI j), .int (nI i), .int (nI x)] σ K := by
  have hp20 := hR.2.2.2.1
  have hm6 := hR.2.1
  obtain ⟨ho, ho2⟩ := hR.own hi
  exact s_feeFor hd (by omega) (by omega) (by omega) ho k
theorem t_feeV {j i x : Nat} (hd : 1 ≤ d) (hc : MC σ c) (hR : Row c m p q) (hj : j < m) (hi : i < p) (k : K (feeV c j i x) σ) : CTi mX7_feeOf d [.ref 11, .int (nI i), .int (nI x), .int (nI j)] σ K := by
  have hp20 := hR.2.2.2.1
  have hm6 := hR.2.1
  obtain ⟨ho, ho2⟩ := hR.own hi
  exact t_feeOf hd hc (by omega) (by omega) (by omega) ho k
theorem op_fee {x : Int32} (h : RR σ) : E2 mX6_fee mX7_fee [.int x] σ := by
  obtain ⟨n, z, nx, H, hn, hz, ⟨m, p, q, hR⟩, hC, hM, hH⟩ := id h
  obtain ⟨th, ht1, ht2, hth⟩ := hR.2.2.2.2.2.2.2.2.1
  have hm6 := hR.2.1
  have hp20 := hR.2.2.2.1
  rcases br_o (x := x) (N := m) (by omega) with ⟨j, hj, rfl⟩ | hx
  · by_cases hok : flt (σ.1 31) n = (-1000000)
    · have ok := flt_ok (by omega) hok
      have inv := fm_inv (c := σ.1 12) (th := th) (sc := tsc (σ.1 31) n (σ.1 12)) p
      generalize ho : fm (σ.1 12) th (tsc (σ.1 31) n (σ.1 12)) p = o at inv
      have hA : ∀ K : Int32 → SS → Prop, (∀ s, Fr PC FC σ s → s.2.1 3 = nI (lw (σ.1 31) n).length → (∀ i, i < (lw (σ.1 31) n).length → s.1 32 i = tw (σ.1 31) n i) → ((¬ fmN o = (-1000000)) → (CTi mX2_likenessTo 6 [.ref 1, .ref 4, .int (fmN o)] s (fun x7 s8 => CTi mX2_feeFor 6 [.ref 1, .int (nI j), .int (fmN o), .int x7] s8 (fun x9 s10 => K x9 s10)))) ∧ ((fmN o = (-1000000)) → (K (-1000000) s))) → CTi mX6_fee 7 [.ref 0, .int (nI j)] σ K := by
        intro K k
        refine eX6_fee _ (by omega) (s_hmY (by omega) hR hj (br_nt one_ne (s_isFaulty (by omega) hn hC.2.2.2.1 (fun g => absurd hok g) (fun _ => br_t rfl (s_findMatch (by omega) hR hn hC.2.2.2.1 ok hth ht2 (fun s f g1 g2 => ?_))))))
        rw [ho]
        exact k s f g1 g2
      have hB : ∀ s, MS s (σ.1 12) (σ.1 31) n z H → ∀ K : Int32 → SS → Prop, (∀ t, Fr PM FM s t → ((¬ fmN o = (-1000000)) → (CTi mX7_textScore 6 [.ref 11, .int (fmN o)] t (fun x7 s8 => CTi mX7_feeOf 6 [.ref 11, .int (fmN o), .int x7, .int (nI j)] s8 (fun x9 s10 => K x9 s10)))) ∧ ((fmN o = (-1000000)) → (K (-1000000) t))) → CTi mX7_fee 7 [.ref 11, .int (nI j)] s K := by
        intro s hs K k
        refine eX7_fee _ (by omega) (t_imY (by omega) hs.1 hR hj (br_nt one_ne (t_textFault (by omega) hn hs.2.1 (br_t (hs.eflt.trans hok) (t_found (by omega) hs.1 hR hn hs.2.1 (flt_ok (by omega) (hs.eflt.trans hok)) hth ht1 ht2 (fun s2 f => ?_))))))
        unfold tsc
        rw [hs.etw, hs.elw]
        have e := ho
        unfold tsc at e
        rw [e]
        exact k s2 f.SM
      cases o with
      | none => exact E2.rd (v := (-1000000)) h hM (fun K k => hA K (fun s f _ _ => br_nf rfl (k s f))) (fun s hs K k => hB s hs K (fun t f => br_nf rfl (k t f)))
      | some b =>
        obtain ⟨i1, i2, i3, i4⟩ := inv b rfl
        have nn : ¬ fmN (some b) = (-1000000) := nI_neN (by omega)
        refine E2.rd (v := feeV (σ.1 12) j b.1 (tsc (σ.1 31) n (σ.1 12) b.1)) h hM (fun K k => hA K (fun s f g1 g2 => br_nt nn ?_)) (fun s hs K k => hB s hs K (fun t f => br_nt nn ?_))
        · have e12 : s.1 12 = σ.1 12 := f.1 12 rfl
          have hR' : Row (s.1 12) m p q := by rw [e12]; exact hR
          refine s_matchFee (n := n) (by omega) hR' hj i1 ok.2.1 ok.2.2 g1 g2 (fun s2 f2 => s_feeV (by omega) (by rw [f2.1 12 rfl]; exact hR') hj i1 ?_)
          rw [f2.1 12 rfl, e12]
          exact k s2 (f.tr f2.LC)
        · obtain ⟨hl, hl1, hl2⟩ := hR.len i1
          have ht := hs.M f
          refine t_textScore (by omega) ht.1 (by omega) hn ht.2.1 (flt_ok (by omega) (ht.eflt.trans hok)) hl2 hl (fun s2 f2 => t_feeV (by omega) (ht.1.fr f2 rfl) hR hj i1 ?_)
          rw [ht.etw, ht.elw]
          exact k s2 (f.tr f2.SM)
    · exact E2.rd (v := (-1000003)) h hM (fun K k => eX6_fee _ (by omega) (s_hmY (by omega) hR hj (br_nt one_ne (s_isFaulty (by omega) hn hC.2.2.2.1 (fun g => br_f one_ne (k _ Fr.rf)) (fun g => absurd g hok))))) (fun s hs K k => eX7_fee _ (by omega) (t_imY (by omega) hs.1 hR hj (br_nt one_ne (t_textFault (by omega) hn hs.2.1 (br_f (fun e => hok (hs.eflt.symm.trans e)) (k _ Fr.rf))))))
  · exact E2.rd (v := (-1000001)) h hM (fun K k => eX6_fee _ (by omega) (s_hmN (by omega) hR hx (br_nf rfl (k _ Fr.rf)))) (fun s hs K k => eX7_fee _ (by omega) (t_imN (by omega) hs.1 hR hx (br_nf rfl (k _ Fr.rf))))
theorem op_note {x y : Int32} (h : RR σ) : E2 mX6_note mX7_note [.int x, .int y] σ := by
  obtain ⟨n, z, nx, H, hn, hz, ⟨m, p, q, hR⟩, hC, hM, hH⟩ := id h
  have hq24 := hR.2.2.2.2.2.1
  have hq := hR.2.2.2.2.1
  have e2 : ∀ s, MS s (σ.1 12) (σ.1 31) n z H → s.1 37 (nI 2).toNatClampNeg = nI q := fun s hs => by rw [cl (by omega), hs.1 2 (by omega)]; exact hq
  rcases br_o (x := x) (N := q) (by omega) with ⟨j, hj, rfl⟩ | hx
  · have hin : ∀ s, MS s (σ.1 12) (σ.1 31) n z H → ∀ K : Int32 → SS → Prop, K (nI 1) s → vp_in (nI 2) 3270 ∧ CTi mX7_in 6 [.int (nI j), .int (nI 0), .int (s.1 37 (nI 2).toNatClampNeg - nI 1)] s K := fun s hs K k => ⟨vp_in_nI (by omega) (by omega), by
      rw [e2 s hs]
      exact t_inN (by omega) (fun _ _ _ => k) (fun g => absurd rfl (g j hj))⟩
    rcases br_o (x := y) (N := 13) (by omega) with ⟨w, hw, rfl⟩ | hy
    · exact E2.rd (v := σ.1 12 (342 + 13 * j + w)) h hM (fun K k => eX6_note _ _ (by omega) (s_hnY (by omega) hR hj (br_nt one_ne (c_y hw (by omega) (s_noteProperty (by omega) (by omega) hw (k _ Fr.rf)))))) (fun s hs K k => eX7_note _ _ (by omega) (hin s hs _ (br_nt one_ne (t_inY (by omega) (by omega) (by omega) (br_f one_ne (t_ofNote hs.1 (by omega) hw (k _ Fr.rf)))))))
    · exact E2.rd (v := (-1000002)) h hM (fun K k => eX6_note _ _ (by omega) (s_hnY (by omega) hR hj (br_nt one_ne (c_n (by omega) hy (k _ Fr.rf))))) (fun s hs K k => eX7_note _ _ (by omega) (hin s hs _ (br_nt one_ne (t_inX (by omega) hy (br_t rfl (k _ Fr.rf))))))
  · exact E2.rd (v := (-1000001)) h hM (fun K k => eX6_note _ _ (by omega) (s_hnN (by omega) hR hx (br_nf rfl (k _ Fr.rf)))) (fun s hs K k => eX7_note _ _ (by omega) ⟨vp_in_nI (by omega) (by omega), by
      rw [e2 s hs]
      exact t_inN (by omega) (fun j hj e => absurd e (hx j hj)) (fun _ => br_nf rfl (k _ Fr.rf))⟩)
theorem op_textFault (h : RR σ) : E2 mX6_textFault mX7_textFault [] σ := by
  obtain ⟨n, z, nx, H, hn, hz, ⟨m, p, q, hR⟩, hC, hM, hH⟩ := id h
  refine E2.rd (v := flt (σ.1 31) n) h hM (fun K k => eX6_textFault (by omega) (s_fault (by omega) hn hC.2.2.2.1 (k _ Fr.rf))) (fun s hs K k => t_textFault (by omega) hn hs.2.1 ?_)
  rw [hs.eflt]
  exact k _ Fr.rf
end OPR
