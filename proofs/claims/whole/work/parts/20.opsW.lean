/-! THE METHODS THAT WRITE A FEW CELLS -/
def PQ (p : Nat) : Bool := p == 12 || PC p
theorem PC_Q {p : Nat} (h : PQ p = false) : PC p = false := by
  simp only [PQ, Bool.or_eq_false_iff] at h
  exact h.2
theorem P12_Q {p : Nat} (h : PQ p = false) : P1 12 p = false := by
  simp only [PQ, Bool.or_eq_false_iff] at h
  exact h.1
theorem Fr.CQ {σ s : SS} (h : Fr PC FC σ s) : Fr PQ FC σ s := h.mono (fun _ => PC_Q) (fun _ q => q)
theorem Fr.Q12 {σ s : SS} (h : Fr (P1 12) F0f σ s) : Fr PQ FC σ s := h.mono (fun _ => P12_Q) (fun _ _ => rfl)
theorem PQ_f {p : Nat} (h : 27 ≤ p ∧ p < 32 ∨ 37 ≤ p) : PQ p = false := by
  simp only [PQ, PC, Bool.or_eq_false_iff, Bool.and_eq_false_iff, decide_eq_false_iff_not, beq_eq_false_iff_ne]
  omega
theorem Fr.QA {σ s : SS} (h : Fr PQ FC σ s) : FrA σ s := h.A (fun p q => PQ_f (Or.inr q)) (fun k q => by
  simp only [FC, Bool.and_eq_false_iff, decide_eq_false_iff_not]
  omega)
theorem CS.Q {σ s : SS} {n z nx : Nat} {H : Nat → Nat → Int32} (h : CS σ n z nx H) (hf : Fr PQ FC σ s) : CS s n z nx H := h.fr hf (fun _ a b => PQ_f (Or.inl ⟨a, by omega⟩)) rfl rfl rfl
theorem E2.wr {MA MB : MD} {as : List Value} {σ : SS} {n z nx : Nat} {H : Nat → Nat → Int32} {v : Int32} {c1 : Nat → Int32} (hn : n ≤ 40) (hz : z ≤ 4) (hRE : RowE (σ.1 12)) (hM : MS σ (σ.1 12) (σ.1 31) n z H) (hH : ∀ j, j < z → RowE (H j)) (hr : RowE c1)
    (hA : ∀ K : Int32 → SS → Prop, (∀ s0 s, Fr PK FK σ s0 → CS s0 n (min (z + 1) 4) ((nx + 1) % 4) (recH H z (σ.1 12)) → Fr PQ FC s0 s → (∀ k, k < 654 → s.1 12 k = c1 k) → K v s) → CTi MA 7 (.ref 0 :: as) σ K)
    (hB : ∀ s, MS s (σ.1 12) (σ.1 31) n z H → ∀ K : Int32 → SS → Prop, (∀ t, FrB s t → MS t c1 (σ.1 31) n (min (z + 1) 4) (recH H z (σ.1 12)) → K v t) → CTi MB 7 (.ref 11 :: as) s K) : E2 MA MB as σ :=
  hA _ (fun s0 s fk cs f e12 => hB s (hM.A (fk.KA.tr f.QA)) _ (fun t fb ms => ⟨rfl, RR.mk hn (by omega) (hr.congr e12) (cs.Q f) (by
    rw [show s.1 31 = σ.1 31 from (f.1 31 rfl).trans (fk.1 31 rfl)]
    exact ms.row (fun k hk => (e12 k hk).symm)) fb (recH_ok hH hRE)⟩))
theorem Row.low {c c1 : Nat → Int32} {m m' p q : Nat} (h : Row c m p q) (hm : m ≤ m') (hm6 : m' ≤ 6) (h0 : c1 0 = nI m') (h1 : c1 1 = c 1) (h2 : c1 2 = c 2) (hc : ∀ k, 22 ≤ k → k < 654 → c1 k = c k) (h5 : ∃ t, 1 ≤ t ∧ t ≤ 100 ∧ c1 5 = nI t) (h10 : ∀ j, j < m' → ∃ pr, pr ≤ 200 ∧ c1 (10 + 2 * j) = nI pr) : Row c1 m' p q := by
  obtain ⟨g0, g1, g2, g3, g4, g5, g6, g7, g8, g9⟩ := h
  refine ⟨h0, hm6, h1.trans g2, g3, h2.trans g4, g5, fun j hj => ?_, fun k hk => ?_, h5, h10⟩
  · obtain ⟨⟨o, o1, o2⟩, a2, a3, a4⟩ := g6 j hj
    unfold PhOK
    rw [hc _ (by omega) (by omega), hc _ (by omega) (by omega), hc _ (by omega) (by omega), hc _ (by omega) (by omega)]
    exact ⟨⟨o, by omega, o2⟩, a2, a3, a4⟩
  · obtain ⟨⟨o, o1, o2⟩, a2, a3⟩ := g7 k hk
    unfold NtOK
    rw [hc _ (by omega) (by omega), hc _ (by omega) (by omega), hc _ (by omega) (by omega)]
    exact ⟨⟨o, by omega, o2⟩, a2, a3⟩
theorem z12 {σ : SS} {i : Nat} {x : Int32} : Fr PQ FC σ (sA σ 12 i x) := Fr.sA rfl
theorem z37 {σ : SS} {i : Nat} {x : Int32} : FrB σ (sA σ 37 i x) := ⟨fun p hp => sA_ne _ _ _ (by omega), fun _ _ => rfl⟩
theorem FrB.rec {σ s : SS} (h : Fr (P1 37) (P1 7) σ s) : FrB σ s := h.B (fun p q => P1_ne (by omega)) (fun k q => P1_ne (by omega))
section OPW
variable {d : Nat} {σ : SS} {K : Int32 → SS → Prop} {Kv : SS → Prop} {c : Nat → Int32} {m p q n z : Nat}
theorem s_startMember (hd : 1 ≤ d) (hm : σ.1 12 0 = nI m) (hm6 : m < 6) (k : K (nI m) (sA (sA (sA σ 12 0 (nI (m + 1))) 12 (10 + 2 * m) (nI 40)) 12 (11 + 2 * m) (nI 0))) : CTi mX2_startMember d [.ref 1] σ K := by
  refine eX2_startMember hd ⟨vp_in_nI (by omega) (by omega), vp_in_nI (by omega) (by omega), ?_⟩
  rw [cl (n := 0) (by omega), hm, nI_add]
  refine s_memberCell (k := 0) ⟨vp_in_nI (by omega) (by omega), s_memberCell (k := 1) ⟨vp_in_nI (by omega) (by omega), ?_⟩⟩
  rw [cl (by omega), cl (by omega), Nat.add_zero, show 10 + 2 * m + 1 = 11 + 2 * m by omega]
  exact k
theorem op_addMember (h : RR σ) : E2 mX6_addMember mX7_addMember [] σ := by
  obtain ⟨n, z, nx, H, hn, hz, ⟨m, p, q, hR⟩, hC, hM, hH⟩ := id h
  have hm := hR.1
  have hm6 := hR.2.1
  have e0 : ∀ s, MS s (σ.1 12) (σ.1 31) n z H → s.1 37 (nI 0).toNatClampNeg = nI m := fun s hs => by rw [cl (by omega), hs.1 0 (by omega)]; exact hm
  by_cases h6 : m < 6
  · refine E2.wr (v := nI m) (c1 := upd (upd (upd (σ.1 12) 0 (nI (m + 1))) (10 + 2 * m) (nI 40)) (11 + 2 * m) (nI 0)) (nx := nx) hn hz ⟨m, p, q, hR⟩ hM hH ⟨m + 1, p, q, hR.low (by omega) (by omega) ?_ ?_ ?_ (fun k k1 k2 => ?_) ?_ (fun j hj => ?_)⟩ (fun K k => eX6_addMember (by omega) (s_members ?_)) (fun s hs K k => eX7_addMember (by omega) ⟨vp_in_nI (by omega) (by omega), ?_⟩)
    · rw [upd_ne _ _ (by omega), upd_ne _ _ (by omega), upd_at]
    · rw [upd_ne _ _ (by omega), upd_ne _ _ (by omega), upd_ne _ _ (by omega)]
    · rw [upd_ne _ _ (by omega), upd_ne _ _ (by omega), upd_ne _ _ (by omega)]
    · rw [upd_ne _ _ (by omega), upd_ne _ _ (by omega), upd_ne _ _ (by omega)]
    · rw [upd_ne _ _ (by omega), upd_ne _ _ (by omega), upd_ne _ _ (by omega)]
      exact hR.2.2.2.2.2.2.2.2.1
    · rw [upd_ne _ _ (by omega)]
      by_cases e : j = m
      · subst e
        exact ⟨40, by omega, upd_at _ _ _⟩
      · rw [upd_ne _ _ (by omega), upd_ne _ _ (by omega)]
        exact hR.2.2.2.2.2.2.2.2.2 j (by omega)
    · rw [hm]
      refine br_t (nI_lt h6 (by omega)) (s_keep (by omega) hz hC (fun s0 f cs => s_startMember (by omega) ?_ h6 (k s0 _ f cs (z12.tr (z12.tr z12)) (fun k hk => ?_))))
      · rw [f.1 12 rfl]; exact hm
      · rw [sA_at, sA_at, sA_at, f.1 12 rfl]
    · rw [e0 s hs]
      refine br_nt (nI_neq (by omega) (by omega) (by omega)) (t_records (by omega) hz hs (fun s2 f ms => ⟨vp_in_nI (by omega) (by omega), ?_⟩))
      have e2 : s2.1 37 0 = nI m := (ms.1 0 (by omega)).trans hm
      simp (disch := omega) only [cl, e2, nI_add, pk_mul, sA_at, upd_ne, upd_at, pk_sub]
      refine ⟨vp_in_nI (by omega) (by omega), vp_in_nI (by omega) (by omega), vp_in_nI (by omega) (by omega), vp_in_nI (by omega) (by omega), vp_in_nI (by omega) (by omega), vp_in_nI (by omega) (by omega), ?_⟩
      refine k _ ((FrB.rec f).tr (z37.tr (z37.tr z37))) ((((ms.put (i := 10 + 2 * m) (by omega)).put (i := 10 + 2 * m + 1) (by omega)).put (i := 0) (by omega)).row (fun t ht => ?_))
      simp only [upd]
      repeat' split
      all_goals first | rfl | omega
  · have e6 : m = 6 := by omega
    subst e6
    refine E2.rd (v := (-1000004)) h hM (fun K k => eX6_addMember (by omega) (s_members ?_)) (fun s hs K k => eX7_addMember (by omega) ⟨vp_in_nI (by omega) (by omega), ?_⟩)
    · rw [hm]
      exact br_f (by decide) (k _ Fr.rf)
    · rw [e0 s hs]
      exact br_nf rfl (k _ Fr.rf)
theorem op_setPrice {x y : Int32} (h : RR σ) : E2 mX6_setPrice mX7_setPrice [.int x, .int y] σ := by
  obtain ⟨n, z, nx, H, hn, hz, ⟨m, p, q, hR⟩, hC, hM, hH⟩ := id h
  have hm6 := hR.2.1
  rcases br_o (x := x) (N := m) (by omega) with ⟨j, hj, rfl⟩ | hx
  · rcases br_o (x := y) (N := 201) (by omega) with ⟨w, hw, rfl⟩ | hy
    · refine E2.wr (v := σ.1 12 (10 + 2 * j)) (c1 := upd (σ.1 12) (10 + 2 * j) (nI w)) (nx := nx) hn hz ⟨m, p, q, hR⟩ hM hH ⟨m, p, q, hR.low (Nat.le_refl _) (by omega) ?_ (upd_ne _ _ (by omega)) (upd_ne _ _ (by omega)) (fun k k1 k2 => upd_ne _ _ (by omega)) ?_ (fun i hi => ?_)⟩ (fun K k => eX6_setPrice _ _ (by omega) (s_hmY (by omega) hR hj (br_nt one_ne (e_y (by omega) (by omega) (s_keep (by omega) hz hC (fun s0 f cs => s_priceOf (by omega) (by omega) (eX2_changePrice _ _ (by omega) (s_memberCell (k := 0) ⟨vp_in_nI (by omega) (by omega), ?_⟩)))))))) (fun s hs K k => eX7_setPrice _ _ (by omega) (t_imY (by omega) hs.1 hR hj (br_nt one_ne (t_inY (by omega) (by omega) (by omega) (br_nt one_ne (t_records (by omega) hz hs (fun s2 f ms => t_price ms.1 (by omega) ?_)))))))
      · rw [upd_ne _ _ (by omega)]; exact hR.1
      · rw [upd_ne _ _ (by omega)]; exact hR.2.2.2.2.2.2.2.2.1
      · by_cases e : i = j
        · rw [e]
          exact ⟨w, by omega, upd_at _ _ _⟩
        · rw [upd_ne _ _ (by omega)]
          exact hR.2.2.2.2.2.2.2.2.2 i hi
      · rw [cl (by omega), f.1 12 rfl, Nat.add_zero]
        exact k s0 _ f cs z12 (fun k hk => by rw [sA_at, f.1 12 rfl])
      · rw [pk_mul, nI_add, cl (by omega)]
        exact ⟨vp_in_nI (by omega) (by omega), k _ ((FrB.rec f).tr z37) (ms.put (by omega))⟩
    · exact E2.rd (v := (-1000002)) h hM (fun K k => eX6_setPrice _ _ (by omega) (s_hmY (by omega) hR hj (br_nt one_ne (e_n (by omega) hy (k _ Fr.rf))))) (fun s hs K k => eX7_setPrice _ _ (by omega) (t_imY (by omega) hs.1 hR hj (br_nt one_ne (t_inX (by omega) hy (br_nf rfl (k _ Fr.rf))))))
  · exact E2.rd (v := (-1000001)) h hM (fun K k => eX6_setPrice _ _ (by omega) (s_hmN (by omega) hR hx (br_nf rfl (k _ Fr.rf)))) (fun s hs K k => eX7_setPrice _ _ (by omega) (t_imN (by omega) hs.1 hR hx (br_nf rfl (k _ Fr.rf))))
theorem t_setV {j : Nat} {y : Int32} (hd : 1 ≤ d) (hj : j < 5) (h1 : ∀ v3, ¬ y < lst 100 j → ¬ lst 101 j < y → VV mX7_set d s00 60 [some (.ref 11), some (.int (nI j)), some (.int y), some (.int v3), none] [] σ (Qi K)) (h0 : y < lst 100 j ∨ lst 101 j < y → K (-1000002) σ) : CTi mX7_set d [.ref 11, .int (nI j), .int y] σ K := by
  refine eX7_set _ _ (by omega) (t_inY (by omega) (by omega) (by omega) (br_nt one_ne ?_))
  rcases j with _ | _ | _ | _ | _ | j
  · refine br_nt (by decide) (br_nt (by decide) (bX7_set_35 _ _ _ hd (br_t rfl (t_in (fun a b => br_nt one_ne (h1 _ a b)) (fun a => br_nf rfl (h0 a))))))
  · refine br_nf rfl (bX7_set_35 _ _ _ hd (br_f (by decide) (br_nt (by decide) (t_in (fun a b => br_nt one_ne (h1 _ a b)) (fun a => br_nf rfl (h0 a))))))
  · refine br_nt (by decide) (br_nf rfl (bX7_set_35 _ _ _ hd (br_f (by decide) (br_nt (by decide) (t_in (fun a b => br_nt one_ne (h1 _ a b)) (fun a => br_nf rfl (h0 a)))))))
  · refine br_nt (by decide) (br_nt (by decide) (bX7_set_35 _ _ _ hd (br_f (by decide) (br_nt (by decide) (t_in (fun a b => br_nt one_ne (h1 _ a b)) (fun a => br_nf rfl (h0 a)))))))
  · refine br_nt (by decide) (br_nt (by decide) (bX7_set_35 _ _ _ hd (br_f (by decide) (br_nf rfl (t_in (fun a b => br_nt one_ne (h1 _ a b)) (fun a => br_nf rfl (h0 a)))))))
  · omega
theorem lst_0 {y : Int32} (h1 : ¬ y < lst 100 0) (h2 : ¬ lst 101 0 < y) : ∃ t, 1 ≤ t ∧ t ≤ 100 ∧ y = nI t := by
  have h1 : ¬ y < nI 1 := h1
  have h2 : ¬ nI 100 < y := h2
  rcases br_o (x := y) (N := 101) (by omega) with ⟨t, ht, rfl⟩ | hy
  · refine ⟨t, ?_, by omega, rfl⟩
    rcases Nat.eq_zero_or_pos t with e | e
    · subst e
      exact absurd (by decide) h1
    · exact e
  · exfalso
    have h0 : ¬ y < 0 := fun e => h1 (Int32.lt_trans e (by decide))
    obtain ⟨t, ht, rfl⟩ := nI_of h0
    by_cases q : t < 101
    · exact hy t q rfl
    · exact h2 (nI_lt (by omega) ht)
theorem op_set {x y : Int32} (h : RR σ) : E2 mX6_set mX7_set [.int x, .int y] σ := by
  obtain ⟨n, z, nx, H, hn, hz, ⟨m, p, q, hR⟩, hC, hM, hH⟩ := id h
  rcases br_o (x := x) (N := 5) (by omega) with ⟨j, hj, rfl⟩ | hx
  · by_cases hlo : y < lst 100 j
    · refine E2.rd (v := (-1000002)) h hM (fun K k => eX6_set _ _ (by omega) (c_y hj (by omega) ⟨vp_in_nI (by omega) (by omega), ?_⟩)) (fun s hs K k => t_setV (by omega) hj (fun _ a _ => absurd hlo a) (fun _ => k _ Fr.rf))
      rw [cl (by omega)]
      exact br_t hlo (k _ Fr.rf)
    · by_cases hhi : lst 101 j < y
      · refine E2.rd (v := (-1000002)) h hM (fun K k => eX6_set _ _ (by omega) (c_y hj (by omega) ⟨vp_in_nI (by omega) (by omega), ?_⟩)) (fun s hs K k => t_setV (by omega) hj (fun _ _ a => absurd hhi a) (fun _ => k _ Fr.rf))
        rw [cl (by omega)]
        exact br_f hlo ⟨vp_in_nI (by omega) (by omega), br_f (Int32.not_le.mpr hhi) (k _ Fr.rf)⟩
      · refine E2.wr (v := σ.1 12 (5 + j)) (c1 := upd (σ.1 12) (5 + j) y) (nx := nx) hn hz ⟨m, p, q, hR⟩ hM hH ⟨m, p, q, hR.low (Nat.le_refl _) hR.2.1 ?_ (upd_ne _ _ (by omega)) (upd_ne _ _ (by omega)) (fun k k1 k2 => upd_ne _ _ (by omega)) ?_ (fun i hi => ?_)⟩ (fun K k => eX6_set _ _ (by omega) (c_y hj (by omega) ⟨vp_in_nI (by omega) (by omega), ?_⟩)) (fun s hs K k => t_setV (by omega) hj (fun _ _ _ => bX7_set_60 _ _ _ (by omega) (t_records (by omega) hz hs (fun s2 f ms => ?_))) (fun a => a.elim (fun a => absurd a hlo) (fun a => absurd a hhi)))
        · rw [upd_ne _ _ (by omega)]; exact hR.1
        · by_cases e : j = 0
          · subst e
            obtain ⟨t, t1, t2, t3⟩ := lst_0 hlo hhi
            exact ⟨t, t1, t2, by rw [upd_at]; exact t3⟩
          · rw [upd_ne _ _ (by omega)]; exact hR.2.2.2.2.2.2.2.2.1
        · rw [upd_ne _ _ (by omega)]
          exact hR.2.2.2.2.2.2.2.2.2 i hi
        · rw [cl (by omega)]
          refine br_f hlo ⟨vp_in_nI (by omega) (by omega), br_t (Int32.not_lt.mp hhi) (s_keep (by omega) hz hC (fun s0 f cs => s_settingOf hj (eX2_changeSetting _ _ ?_)))⟩
          rw [nI_add, cl (by omega), f.1 12 rfl]
          exact ⟨vp_in_nI (by omega) (by omega), k s0 _ f cs z12 (fun k hk => by rw [sA_at, f.1 12 rfl])⟩
        · rw [nI_add, cl (by omega), ms.1 _ (by omega)]
          exact ⟨vp_in_nI (by omega) (by omega), vp_in_nI (by omega) (by omega), k _ ((FrB.rec f).tr z37) (ms.put (by omega))⟩
  · exact E2.rd (v := (-1000001)) h hM (fun K k => eX6_set _ _ (by omega) (c_n (by omega) hx (k _ Fr.rf))) (fun s hs K k => eX7_set _ _ (by omega) (t_inX (by omega) hx (br_nf rfl (k _ Fr.rf))))
theorem op_pass {x : Int32} (h : RR σ) : E2 mX6_pass mX7_pass [.int x] σ := by
  obtain ⟨n, z, nx, H, hn, hz, ⟨m, p, q, hR⟩, hC, hM, hH⟩ := id h
  by_cases h1 : x < nI 1
  · exact E2.rd (v := (-1000002)) h hM (fun K k => eX6_pass _ (by omega) (br_t h1 (k _ Fr.rf))) (fun s hs K k => eX7_pass _ (by omega) (t_in (fun a _ => absurd h1 a) (fun _ => br_nf rfl (k _ Fr.rf))))
  · by_cases h2 : x ≤ nI 100
    · have h2' := Int32.not_lt.mpr h2
      have e3 : ∀ s, MC s (σ.1 12) → s.1 37 (nI 3).toNatClampNeg = σ.1 12 3 := fun s hs => by rw [cl (by omega), hs 3 (by omega)]
      by_cases h3 : σ.1 12 3 + x ≤ nI 10000
      · refine E2.wr (v := σ.1 12 3 + x) (c1 := upd (σ.1 12) 3 (σ.1 12 3 + x)) (nx := nx) hn hz ⟨m, p, q, hR⟩ hM hH ⟨m, p, q, hR.low (Nat.le_refl _) hR.2.1 ?_ (upd_ne _ _ (by omega)) (upd_ne _ _ (by omega)) (fun k k1 k2 => upd_ne _ _ (by omega)) ?_ (fun i hi => ?_)⟩ (fun K k => eX6_pass _ (by omega) (br_f h1 (br_t h2 (s_tick (br_t h3 (s_keep (by omega) hz hC (fun s0 f cs => eX2_moveTick _ ⟨vp_in_nI (by omega) (by omega), vp_in_nI (by omega) (by omega), ?_⟩))))))) (fun s hs K k => eX7_pass _ (by omega) (t_in (fun _ _ => br_nt one_ne ⟨vp_in_nI (by omega) (by omega), ?_⟩) (fun a => a.elim (fun a => absurd a h1) (fun a => absurd a h2'))))
        · rw [upd_ne _ _ (by omega)]; exact hR.1
        · rw [upd_ne _ _ (by omega)]; exact hR.2.2.2.2.2.2.2.2.1
        · rw [upd_ne _ _ (by omega)]
          exact hR.2.2.2.2.2.2.2.2.2 i hi
        · rw [cl (by omega), sA_at, upd_at, f.1 12 rfl]
          exact k s0 _ f cs z12 (fun k hk => by rw [sA_at, f.1 12 rfl])
        · rw [e3 s hs.1]
          refine br_t h3 (t_records (by omega) hz hs (fun s2 f ms => ⟨vp_in_nI (by omega) (by omega), vp_in_nI (by omega) (by omega), vp_in_nI (by omega) (by omega), ?_⟩))
          rw [e3 s2 ms.1, cl (by omega), sA_at, upd_at]
          exact k _ ((FrB.rec f).tr z37) (ms.put (by omega))
      · refine E2.rd (v := (-1000004)) h hM (fun K k => eX6_pass _ (by omega) (br_f h1 (br_t h2 (s_tick (br_f h3 (k _ Fr.rf)))))) (fun s hs K k => eX7_pass _ (by omega) (t_in (fun _ _ => br_nt one_ne ⟨vp_in_nI (by omega) (by omega), ?_⟩) (fun a => a.elim (fun a => absurd a h1) (fun a => absurd a h2'))))
        rw [e3 s hs.1]
        exact br_f h3 (k _ Fr.rf)
    · exact E2.rd (v := (-1000002)) h hM (fun K k => eX6_pass _ (by omega) (br_f h1 (br_f h2 (k _ Fr.rf)))) (fun s hs K k => eX7_pass _ (by omega) (t_in (fun _ a => absurd (Int32.not_lt.mp a) h2) (fun _ => br_nf rfl (k _ Fr.rf))))
theorem op_type {x : Int32} (h : RR σ) : E2 mX6_type mX7_type [.int x] σ := by
  obtain ⟨n, z, nx, H, hn, hz, hRE, hC, hM, hH⟩ := id h
  rcases br_o (x := x) (N := 256) (by omega) with ⟨w, hw, rfl⟩ | hx
  · by_cases h40 : n < 40
    · refine eX6_type _ (by omega) (e_y (by omega) (by omega) ?_)
      rw [hC.2.2.2.1]
      refine br_t (nI_lt h40 (by omega)) (eX3_append _ ?_)
      rw [hC.2.2.2.1]
      refine br_f (nI_ge h40 (by omega)) ⟨vp_in_nI h40 (by omega), ?_⟩
      rw [cl (by omega), sA_f, hC.2.2.2.1, nI_add, sF_at]
      refine eX7_type _ (by omega) (t_inY (by omega) (by omega) (by omega) (br_nt one_ne ?_))
      rw [sF_ne _ _ (by omega), sA_f, hM.2.1]
      refine br_nt (nI_neq (by omega) (by omega) (by omega)) ⟨vp_in_nI h40 (by omega), ?_⟩
      simp (disch := omega) only [cl, sA_f, sF_ne, sF_at, hM.2.1, nI_add]
      refine ⟨trivial, n + 1, z, nx, H, by omega, hz, hRE, ⟨hC.1, hC.2.1, hC.2.2.1, rfl, fun j hj k hk => ?_⟩, ⟨hM.1, rfl, fun k hk => ?_, hM.2.2.2.1, hM.2.2.2.2⟩, hH⟩
      · simp (disch := omega) only [sF_a, sA_ne]
        exact hC.2.2.2.2 j hj k hk
      simp (disch := omega) only [sF_a, sA_at, sA_ne]
      by_cases e : k = n
      · rw [e, upd_at, upd_at]
      · rw [upd_ne _ _ e, upd_ne _ _ e]
        exact hM.2.2.1 k (by omega)
    · have e40 : n = 40 := by omega
      subst e40
      refine E2.rd (v := (-1000004)) h hM (fun K k => eX6_type _ (by omega) (e_y (by omega) (by omega) ?_)) (fun s hs K k => eX7_type _ (by omega) (t_inY (by omega) (by omega) (by omega) (br_nt one_ne ?_)))
      · rw [hC.2.2.2.1]
        exact br_f (by decide) (k _ Fr.rf)
      · rw [hs.2.1]
        exact br_nf rfl (k _ Fr.rf)
  · exact E2.rd (v := (-1000002)) h hM (fun K k => eX6_type _ (by omega) (e_n (by omega) hx (k _ Fr.rf))) (fun s hs K k => eX7_type _ (by omega) (t_inX (by omega) hx (br_nf rfl (k _ Fr.rf))))
theorem op_clearText (h : RR σ) : E2 mX6_clearText mX7_clearText [] σ := by
  obtain ⟨n, z, nx, H, hn, hz, hRE, hC, hM, hH⟩ := id h
  refine eX6_clearText (by omega) (eX3_empty (eX7_clearText ?_))
  rw [sF_ne _ _ (by omega), hM.2.1, hC.2.2.2.1]
  exact ⟨rfl, 0, z, nx, H, by omega, hz, hRE, ⟨hC.1, hC.2.1, hC.2.2.1, rfl, hC.2.2.2.2⟩, ⟨hM.1, rfl, fun k hk => absurd hk (by omega), hM.2.2.2.1, hM.2.2.2.2⟩, hH⟩
theorem op_undo (h : RR σ) : E2 mX6_undo mX7_undo [] σ := by
  obtain ⟨n, z, nx, H, hn, hz, hRE, hC, hM, hH⟩ := id h
  by_cases z0 : z = 0
  · subst z0
    refine E2.rd (v := (-1000003)) h hM (fun K k => eX6_undo (by omega) (br_nf hC.2.2.1 (k _ Fr.rf))) (fun s hs K k => eX7_undo (by omega) (br_nf hs.2.2.2.1 (k _ Fr.rf)))
  · have zn : ¬ nI z = 0 := nI_neq (b := 0) (by omega) (by omega) z0
    have hnx := hC.1
    refine eX6_undo (by omega) (br_nt (by rw [hC.2.2.1]; exact zn) (eX0_restoreInto (by omega) ?_))
    simp (disch := omega) only [sF_ne, sF_at, hC.2.1, hC.2.2.1, nI_add, pk_sub, pk_rem, cl]
    refine br_f (nI_ge (a := 0) (by omega) (by omega)) ⟨vp_in_nI (by omega) (by omega), s_copyFrom (by omega) (by omega) ?_⟩
    rw [sR_f, sF_at, sF_a, sF_a]
    refine eX7_undo (by omega) (br_nt ?_ ?_)
    · rw [sR_f, sF_ne _ _ (by omega), sF_ne _ _ (by omega), hM.2.2.2.1]
      exact zn
    rw [sR_f, sF_ne _ _ (by omega), sF_ne _ _ (by omega), hM.2.2.2.1, pk_mul]
    refine t_copies (a := 654 * z) (e := 0) (by omega) (by omega) (by omega) (fun s f g1 g2 => ?_)
    rw [sF_at, f.2.1 7 rfl, sR_f, sF_ne _ _ (by omega), sF_ne _ _ (by omega), hM.2.2.2.1, pk_sub (by omega)]
    have hh : ∀ k, k < 654 → va_cpy (σ.1 (27 + (nx + 4 - 1) % 4)) (σ.1 12) 0 0 654 k = H (z - 1) k := fun k hk => by
      rw [cpy_in hk, show (nx + 4 - 1) % 4 = (nx + 4 - z + (z - 1)) % 4 by omega]
      exact hC.2.2.2.2 (z - 1) (by omega) k hk
    have e12 : (sF s 7 (nI (z - 1))).1 12 = va_cpy (σ.1 (27 + (nx + 4 - 1) % 4)) (σ.1 12) 0 0 654 := by
      rw [sF_a, f.1 12 rfl, sR_at]
    have eA : ∀ p, p ≠ 12 → p ≠ 37 → (sF s 7 (nI (z - 1))).1 p = σ.1 p := fun p a b => by
      rw [sF_a, f.1 p (P1_ne b), sR_ne _ _ a, sF_a, sF_a]
    refine ⟨rfl, n, z - 1, (nx + 4 - 1) % 4, H, hn, by omega, ?_, ⟨by omega, ?_, ?_, ?_, fun j hj t ht => ?_⟩, ⟨fun t ht => ?_, ?_, fun t ht => ?_, sF_at _ _ _, fun j hj t ht => ?_⟩, fun j hj => hH j (by omega)⟩
    · rw [e12]
      exact (hH (z - 1) (by omega)).congr hh
    · rw [sF_ne _ _ (by omega), f.2.1 0 rfl, sR_f, sF_ne _ _ (by omega), sF_at]
    · rw [sF_ne _ _ (by omega), f.2.1 1 rfl, sR_f, sF_at]
    · rw [sF_ne _ _ (by omega), f.2.1 2 rfl, sR_f, sF_ne _ _ (by omega), sF_ne _ _ (by omega)]
      exact hC.2.2.2.1
    · rw [eA _ (by omega) (by omega), show ((nx + 4 - 1) % 4 + 4 - (z - 1) + j) % 4 = (nx + 4 - z + j) % 4 by omega]
      exact hC.2.2.2.2 j (by omega) t ht
    · rw [e12, hh t ht, sF_a]
      have e := g1 t ht
      rw [Nat.zero_add] at e
      rw [e, sR_ne _ _ (by omega), sF_a, sF_a, show 654 * z = 654 * (z - 1 + 1) by omega]
      exact hM.2.2.2.2 (z - 1) (by omega) t ht
    · rw [sF_ne _ _ (by omega), f.2.1 10 rfl, sR_f, sF_ne _ _ (by omega), sF_ne _ _ (by omega)]
      exact hM.2.1
    · rw [eA 45 (by omega) (by omega), eA 31 (by omega) (by omega)]
      exact hM.2.2.1 t ht
    · rw [sF_a, g2 _ (by omega), sR_ne _ _ (by omega), sF_a, sF_a]
      exact hM.2.2.2.2 j (by omega) t ht
end OPW
