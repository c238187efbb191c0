/-! THE LAW'S CHECK fits() -/
theorem neg_n : (-1000000 : Int32) < 0 := by decide
theorem nI_nleN {i : Nat} (h : i < 2 ^ 31) : ¬ nI i ≤ (-1000000) := fun z => by
  have h1 := Int32.lt_of_le_of_lt z neg_n
  exact nI_pos h h1
theorem nI_ind {x : Int32} (h : x = nI 0 ∨ x = nI 1) : x = nI (ind (x = nI 1)) := by
  rcases h with h | h
  · rw [ind_f (fun e => (nI_neq (a := 0) (b := 1) (by omega) (by omega) (by omega)) (h.symm.trans e))]
    exact h
  · rw [ind_t h]
    exact h
section FACTS
variable {c : Nat → Int32} {m p q T : Nat}
theorem own_sum (hR : Row c m p q) : sumN (fun j => vOwn c p j) m = vLive c p := by
  have hm6 := hR.2.1
  refine dcount (A := fun k => c (26 + 16 * k) = nI 1) (B := fun j k => c (22 + 16 * k) = nI j) p (fun k hk _ => ?_)
  obtain ⟨h1, h2⟩ := hR.own hk
  refine ⟨owN c k, h2, fun j hj => ⟨fun e => nI_inj (by omega) (by omega) (e.symm.trans h1), fun e => by rw [e]; exact h1⟩⟩
theorem uses_sum (hR : Row c m p q) : sumN (fun j => cntP (fun k => c (343 + 13 * k) = nI j) q) p = q := by
  have hp20 := hR.2.2.2.1
  have e := dcount (A := fun _ => True) (B := fun j k => c (343 + 13 * k) = nI j) (p := p) q (fun k hk _ => by
    obtain ⟨h, h1, h2⟩ := (hR.2.2.2.2.2.2.2.1 k hk).2.1
    exact ⟨h, h1, fun j hj => ⟨fun e => nI_inj (by omega) (by omega) (e.symm.trans h2), fun e => by rw [e]; exact h2⟩⟩)
  rw [cntP_all q (fun _ _ => trivial)] at e
  refine Eq.trans (sumN_congr p (fun j _ => ?_)) e
  exact cntP_congr (fun k _ => ⟨fun z => ⟨trivial, z⟩, fun z => z.2⟩)
theorem cf_even (hR : Row c m p q) : vCfs c p = 2 * (vCfs c p / 2) := by
  have hp20 := hR.2.2.2.1
  obtain ⟨e, he⟩ := even_pairs (R := fun j k => j < p ∧ k < p ∧ c (26 + 16 * j) = nI 1 ∧ Cf c j (lnN c j) k) (fun a b ⟨h1, h2, h3, ⟨h4, h5, h6⟩, h7⟩ => by
    obtain ⟨l1, l2, l3⟩ := hR.len h1
    obtain ⟨l4, l5, l6⟩ := hR.len h2
    have el : lnN c b = lnN c a := nI_inj (by omega) (by omega) (l4.symm.trans h5)
    exact ⟨h2, h1, h4, ⟨h3, by rw [l1, el], fun i hi => (h6 i (by omega)).symm⟩, fun z => h7 z.symm⟩) (fun a ⟨_, _, _, _, h⟩ => h rfl) p
  have e2 : vCfs c p = 2 * e := by
    rw [← he]
    unfold vCfs
    refine sumN_congr p (fun j hj => ?_)
    unfold cfl
    rcases Classical.em (c (26 + 16 * j) = nI 1) with h | h
    · rw [if_pos h]
      exact cntP_congr (fun k hk => ⟨fun z => ⟨hj, hk, h, z⟩, fun z => z.2.2.2⟩)
    · rw [if_neg h]
      exact (cntP_z p (fun k _ z => h z.2.2.1)).symm
  omega
end FACTS
section FITS
variable {d : Nat} {σ : SS} {K : Int32 → SS → Prop} {c b : Nat → Int32} {m p q n T : Nat} {v1 v2 v3 v4 v5 : Int32}
theorem fits383 (hd : 7 ≤ d) (h : RD σ c b n) (hI : Inv c m p q T) (e2 : v2 = nI (vLive c p)) (e3 : v3 = nI (vLive c p)) (e4 : v4 = nI (vPaid c q)) (e5 : v5 = nI (vCfs c p)) (k : ∀ s, Fr PC FC σ s → K (nI 1) s) : VV mL_fits d s00 383 [some (.ref 0), some (.int v1), some (.int v2), some (.int v3), some (.int v4), some (.int v5), some (.int (nI 0)), some (.int (nI 0)), none] [] σ (Qi K) := by
  have hR := hI.1
  have hp20 := hR.2.2.2.1
  have hp := hR.2.2.1
  refine cup (I := fun _ s => Fr PC FC σ s) (G := fun i s => VV mL_fits d s00 383 [some (.ref 0), some (.int v1), some (.int v2), some (.int v3), some (.int v4), some (.int v5), some (.int (nI (sumN (fun j => cntP (fun k => c (343 + 13 * k) = nI j) q) i))), some (.int (nI i)), none] [] s (Qi K)) p ?_ ?_ 0 (Nat.zero_le _) σ Fr.rf
  · intro s f
    refine bL_fits_383 _ _ _ _ _ _ _ (by omega) (p_count (w := 1) (by omega) (h.C f) hR (by omega) (fun s1 f1 => ?_))
    have f1 := f.tr f1
    rw [show cprop c p q 1 = nI p from hp]
    refine br_t (nI_le (Nat.le_refl _) (by omega)) (p_count (w := 2) (by omega) (h.C f1) hR (by omega) (fun s2 f2 => ?_))
    have f2 := f1.tr f2
    refine br_nf e2 (br_nf (e3.trans e2.symm) (p_count (w := 4) (by omega) (h.C f2) hR (by omega) (fun s3 f3 => ?_)))
    have f3 := f2.tr f3
    refine br_nf e4 (p_count (w := 7) (by omega) (h.C f3) hR (by omega) (fun s4 f4 => ?_))
    have f4 := f3.tr f4
    refine br_nf ?_ (p_count (w := 3) (by omega) (h.C f4) hR (by omega) (fun s5 f5 => ?_))
    · show v5 = nI 2 * nI (vCfs c p / 2)
      rw [e5, pk_mul, ← cf_even hR]
    have f5 := f4.tr f5
    refine br_nf ?_ (k s5 f5)
    rw [uses_sum hR]
    exact hR.2.2.2.2.1.symm
  · intro i hi ih s f
    refine bL_fits_383 _ _ _ _ _ _ _ (by omega) (p_count (w := 1) (by omega) (h.C f) hR (by omega) (fun s1 f1 => ?_))
    have f1 := f.tr f1
    rw [show cprop c p q 1 = nI p from hp]
    refine br_f (nI_ge hi (by omega)) (p_phrase (w := 5) (by omega) (h.C f1) hR hi (by omega) (fun s2 f2 => ?_))
    have f2 := f1.tr f2
    have e : pprop c p i 5 = nI (cntP (fun k => c (343 + 13 * k) = nI i) q) := by
      show c (22 + 16 * i + 5) = _
      rw [show 22 + 16 * i + 5 = 27 + 16 * i by omega]
      exact hI.2.2.2.2.2.2.2.2 i hi
    rw [e, nI_add, nI_add]
    exact ih s2 f2
theorem fits269 {i : Nat} {fee pool tk : Nat} {g : Nat → Nat} (hd : 7 ≤ d) (h : RD σ c b n) (hI : Inv c m p q T) (hi : i < q) (a1 : c (345 + 13 * i) = nI fee) (a3 : c (346 + 13 * i) = nI tk) (a4 : ∀ t, t < 6 → c (349 + 13 * i + t) = nI (g t)) (a6 : pool + sumN g 6 = fee) (a7 : fee ≤ 200) (a8 : tk ≤ T) (k : ∀ s, Fr PC FC σ s → VV mL_fits d s00 246 [some (.ref 0), some (.int v1), some (.int v2), some (.int v3), some (.int (v4 + c (347 + 13 * i))), some (.int v5), some (.int (nI (i + 1))), none, none] [] s (Qi K)) : VV mL_fits d s00 269 [some (.ref 0), some (.int v1), some (.int v2), some (.int v3), some (.int v4), some (.int v5), some (.int (nI i)), some (.int (nI pool)), some (.int (nI 0))] [] σ (Qi K) := by
  have hR := hI.1
  have hp20 := hR.2.2.2.1
  have hT := hI.2.1
  have hT2 := hI.2.2.1
  refine cup (I := fun _ s => Fr PC FC σ s) (G := fun t s => VV mL_fits d s00 269 [some (.ref 0), some (.int v1), some (.int v2), some (.int v3), some (.int v4), some (.int v5), some (.int (nI i)), some (.int (nI (pool + sumN g t))), some (.int (nI t))] [] s (Qi K)) 6 ?_ ?_ 0 (Nat.zero_le _) σ Fr.rf
  · intro s f
    have hs := h.C f
    refine bL_fits_269 _ _ _ _ _ _ _ _ (by omega) (br_t (nI_le (Nat.le_refl _) (by omega)) (p_note (w := 5) (by omega) hs hR hi (by omega) (p_note (w := 3) (by omega) hs hR hi (by omega) (br_nf ?_ (p_note (w := 4) (by omega) hs hR hi (by omega) (p_count (w := 5) (by omega) hs hR (by omega) (fun s1 f1 => br_f ?_ (p_note (w := 1) (by omega) (hs.C f1) hR hi (by omega) ?_))))))))
    · rw [show 342 + 13 * i + 3 = 345 + 13 * i by omega, a1, a6]
    · rw [show cprop c p q 5 = nI T from hT, show 342 + 13 * i + 4 = 346 + 13 * i by omega, a3]
      exact nI_nlt a8 (by omega)
    · obtain ⟨o, o1, o2⟩ := (hR.2.2.2.2.2.2.2.1 i hi).2.1
      rw [show 342 + 13 * i + 1 = 343 + 13 * i by omega, o2]
      refine p_phrase (w := 5) (by omega) (hs.C f1) hR o1 (by omega) (fun s2 f2 => ?_)
      have e : pprop c p o 5 = nI (cntP (fun k => c (343 + 13 * k) = nI o) q) := by
        show c (22 + 16 * o + 5) = _
        rw [show 22 + 16 * o + 5 = 27 + 16 * o by omega]
        exact hI.2.2.2.2.2.2.2.2 o o1
      have l1 := cntP_one (P := fun k => c (343 + 13 * k) = nI o) q hi o2
      have l2 := cntP_le (fun k => c (343 + 13 * k) = nI o) q
      have hq24 := hR.2.2.2.2.2.1
      rw [e, nI_add, show 342 + 13 * i + 5 = 347 + 13 * i by omega]
      exact br_t (nI_le l1 (by omega)) (k s2 (f.tr (f1.tr f2)))
  · intro t ht ih s f
    have hs := h.C f
    have e : c (342 + 13 * i + (7 + t)) = nI (g t) := by
      rw [show 342 + 13 * i + (7 + t) = 349 + 13 * i + t by omega]
      exact a4 t ht
    have lg : g t ≤ 200 := by
      have : g t ≤ sumN g 6 := by
        have z : ∀ n, t < n → g t ≤ sumN g n := by
          intro n
          induction n with
          | zero => intro h; omega
          | succ n ih =>
            intro h
            rw [sumN_s]
            by_cases e : t = n
            · subst e; omega
            · have := ih (by omega)
              omega
        exact z 6 ht
      omega
    refine bL_fits_269 _ _ _ _ _ _ _ _ (by omega) (br_f (nI_ge ht (by omega)) ?_)
    rw [nI_add, nI_add]
    refine p_note (by omega) hs hR hi (by omega) (p_note (by omega) hs hR hi (by omega) ?_)
    rw [e, nI_add, Nat.add_assoc]
    exact br_t (nI_pos' (by omega)) (ih s f)
theorem fits246 (hd : 7 ≤ d) (h : RD σ c b n) (hI : Inv c m p q T) (e2 : v2 = nI (vLive c p)) (e3 : v3 = nI (vLive c p)) (e5 : v5 = nI (vCfs c p)) (k : ∀ s, Fr PC FC σ s → K (nI 1) s) : VV mL_fits d s00 246 [some (.ref 0), some (.int v1), some (.int v2), some (.int v3), some (.int (nI 0)), some (.int v5), some (.int (nI 0)), none, none] [] σ (Qi K) := by
  have hR := hI.1
  have hq24 := hR.2.2.2.2.2.1
  have hq := hR.2.2.2.2.1
  refine cup (I := fun _ s => Fr PC FC σ s) (G := fun i s => VV mL_fits d s00 246 [some (.ref 0), some (.int v1), some (.int v2), some (.int v3), some (.int (nI (cntP (fun k => c (347 + 13 * k) = nI 1) i))), some (.int v5), some (.int (nI i)), none, none] [] s (Qi K)) q ?_ ?_ 0 (Nat.zero_le _) σ Fr.rf
  · intro s f
    refine bL_fits_246 _ _ _ _ _ _ (by omega) (p_count (w := 3) (by omega) (h.C f) hR (by omega) (fun s1 f1 => ?_))
    have f1 := f.tr f1
    rw [show cprop c p q 3 = nI q from hq]
    exact br_t (nI_le (Nat.le_refl _) (by omega)) (fits383 hd (h.C f1) hI e2 e3 rfl e5 (fun s2 f2 => k s2 (f1.tr f2)))
  · intro i hi ih s f
    refine bL_fits_246 _ _ _ _ _ _ (by omega) (p_count (w := 3) (by omega) (h.C f) hR (by omega) (fun s1 f1 => ?_))
    have f1 := f.tr f1
    rw [show cprop c p q 3 = nI q from hq]
    obtain ⟨fee, pool, tk, g, a1, a2, a3, a4, a5, a6, a7, a8⟩ := hI.2.2.2.2.2.2.2.1 i hi
    refine br_f (nI_ge hi (by omega)) (p_note (w := 6) (by omega) (h.C f1) hR hi (by omega) ?_)
    rw [show 342 + 13 * i + 6 = 348 + 13 * i by omega, a2]
    refine fits269 hd (h.C f1) hI hi a1 a3 a4 a6 a7 a8 (fun s2 f2 => ?_)
    have e := nI_ind (hR.2.2.2.2.2.2.2.1 i hi).2.2
    have ih := ih s2 (f1.tr f2)
    rw [cntP_s, ← nI_add, ← e] at ih
    exact ih
theorem fits179 {i : Nat} {v7 : Int32} (hd : 7 ≤ d) (h : RD σ c b n) (hI : Inv c m p q T) (hi : i < p) (k : ∀ s, Fr PC FC σ s → VV mL_fits d s00 65 [some (.ref 0), some (.int v1), some (.int v2), some (.int v3), some (.int v4), some (.int v5), some (.int (nI (i + 1))), none, none] [] s (Qi K)) : VV mL_fits d s00 179 [some (.ref 0), some (.int v1), some (.int v2), some (.int v3), some (.int v4), some (.int v5), some (.int (nI i)), some (.int v7), some (.int (nI 0))] [] σ (Qi K) := by
  have hR := hI.1
  have hp20 := hR.2.2.2.1
  refine cup (I := fun _ s => Fr PC FC σ s) (G := fun t s => VV mL_fits d s00 179 [some (.ref 0), some (.int v1), some (.int v2), some (.int v3), some (.int v4), some (.int v5), some (.int (nI i)), some (.int v7), some (.int (nI t))] [] s (Qi K)) i ?_ ?_ 0 (Nat.zero_le _) σ Fr.rf
  · intro s f
    refine bL_fits_179 _ _ _ _ _ _ _ _ (by omega) (br_t (nI_le (Nat.le_refl _) (by omega)) ?_)
    rw [nI_add]
    exact k s f
  · intro t ht ih s f
    have l := scr_le (phw c i) (lnN c i) (phw c t) (lnN c t)
    refine bL_fits_179 _ _ _ _ _ _ _ _ (by omega) (br_f (nI_ge ht (by omega)) (p_score (by omega) (h.C f) hR hi (by omega) (fun s1 f1 => p_score (by omega) (h.C (f.tr f1)) hR (by omega) hi (fun s2 f2 => br_nf (congrArg nI (scr_sym _ _ _ _)) ?_))))
    have f2 := f.tr (f1.tr f2)
    refine p_score (by omega) (h.C f2) hR hi (by omega) (fun s3 f3 => br_f (nI_pos (by omega)) (p_score (by omega) (h.C (f2.tr f3)) hR hi (by omega) (fun s4 f4 => br_t (nI_le l (by omega)) ?_)))
    rw [nI_add]
    exact ih s4 (f2.tr (f3.tr f4))
theorem fits65 (hd : 7 ≤ d) (h : RD σ c b n) (hI : Inv c m p q T) (e3 : v3 = nI (vLive c p)) (k : ∀ s, Fr PC FC σ s → K (nI 1) s) : VV mL_fits d s00 65 [some (.ref 0), some (.int v1), some (.int (nI 0)), some (.int v3), some (.int (nI 0)), some (.int (nI 0)), some (.int (nI 0)), none, none] [] σ (Qi K) := by
  have hR := hI.1
  have hp20 := hR.2.2.2.1
  have hp := hR.2.2.1
  refine cup (I := fun _ s => Fr PC FC σ s) (G := fun i s => VV mL_fits d s00 65 [some (.ref 0), some (.int v1), some (.int (nI (cntP (fun j => c (26 + 16 * j) = nI 1) i))), some (.int v3), some (.int (nI 0)), some (.int (nI (sumN (fun j => cfl c p j (lnN c j)) i))), some (.int (nI i)), none, none] [] s (Qi K)) p ?_ ?_ 0 (Nat.zero_le _) σ Fr.rf
  · intro s f
    refine bL_fits_65 _ _ _ _ _ _ (by omega) (p_count (w := 1) (by omega) (h.C f) hR (by omega) (fun s1 f1 => ?_))
    have f1 := f.tr f1
    rw [show cprop c p q 1 = nI p from hp]
    exact br_t (nI_le (Nat.le_refl _) (by omega)) (fits246 hd (h.C f1) hI rfl e3 rfl (fun s2 f2 => k s2 (f1.tr f2)))
  · intro i hi ih s f
    obtain ⟨l1, l2, l3⟩ := hR.len hi
    refine bL_fits_65 _ _ _ _ _ _ (by omega) (p_count (w := 1) (by omega) (h.C f) hR (by omega) (fun s1 f1 => ?_))
    have f1 := f.tr f1
    rw [show cprop c p q 1 = nI p from hp]
    refine br_f (nI_ge hi (by omega)) (p_phrase (w := 3) (by omega) (h.C f1) hR hi (by omega) (fun s2 f2 => ?_))
    have f2 := f1.tr f2
    refine p_phrase (w := 4) (by omega) (h.C f2) hR hi (by omega) (fun s3 f3 => ?_)
    have f3 := f2.tr f3
    refine p_phrase (w := 6) (by omega) (h.C f3) hR hi (by omega) (fun s4 f4 => ?_)
    have f4 := f3.tr f4
    refine p_score (by omega) (h.C f4) hR hi hi (fun s5 f5 => ?_)
    have f5 := f4.tr f5
    refine br_nf (congrArg nI ((scr_100 l2).mpr ⟨rfl, fun _ _ => rfl⟩)) (p_phrase (w := 4) (by omega) (h.C f5) hR hi (by omega) (fun s6 f6 => ?_))
    have f6 := f5.tr f6
    have e3' : pprop c p i 3 = c (25 + 16 * i) := by
      show c (22 + 16 * i + 3) = _
      rw [show 22 + 16 * i + 3 = 25 + 16 * i by omega]
    have e4 : pprop c p i 4 = c (26 + 16 * i) := by
      show c (22 + 16 * i + 4) = _
      rw [show 22 + 16 * i + 4 = 26 + 16 * i by omega]
    have e6 : pprop c p i 6 = nI (cfl c p i (lnN c i)) := rfl
    have hlv := hR.live hi
    have nx : ∀ s, Fr PC FC σ s → VV mL_fits d s00 141 [some (.ref 0), some (.int v1), some (.int (nI (cntP (fun j => c (26 + 16 * j) = nI 1) i) + c (26 + 16 * i))), some (.int v3), some (.int (nI 0)), some (.int (nI (sumN (fun j => cfl c p j (lnN c j)) i) + nI (cfl c p i (lnN c i)))), some (.int (nI i)), some (.int (c (25 + 16 * i))), none] [] s (Qi K) := fun s f => by
      have nxt : ∀ s, Fr PC FC σ s → VV mL_fits d s00 179 [some (.ref 0), some (.int v1), some (.int (nI (cntP (fun j => c (26 + 16 * j) = nI 1) i) + c (26 + 16 * i))), some (.int v3), some (.int (nI 0)), some (.int (nI (sumN (fun j => cfl c p j (lnN c j)) i) + nI (cfl c p i (lnN c i)))), some (.int (nI i)), some (.int (c (25 + 16 * i))), some (.int (nI 0))] [] s (Qi K) := fun s f => by
        refine fits179 hd (h.C f) hI hi (fun s2 f2 => ?_)
        have e := nI_ind hlv
        have ih := ih s2 (f.tr f2)
        rw [cntP_s, ← nI_add, ← e, sumN_s, ← nI_add] at ih
        exact ih
      refine bL_fits_141 _ _ _ _ _ _ _ (by omega) ?_
      have hpar := hR.par hi
      rcases hpar with e | ⟨a, ha, e⟩
      · rw [e] at nxt ⊢
        refine br_f (nI_nleN (by omega)) (p_phrase (w := 4) (by omega) (h.C f) hR hi (by omega) (fun s2 f2 => ⟨fun _ => nxt s2 (f.tr f2), fun _ => br_t neg_n (nxt s2 (f.tr f2))⟩))
      · rw [e] at nxt ⊢
        refine br_f (nI_ge ha (by omega)) (p_phrase (w := 4) (by omega) (h.C f) hR hi (by omega) (fun s2 f2 => ⟨fun _ => nxt s2 (f.tr f2), fun hl => br_f (nI_pos (by omega)) (p_phrase (w := 4) (by omega) (h.C (f.tr f2)) hR (by omega) (by omega) (fun s3 f3 => ?_))⟩))
        rw [e4] at hl
        have hl2 : c (26 + 16 * a) = nI 1 := by
          rcases hI.2.2.2.2.2.2.1 i hi hl with z | ⟨a', h1, h2, h3⟩
          · rw [e] at z
            exact absurd z (nI_neN (by omega))
          · have := nI_inj (by omega) (by omega) (e.symm.trans h2)
            subst this
            exact h3
        have e4a : pprop c p a 4 = nI 1 := by
          show c (22 + 16 * a + 4) = _
          rw [show 22 + 16 * a + 4 = 26 + 16 * a by omega]
          exact hl2
        rw [e4a]
        exact br_nt one_ne (nxt s3 (f.tr (f2.tr f3)))
    rw [e3', e4, e6]
    refine ⟨fun _ => nx s6 f6, fun h0 => p_phrase (w := 6) (by omega) (h.C f6) hR hi (by omega) (fun s7 f7 => br_nf ?_ (nx s7 (f6.tr f7)))⟩
    rw [e6]
    have hnl : ¬ c (26 + 16 * i) = nI 1 := fun z => one_ne (z.symm.trans h0)
    have e0 : cfl c p i (lnN c i) = 0 := if_neg hnl
    rw [e0]
    rfl
theorem s_fits (hd : 7 ≤ d) (h : RD σ c b n) (hI : Inv c m p q T) (k : ∀ s, Fr PC FC σ s → K (nI 1) s) : CTi mL_fits d [.ref 0] σ K := by
  have hR := hI.1
  have hm6 := hR.2.1
  have hm := hR.1
  refine eL_fits (by omega) (p_count (w := 6) (by omega) h hR (by omega) (fun s0 f0 => ?_))
  rw [show cprop c p q 6 = c 4 + isum (fun j => c (11 + 2 * j)) 0 from (add0 _).symm]
  refine cup (I := fun _ s => Fr PC FC σ s) (G := fun i s => VV mL_fits d s00 20 [some (.ref 0), some (.int (c 4 + isum (fun j => c (11 + 2 * j)) i)), some (.int (nI 0)), some (.int (nI (sumN (fun j => vOwn c p j) i))), some (.int (nI 0)), some (.int (nI 0)), some (.int (nI i)), none, none] [] s (Qi K)) m ?_ ?_ 0 (Nat.zero_le _) s0 f0
  · intro s f
    refine bL_fits_20 _ _ _ _ _ _ (by omega) (p_count (w := 0) (by omega) (h.C f) hR (by omega) (fun s1 f1 => ?_))
    have f1 := f.tr f1
    rw [show cprop c p q 0 = nI m from hm]
    refine br_t (nI_le (Nat.le_refl _) (by omega)) (br_t hI.2.2.2.2.2.1 ?_)
    exact fits65 hd (h.C f1) hI (congrArg nI (own_sum hR)) (fun s2 f2 => k s2 (f1.tr f2))
  · intro i hi ih s f
    refine bL_fits_20 _ _ _ _ _ _ (by omega) (p_count (w := 0) (by omega) (h.C f) hR (by omega) (fun s1 f1 => ?_))
    have f1 := f.tr f1
    rw [show cprop c p q 0 = nI m from hm]
    refine br_f (nI_ge hi (by omega)) (p_member (w := 1) (by omega) (h.C f1) hR hi (by omega) (p_member (w := 2) (by omega) (h.C f1) hR hi (by omega) ?_))
    have e1 : mprop c p q i 1 = c (11 + 2 * i) := by
      show c (10 + 2 * i + 1) = _
      rw [show 10 + 2 * i + 1 = 11 + 2 * i by omega]
    have e2 : mprop c p q i 2 = nI (vOwn c p i) := rfl
    rw [e1, e2, nI_add, nI_add, Int32.add_assoc]
    exact ih s1 f1
end FITS
