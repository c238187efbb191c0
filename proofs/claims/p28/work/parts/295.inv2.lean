/-! WHAT IS RETRACTED; THE START -/
section RET
variable {c f : Nat → Int32} {m p q o T : Nat}
theorem eRs_lm {j : Nat} (h : Mk c o j) : ∀ n, j < n → eRs c o f n (26 + 16 * j) = nI 0 := by
  intro n
  induction n with
  | zero => intro h; omega
  | succ n ih =>
    intro hj
    by_cases e : j = n
    · subst e
      rw [eRs_m h, upd_at]
    · by_cases h1 : Mk c o n
      · rw [eRs_m h1, upd_ne _ _ (by omega), ih (by omega)]
      · by_cases h2 : HP c o n
        · rw [eRs_h h1 h2, upd_ne _ _ (by omega), ih (by omega)]
        · rw [eRs_n h1 h2, ih (by omega)]
theorem eRs_ln {j : Nat} (h : ¬ Mk c o j) : ∀ n, eRs c o f n (26 + 16 * j) = f (26 + 16 * j) := by
  intro n
  induction n with
  | zero => rfl
  | succ n ih =>
    by_cases h1 : Mk c o n
    · rw [eRs_m h1, upd_ne _ _ (fun e => h (by rw [show j = n by omega]; exact h1)), ih]
    · by_cases h2 : HP c o n
      · rw [eRs_h h1 h2, upd_ne _ _ (by omega), ih]
      · rw [eRs_n h1 h2, ih]
theorem eRs_pn {j : Nat} (h : Mk c o j ∨ ¬ HP c o j) : ∀ n, eRs c o f n (25 + 16 * j) = f (25 + 16 * j) := by
  intro n
  induction n with
  | zero => rfl
  | succ n ih =>
    by_cases h1 : Mk c o n
    · rw [eRs_m h1, upd_ne _ _ (by omega), ih]
    · by_cases h2 : HP c o n
      · rw [eRs_h h1 h2, upd_ne _ _ (fun e => by
          have e : j = n := by omega
          subst e
          exact h.elim h1 (fun z => z h2)), ih]
      · rw [eRs_n h1 h2, ih]
theorem eRs_ph {j : Nat} (h : ¬ Mk c o j) (h2 : HP c o j) : ∀ n, j < n → eRs c o f n (25 + 16 * j) = (-1000000) := by
  intro n
  induction n with
  | zero => intro h; omega
  | succ n ih =>
    intro hj
    by_cases e : j = n
    · subst e
      rw [eRs_h h h2, upd_at]
    · by_cases h1 : Mk c o n
      · rw [eRs_m h1, upd_ne _ _ (by omega), ih (by omega)]
      · by_cases h2 : HP c o n
        · rw [eRs_h h1 h2, upd_ne _ _ (by omega), ih (by omega)]
        · rw [eRs_n h1 h2, ih (by omega)]
theorem pb_pt {Ow : Nat → Prop} {us : Nat → Nat} {k : Nat} (hm : m ≤ 6) (h : Ow k) : ∀ n, (∀ k, k < n → us k < m) → k < n → pb Ow us m f n (347 + 13 * k) = nI 1 := by
  intro n
  induction n with
  | zero => intro _ h; omega
  | succ n ih =>
    intro hu hk
    by_cases e : k = n
    · subst e
      rw [pb_t h, upd_at]
    · by_cases h1 : Ow n
      · rw [pb_t h1, upd_ne _ _ (by omega), mvm_out hm (hu n (by omega)) (Or.inl (by omega)), ih (fun k hk => hu k (by omega)) (by omega)]
      · rw [pb_f h1, ih (fun k hk => hu k (by omega)) (by omega)]
theorem pb_pn {Ow : Nat → Prop} {us : Nat → Nat} {k : Nat} (hm : m ≤ 6) (h : ¬ Ow k) : ∀ n, (∀ k, k < n → us k < m) → pb Ow us m f n (347 + 13 * k) = f (347 + 13 * k) := by
  intro n
  induction n with
  | zero => intro _; rfl
  | succ n ih =>
    intro hu
    by_cases h1 : Ow n
    · rw [pb_t h1, upd_ne _ _ (fun e => h (by rw [show k = n by omega]; exact h1)), mvm_out hm (hu n (by omega)) (Or.inl (by omega)), ih (fun k hk => hu k (by omega))]
    · rw [pb_f h1, ih (fun k hk => hu k (by omega))]
theorem pb_sum {Ow : Nat → Prop} {us : Nat → Nat} (hm : m ≤ 6) : ∀ n, (∀ k, k < n → us k < m) → (∀ k, k < n → f (348 + 13 * k) + isum (fun t => f (349 + 13 * k + t)) m = f (345 + 13 * k)) → pb Ow us m f n 4 + isum (fun t => pb Ow us m f n (11 + 2 * t)) m = f 4 + isum (fun t => f (11 + 2 * t)) m := by
  intro n
  induction n with
  | zero => intro _ _; rfl
  | succ n ih =>
    intro hu hb
    have ih := ih (fun k hk => hu k (by omega)) (fun k hk => hb k (by omega))
    by_cases h1 : Ow n
    · have hu' : ∀ k, k < n → us k < m := fun k hk => hu k (by omega)
      have o1 : ∀ t, 22 ≤ t → (∀ k, k < n → t ≠ 347 + 13 * k) → pb Ow us m f n t = f t := fun t a b => pb_out hm n hu' (Or.inl a) b
      rw [pb_t h1, upd_ne _ _ (by omega), isum_congr (g := fun t => mvm (pb Ow us m f n) (342 + 13 * n) (us n) (-1) m (11 + 2 * t)) m (fun t ht => upd_ne _ _ (by omega)), mvm_sum (hu n (by omega)) ?_]
      · exact ih
      · rw [o1 _ (by omega) (fun k hk => by omega), o1 _ (by omega) (fun k hk => by omega), isum_congr (g := fun t => f (349 + 13 * n + t)) m (fun t ht => by
          show pb Ow us m f n (342 + 13 * n + 7 + t) = _
          rw [o1 _ (by omega) (fun k hk => by omega), show 342 + 13 * n + 7 + t = 349 + 13 * n + t by omega])]
        rw [show 342 + 13 * n + 6 = 348 + 13 * n by omega, show 342 + 13 * n + 3 = 345 + 13 * n by omega]
        exact hb n (by omega)
    · rw [pb_f h1]
      exact ih
theorem ret_out (hR : Row c m p q) {t : Nat} (h1 : ∀ j, j < p → t ≠ 25 + 16 * j ∧ t ≠ 26 + 16 * j) (h2 : 22 ≤ t ∨ t < 4 ∨ 4 < t ∧ t < 11 ∨ ∃ s, t = 10 + 2 * s) (h3 : ∀ k, k < q → t ≠ 347 + 13 * k) : retR c m p q o t = c t := by
  unfold retR
  rw [eRs_out p h1, pb_out hR.2.1 q (fun k hk => (hR.us hk).2) h2 h3]
theorem ret_l {j : Nat} (hR : Row c m p q) (hj : j < p) : (Mk c o j → retR c m p q o (26 + 16 * j) = nI 0) ∧ (¬ Mk c o j → retR c m p q o (26 + 16 * j) = c (26 + 16 * j)) := by
  have hp20 := hR.2.2.2.1
  unfold retR
  refine ⟨fun h => eRs_lm h p hj, fun h => ?_⟩
  rw [eRs_ln h p, pb_out hR.2.1 q (fun k hk => (hR.us hk).2) (by omega) (fun k hk => by omega)]
theorem ret_paid {k : Nat} (hR : Row c m p q) (hk : k < q) : (Owd c o k → retR c m p q o (347 + 13 * k) = nI 1) ∧ (¬ Owd c o k → retR c m p q o (347 + 13 * k) = c (347 + 13 * k)) := by
  have hp20 := hR.2.2.2.1
  unfold retR
  rw [eRs_out p (fun j hj => by omega)]
  exact ⟨fun h => pb_pt hR.2.1 h q (fun k hk => (hR.us hk).2) hk, fun h => pb_pn hR.2.1 h q (fun k hk => (hR.us hk).2)⟩
theorem ret_inv (hI : Inv c m p q T) : Inv (retR c m p q o) m p q T := by
  obtain ⟨hR, hT, hT2, h6, h7, hac, htr, hnt, hus⟩ := hI
  have hp20 := hR.2.2.2.1
  have hm6 := hR.2.1
  refine ⟨ret_row hR, ?_, hT2, ?_, ?_, ?_, fun j hj hl => ?_, fun k hk => ?_, fun j hj => ?_⟩
  · rw [ret_out hR (fun j hj => by omega) (by omega) (fun k hk => by omega)]; exact hT
  · rw [ret_out hR (fun j hj => by omega) (by omega) (fun k hk => by omega)]; exact h6
  · rw [ret_out hR (fun j hj => by omega) (by omega) (fun k hk => by omega)]; exact h7
  · have e : ∀ t, t < 22 → retR c m p q o t = pb (Owd c o) (usN c) m c q t := fun t ht => eRs_out p (fun j hj => by omega)
    rw [e 4 (by omega), isum_congr (g := fun t => pb (Owd c o) (usN c) m c q (11 + 2 * t)) m (fun t ht => e _ (by omega)), pb_sum hm6 q (fun k hk => (hR.us hk).2) (fun k hk => (hnt k hk).bal hm6)]
    exact hac
  · have nm : ¬ Mk c o j := fun h => by
      rw [(ret_l hR hj).1 h] at hl
      exact absurd hl (nI_neq (a := 0) (b := 1) (by omega) (by omega) (by omega))
    rw [(ret_l hR hj).2 nm] at hl
    by_cases h2 : HP c o j
    · exact Or.inl (eRs_ph nm h2 p hj)
    · have e : retR c m p q o (25 + 16 * j) = c (25 + 16 * j) := by
        unfold retR
        rw [eRs_pn (Or.inr h2) p, pb_out hR.2.1 q (fun k hk => (hR.us hk).2) (by omega) (fun k hk => by omega)]
      rw [e]
      rcases htr j hj hl with z | ⟨a, ha, z, za⟩
      · exact Or.inl z
      · refine Or.inr ⟨a, ha, z, ?_⟩
        rw [(ret_l hR (show a < p by omega)).2 (fun w => h2 ⟨hl, a, ha, z, w⟩)]
        exact za
  · obtain ⟨fe, po, tk, g', a1, a2, a3, a4, a5⟩ := hnt k hk
    refine ⟨fe, po, tk, g', ?_, ?_, ?_, fun t ht => ?_, a5⟩
    · rw [ret_out hR (fun j hj => by omega) (by omega) (fun k hk => by omega)]; exact a1
    · rw [ret_out hR (fun j hj => by omega) (by omega) (fun k hk => by omega)]; exact a2
    · rw [ret_out hR (fun j hj => by omega) (by omega) (fun k hk => by omega)]; exact a3
    · rw [ret_out hR (fun j hj => by omega) (by omega) (fun k hk => by omega)]; exact a4 t ht
  · rw [ret_out hR (fun j hj => by omega) (by omega) (fun k hk => by omega), cntP_congr (Q := fun t => c (343 + 13 * t) = nI j) (fun t ht => by rw [ret_out hR (fun j hj => by omega) (by omega) (fun k hk => by omega)])]
    exact hus j hj
theorem ret_live (hR : Row c m p q) : vLive (retR c m p q o) p + cntP (fun j => c (26 + 16 * j) = nI 1 ∧ Mk c o j) p = vLive c p := by
  unfold vLive
  rw [cntP_split (A := fun j => c (26 + 16 * j) = nI 1) (B := Mk c o) p, cntP_congr (P := fun j => retR c m p q o (26 + 16 * j) = nI 1) (Q := fun j => c (26 + 16 * j) = nI 1 ∧ ¬ Mk c o j) (fun k hk => ?_), Nat.add_comm]
  constructor
  · intro h
    have nm : ¬ Mk c o k := fun z => by
      rw [(ret_l hR hk).1 z] at h
      exact (nI_neq (a := 0) (b := 1) (by omega) (by omega) (by omega)) h
    rw [(ret_l hR hk).2 nm] at h
    exact ⟨h, nm⟩
  · rintro ⟨h, nm⟩
    rw [(ret_l hR hk).2 nm]
    exact h
end RET
/-! the start -/
def KK (c : Nat → Int32) (m p : Nat) : Prop := Row c m p 0 ∧ c 3 = nI 0 ∧ (∃ s, s ≤ 100 ∧ c 6 = nI s) ∧ (∃ s, s ≤ 100 ∧ c 7 = nI s) ∧ c 4 = nI 0 ∧ (∀ j, j < m → c (11 + 2 * j) = nI 0) ∧ ∀ j, j < p → c (26 + 16 * j) = nI 1 ∧ c (27 + 16 * j) = nI 0
section STA
variable {c : Nat → Int32} {m p : Nat}
theorem KK.jj (h : KK c m p) : JJ c m p 0 0 := by
  obtain ⟨hR, h3, h6, h7, h4, ha, hp⟩ := h
  refine ⟨⟨hR, h3, by omega, h6, h7, ?_, fun j hj hl => ?_, fun k hk => absurd hk (by omega), fun j hj => (hp j hj).2⟩, fun j hj => (hp j hj).1, fun k hk => absurd hk (by omega)⟩
  · rw [h4, isum_z m ha]
    exact add0 _
  · rcases hR.par hj with e | ⟨a, h1, h2⟩
    · exact Or.inl e
    · exact Or.inr ⟨a, h1, h2, (hp a (by omega)).1⟩
theorem KK.member (h : KK c m p) (hm : m < 6) : KK (upd (upd (upd c 0 (nI (m + 1))) (10 + 2 * m) (nI 40)) (11 + 2 * m) (nI 0)) (m + 1) p := by
  obtain ⟨hR, h3, h6, h7, h4, ha, hp⟩ := h
  refine ⟨hR.low (by omega) (by omega) ?_ ?_ ?_ (fun k k1 k2 => ?_) ?_ (fun j hj => ?_), ?_, ?_, ?_, ?_, fun j hj => ?_, fun j hj => ?_⟩
  · rw [upd_ne _ _ (by omega), upd_ne _ _ (by omega), upd_at]
  · rw [upd_ne _ _ (by omega), upd_ne _ _ (by omega), upd_ne _ _ (by omega)]
  · rw [upd_ne _ _ (by omega), upd_ne _ _ (by omega), upd_ne _ _ (by omega)]
  · rw [upd_ne _ _ (by omega), upd_ne _ _ (by omega), upd_ne _ _ (by omega)]
  · rw [upd_ne _ _ (by omega), upd_ne _ _ (by omega), upd_ne _ _ (by omega)]
    exact hR.2.2.2.2.2.2.2.2.1
  · rw [upd_ne _ _ (by omega)]
    by_cases e : j = m
    · subst e
      exact ⟨40, by omega, upd_at _ _ _⟩
    · rw [upd_ne _ _ (by omega), upd_ne _ _ (by omega)]
      exact hR.2.2.2.2.2.2.2.2.2 j (by omega)
  · rw [upd_ne _ _ (by omega), upd_ne _ _ (by omega), upd_ne _ _ (by omega)]; exact h3
  · rw [upd_ne _ _ (by omega), upd_ne _ _ (by omega), upd_ne _ _ (by omega)]; exact h6
  · rw [upd_ne _ _ (by omega), upd_ne _ _ (by omega), upd_ne _ _ (by omega)]; exact h7
  · rw [upd_ne _ _ (by omega), upd_ne _ _ (by omega), upd_ne _ _ (by omega)]; exact h4
  · by_cases e : j = m
    · subst e
      exact upd_at _ _ _
    · rw [upd_ne _ _ (by omega), upd_ne _ _ (by omega), upd_ne _ _ (by omega)]
      exact ha j (by omega)
  · rw [upd_ne _ _ (by omega), upd_ne _ _ (by omega), upd_ne _ _ (by omega), upd_ne _ _ (by omega), upd_ne _ _ (by omega), upd_ne _ _ (by omega)]
    exact hp j hj
theorem KK.price {j w : Nat} (h : KK c m p) (hj : j < m) (hw : w ≤ 200) : KK (upd c (10 + 2 * j) (nI w)) m p := by
  obtain ⟨hR, h3, h6, h7, h4, ha, hp⟩ := h
  have hm6 := hR.2.1
  refine ⟨hR.low (Nat.le_refl _) hm6 ?_ (upd_ne _ _ (by omega)) (upd_ne _ _ (by omega)) (fun k k1 k2 => upd_ne _ _ (by omega)) ?_ (fun i hi => ?_), ?_, ?_, ?_, ?_, fun i hi => ?_, fun i hi => ?_⟩
  · rw [upd_ne _ _ (by omega)]; exact hR.1
  · rw [upd_ne _ _ (by omega)]; exact hR.2.2.2.2.2.2.2.2.1
  · by_cases e : i = j
    · rw [e]
      exact ⟨w, hw, upd_at _ _ _⟩
    · rw [upd_ne _ _ (by omega)]
      exact hR.2.2.2.2.2.2.2.2.2 i hi
  · rw [upd_ne _ _ (by omega)]; exact h3
  · rw [upd_ne _ _ (by omega)]; exact h6
  · rw [upd_ne _ _ (by omega)]; exact h7
  · rw [upd_ne _ _ (by omega)]; exact h4
  · rw [upd_ne _ _ (by omega)]; exact ha i hi
  · rw [upd_ne _ _ (by omega), upd_ne _ _ (by omega)]; exact hp i hi
theorem KK.setting {j w : Nat} (h : KK c m p) (hj : j < 5) (hw : w ≤ 100) (h0 : j = 0 → 1 ≤ w) : KK (upd c (5 + j) (nI w)) m p := by
  obtain ⟨hR, h3, h6, h7, h4, ha, hp⟩ := h
  have hm6 := hR.2.1
  refine ⟨hR.low (Nat.le_refl _) hm6 ?_ (upd_ne _ _ (by omega)) (upd_ne _ _ (by omega)) (fun k k1 k2 => upd_ne _ _ (by omega)) ?_ (fun i hi => ?_), ?_, ?_, ?_, ?_, fun i hi => ?_, fun i hi => ?_⟩
  · rw [upd_ne _ _ (by omega)]; exact hR.1
  · by_cases e : j = 0
    · subst e
      exact ⟨w, h0 rfl, hw, upd_at _ _ _⟩
    · rw [upd_ne _ _ (by omega)]; exact hR.2.2.2.2.2.2.2.2.1
  · rw [upd_ne _ _ (by omega)]
    exact hR.2.2.2.2.2.2.2.2.2 i hi
  · rw [upd_ne _ _ (by omega)]; exact h3
  · by_cases e : j = 1
    · subst e
      exact ⟨w, hw, upd_at _ _ _⟩
    · rw [upd_ne _ _ (by omega)]; exact h6
  · by_cases e : j = 2
    · subst e
      exact ⟨w, hw, upd_at _ _ _⟩
    · rw [upd_ne _ _ (by omega)]; exact h7
  · rw [upd_ne _ _ (by omega)]; exact h4
  · rw [upd_ne _ _ (by omega)]; exact ha i hi
  · rw [upd_ne _ _ (by omega), upd_ne _ _ (by omega)]; exact hp i hi
theorem phr_n {la w : Nat} {o t a : Int32} {u : Nat → Int32} (hw : w < 6) : phr c p o t a u la (22 + 16 * p + w) = phB c p o t a la (22 + 16 * p + w) := by
  unfold phr phB
  rw [wrd_ne (by omega)]
  simp only [upd]
  repeat' split
  all_goals first | rfl | omega
theorem KK.phrase {j la : Nat} {t v : Int32} {u : Nat → Int32} (h : KK c m p) (hp : p < 20) (hj : j < m) (hv : v = (-1000000) ∨ ∃ a, a < p ∧ v = nI a) (h1 : 1 ≤ la) (h2 : la ≤ 10) : KK (phr c p (nI j) t v u la) m (p + 1) := by
  obtain ⟨hR, h3, h6, h7, h4, ha, hph⟩ := h
  have hm6 := hR.2.1
  refine ⟨row_phr hR hp hj hv h1 h2, ?_, ?_, ?_, ?_, fun i hi => ?_, fun i hi => ?_⟩
  · rw [phr_lo (by omega) (by omega)]; exact h3
  · rw [phr_lo (by omega) (by omega)]; exact h6
  · rw [phr_lo (by omega) (by omega)]; exact h7
  · rw [phr_lo (by omega) (by omega)]; exact h4
  · rw [phr_lo (by omega) (by omega)]; exact ha i hi
  · by_cases e : i = p
    · subst e
      unfold phr phB
      refine ⟨?_, ?_⟩
      · rw [wrd_ne (by omega), upd_ne _ _ (by omega), upd_at]
      · rw [wrd_ne (by omega), upd_at]
    · rw [phr_lo (by omega) (by omega), phr_lo (by omega) (by omega)]
      exact hph i (by omega)
end STA
