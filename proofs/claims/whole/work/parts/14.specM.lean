/-! SPECS of the reference: reading -/
def MC (σ : SS) (c : Nat → Int32) : Prop := ∀ k, k < 654 → σ.1 37 k = c k
theorem MC.fr {P F : Nat → Bool} {σ s : SS} {c : Nat → Int32} (h : MC σ c) (hf : Fr P F σ s) (hp : P 37 = false) : MC s c := fun k hk => by rw [hf.1 37 hp]; exact h k hk
def P0 (_ : Nat) : Bool := false
section SPM
variable {d : Nat} {σ : SS} {K : Int32 → SS → Prop} {Kv : SS → Prop} {c : Nat → Int32}
theorem t_in {x lo hi : Int32} (h1 : ¬ x < lo → ¬ hi < x → K (nI 1) σ) (h0 : x < lo ∨ hi < x → K (nI 0) σ) : CTi mX7_in d [.int x, .int lo, .int hi] σ K :=
  eX7_in _ _ _ ⟨fun q => h0 (Or.inl q), fun q => ⟨fun q2 => h0 (Or.inr q2), fun q2 => h1 q q2⟩⟩
/-- in(x, 0, m - 1) -/
theorem t_inN {x : Int32} {m : Nat} (hm : m < 2 ^ 31) (h1 : ∀ j, j < m → x = nI j → K (nI 1) σ) (h0 : (∀ j, j < m → ¬ x = nI j) → K (nI 0) σ) : CTi mX7_in d [.int x, .int (nI 0), .int (nI m - nI 1)] σ K := by
  refine t_in (fun a b => ?_) (fun a => h0 (fun j hj e => ?_))
  · obtain ⟨j, hj, rfl⟩ := nI_of (x := x) a
    by_cases hjm : j < m
    · exact h1 j hjm rfl
    · exfalso
      cases m with
      | zero => exact b (by
          rw [Int32.lt_iff_toInt_lt, nI_toInt hj, show (nI 0 - nI 1).toInt = -1 by decide]
          omega)
      | succ m =>
        rw [pk_sub (by omega), Nat.add_sub_cancel] at b
        exact b (nI_lt (by omega) hj)
  · subst e
    rcases a with a | a
    · exact nI_pos (by omega) a
    · cases m with
      | zero => omega
      | succ m =>
        rw [pk_sub (by omega), Nat.add_sub_cancel] at a
        exact nI_nlt (by omega) (by omega) a
theorem t_isMember {x : Int32} {m : Nat} (hd : 1 ≤ d) (hc : MC σ c) (hm : c 0 = nI m) (hm6 : m ≤ 6) (h1 : ∀ j, j < m → x = nI j → K (nI 1) σ) (h0 : (∀ j, j < m → ¬ x = nI j) → K (nI 0) σ) : CTi mX7_isMember d [.ref 11, .int x] σ K := by
  refine eX7_isMember _ hd ⟨vp_in_nI (by omega) (by omega), ?_⟩
  rw [cl (by omega), hc 0 (by omega), hm]
  exact t_inN (by omega) (fun j hj e => ⟨Or.inr rfl, h1 j hj e⟩) (fun q => ⟨Or.inl rfl, h0 q⟩)
theorem t_isPhrase {x : Int32} {m : Nat} (hd : 1 ≤ d) (hc : MC σ c) (hm : c 1 = nI m) (hm6 : m ≤ 20) (h1 : ∀ j, j < m → x = nI j → K (nI 1) σ) (h0 : (∀ j, j < m → ¬ x = nI j) → K (nI 0) σ) : CTi mX7_isPhrase d [.ref 11, .int x] σ K := by
  refine eX7_isPhrase _ hd ⟨vp_in_nI (by omega) (by omega), ?_⟩
  rw [cl (by omega), hc 1 (by omega), hm]
  exact t_inN (by omega) (fun j hj e => ⟨Or.inr rfl, h1 j hj e⟩) (fun q => ⟨Or.inl rfl, h0 q⟩)
theorem t_of {j k : Nat} (hc : MC σ c) (hj : j < 20) (hk : k < 16) (h : K (c (22 + 16 * j + k)) σ) : CTi mX7_of d [.ref 11, .int (nI j), .int (nI k)] σ K := by
  refine eX7_of _ _ ?_
  rw [pk_mul, nI_add, nI_add, cl (by omega), hc _ (by omega)]
  exact ⟨vp_in_nI (by omega) (by omega), h⟩
theorem t_ofNote {j k : Nat} (hc : MC σ c) (hj : j < 24) (hk : k < 13) (h : K (c (342 + 13 * j + k)) σ) : CTi mX7_ofNote d [.ref 11, .int (nI j), .int (nI k)] σ K := by
  refine eX7_ofNote _ _ ?_
  rw [pk_mul, nI_add, nI_add, cl (by omega), hc _ (by omega)]
  exact ⟨vp_in_nI (by omega) (by omega), h⟩
theorem t_price {j : Nat} (hc : MC σ c) (hj : j < 6) (h : K (c (10 + 2 * j)) σ) : CTi mX7_price d [.ref 11, .int (nI j)] σ K := by
  refine eX7_price _ ?_
  rw [pk_mul, nI_add, cl (by omega), hc _ (by omega)]
  exact ⟨vp_in_nI (by omega) (by omega), h⟩
theorem t_feeOf {x : Int32} {m j o : Nat} (hd : 1 ≤ d) (hc : MC σ c) (hj : j < 20) (ho : o < 6) (hm : m < 6) (hown : c (22 + 16 * j) = nI o) (h : K (if o = m then nI 0 else c (10 + 2 * o) * x / nI 100) σ) : CTi mX7_feeOf d [.ref 11, .int (nI j), .int x, .int (nI m)] σ K := by
  refine eX7_feeOf _ _ _ hd (t_of (k := 0) hc hj (by omega) ?_)
  rw [Nat.add_zero, hown]
  by_cases q : o = m
  · rw [if_pos q] at h
    subst q
    exact br_nf rfl h
  · rw [if_neg q] at h
    refine br_nt (nI_neq (by omega) (by omega) q) (t_of (k := 0) hc hj (by omega) ?_)
    rw [Nat.add_zero, hown]
    exact t_price hc ho h
theorem t_setsOne {j l : Nat} (hd : 1 ≤ d) (hc : MC σ c) (hj : j < 20) (hl : l ≤ 10) (hlen : c (23 + 16 * j) = nI l) (k : ∀ s, Fr (P1 38) (P1 8) σ s → s.2.1 8 = nI l → (∀ i, i < l → s.1 38 i = phw c j i) → Kv s) : CTv mX7_setsOne d [.ref 11, .int (nI j)] σ Kv := by
  refine eX7_setsOne _ hd (t_of (k := 1) hc hj (by omega) ?_)
  rw [show 22 + 16 * j + 1 = 23 + 16 * j by omega, hlen]
  refine cup (I := fun i s => Fr (P1 38) (P1 8) σ s ∧ s.2.1 8 = nI l ∧ ∀ t, t < i → s.1 38 t = phw c j t) (G := fun i s => VV mX7_setsOne d s00 12 [some (.ref 11), some (.int (nI j)), some (.int (nI i))] [] s (Qv Kv)) l ?_ ?_ 0 (Nat.zero_le _) _ ⟨Fr.sF rfl, sF_at _ _ _, fun t ht => absurd ht (by omega)⟩
  · intro s ⟨h1, h2, h3⟩
    refine bX7_setsOne_12 _ _ hd ?_
    rw [h2]
    exact br_t (nI_le (Nat.le_refl _) (by omega)) (k s h1 h2 h3)
  · intro i hi ih s ⟨h1, h2, h3⟩
    refine bX7_setsOne_12 _ _ hd ?_
    rw [h2, nI_add]
    refine br_f (nI_ge hi (by omega)) (t_of (hc.fr h1 rfl) hj (by omega) ⟨vp_in_nI (by omega) (by omega), ?_⟩)
    rw [cl (by omega), nI_add]
    refine ih _ ⟨h1.tr (Fr.sA rfl), by rw [sA_f]; exact h2, fun t ht => ?_⟩
    rw [sA_at]
    rcases Nat.lt_or_ge t i with q | q
    · rw [upd_ne _ _ (by omega), h3 t q]
    · rw [show t = i by omega, upd_at, show 22 + 16 * j + (6 + i) = 28 + 16 * j + i by omega]
      rfl
theorem t_setsOther {j l : Nat} (hd : 1 ≤ d) (hc : MC σ c) (hj : j < 20) (hl : l ≤ 10) (hlen : c (23 + 16 * j) = nI l) (k : ∀ s, Fr (P1 39) (P1 9) σ s → s.2.1 9 = nI l → (∀ i, i < l → s.1 39 i = phw c j i) → Kv s) : CTv mX7_setsOther d [.ref 11, .int (nI j)] σ Kv := by
  refine eX7_setsOther _ hd (t_of (k := 1) hc hj (by omega) ?_)
  rw [show 22 + 16 * j + 1 = 23 + 16 * j by omega, hlen]
  refine cup (I := fun i s => Fr (P1 39) (P1 9) σ s ∧ s.2.1 9 = nI l ∧ ∀ t, t < i → s.1 39 t = phw c j t) (G := fun i s => VV mX7_setsOther d s00 12 [some (.ref 11), some (.int (nI j)), some (.int (nI i))] [] s (Qv Kv)) l ?_ ?_ 0 (Nat.zero_le _) _ ⟨Fr.sF rfl, sF_at _ _ _, fun t ht => absurd ht (by omega)⟩
  · intro s ⟨h1, h2, h3⟩
    refine bX7_setsOther_12 _ _ hd ?_
    rw [h2]
    exact br_t (nI_le (Nat.le_refl _) (by omega)) (k s h1 h2 h3)
  · intro i hi ih s ⟨h1, h2, h3⟩
    refine bX7_setsOther_12 _ _ hd ?_
    rw [h2, nI_add]
    refine br_f (nI_ge hi (by omega)) (t_of (hc.fr h1 rfl) hj (by omega) ⟨vp_in_nI (by omega) (by omega), ?_⟩)
    rw [cl (by omega), nI_add]
    refine ih _ ⟨h1.tr (Fr.sA rfl), by rw [sA_f]; exact h2, fun t ht => ?_⟩
    rw [sA_at]
    rcases Nat.lt_or_ge t i with q | q
    · rw [upd_ne _ _ (by omega), h3 t q]
    · rw [show t = i by omega, upd_at, show 22 + 16 * j + (6 + i) = 28 + 16 * j + i by omega]
      rfl
theorem t_setsText {n : Nat} (hn : n ≤ 40) (hl : σ.2.1 10 = nI n) (hok : TxtOK (σ.1 45) n) (k : ∀ s, Fr (P1 38) (P1 8) σ s → s.2.1 8 = nI (lw (σ.1 45) n).length → (∀ i, i < (lw (σ.1 45) n).length → s.1 38 i = tw (σ.1 45) n i) → Kv s) : CTv mX7_setsText d [.ref 11] σ Kv := by
  refine eX7_setsText ?_
  refine cup (I := fun i s => Fr (P1 38) (P1 8) σ s ∧ s.2.1 8 = nI (lw (σ.1 45) i).length ∧ ∀ t, t < (lw (σ.1 45) i).length → s.1 38 t = (lw (σ.1 45) i).getD t 0) (G := fun i s => VV mX7_setsText d s00 7 [some (.ref 11), some (.int (nI i))] [] s (Qv Kv)) n ?_ ?_ 0 (Nat.zero_le _) _ ⟨Fr.sF rfl, sF_at _ _ _, fun t ht => absurd ht (by show ¬ t < 0; omega)⟩
  · intro s ⟨h1, h2, h3⟩
    refine bX7_setsText_7 _ ?_
    rw [h1.2.1 10 rfl, hl]
    exact br_t (nI_le (Nat.le_refl _) (by omega)) (k s h1 h2 h3)
  · intro i hi ih s ⟨h1, h2, h3⟩
    refine bX7_setsText_7 _ ?_
    rw [h1.2.1 10 rfl, hl, cl (by omega), h1.1 45 rfl]
    refine br_f (nI_ge hi (by omega)) ⟨vp_in_nI (by omega) (by omega), ?_⟩
    by_cases hL : isL (σ.1 45 i)
    · have hlen := lw_le (σ.1 45) (i + 1) n (by omega)
      have e1 := lw_t hL
      have e2 : (lw (σ.1 45) (i + 1)).length = (lw (σ.1 45) i).length + 1 := by rw [e1, List.length_append]; rfl
      have h10 := hok.2.2
      have n32 : ¬ σ.1 45 i = nI 32 := fun e => by rw [e] at hL; exact isL_32 hL
      rw [sA_f, h2, cl (by omega), nI_add, nI_add]
      refine br_f n32 ⟨vp_in_nI (by omega) (by omega), vp_in_nI (by omega) (by omega), ?_⟩
      refine ih _ ⟨h1.tr ((Fr.sA rfl).tr (Fr.sF rfl)), by rw [sF_at, e2], fun t ht => ?_⟩
      rw [sF_a, sA_at, e1]
      rcases Nat.lt_or_ge t (lw (σ.1 45) i).length with q | q
      · rw [upd_ne _ _ (by omega), h3 t q, List.getD_eq_getElem?_getD, List.getD_eq_getElem?_getD, List.getElem?_append_left q]
      · rw [show t = (lw (σ.1 45) i).length by omega, upd_at, List.getD_eq_getElem?_getD, List.getElem?_append_right (Nat.le_refl _), Nat.sub_self]
        rfl
    · have e32 : σ.1 45 i = nI 32 := (hok.1 i hi).resolve_left hL
      refine br_t e32 ?_
      rw [nI_add]
      exact ih _ ⟨h1, by rw [lw_f hL]; exact h2, by rw [lw_f hL]; exact h3⟩
theorem t_least {a b : Nat} (ha : a < 2 ^ 31) (hb : b < 2 ^ 31) (h : K (nI (min a b)) σ) : CTi mX7_least d [.int (nI a), .int (nI b)] σ K := by
  refine eX7_least _ _ ⟨fun q => ?_, fun q => ?_⟩
  · have := (nI_leI hb ha).mp q
    rw [Nat.min_eq_right this] at h
    exact h
  · have : ¬ b ≤ a := fun z => q ((nI_leI hb ha).mpr z)
    rw [Nat.min_eq_left (by omega)] at h
    exact h
theorem t_scoreNow {la lb : Nat} {u v : Nat → Int32} (hd : 1 ≤ d) (h1l : 1 ≤ la) (hla : la ≤ 10) (hlb : lb ≤ 10) (ha : σ.2.1 8 = nI la) (hb : σ.2.1 9 = nI lb) (hu : ∀ i, i < la → σ.1 38 i = u i) (hv : ∀ i, i < lb → σ.1 39 i = v i) (k : ∀ s, Fr (P1 40) P0 σ s → K (nI (scr u la v lb)) s) : CTi mX7_scoreNow d [.ref 11] σ K := by
  have edb : ∀ i j, i ≤ la → j ≤ lb → ed u v i j < 2 ^ 31 := fun i j hi hj => by
    have := ed_le u v i j
    omega
  refine eX7_scoreNow ?_
  refine cup (I := fun i s => Fr (P1 40) P0 σ s ∧ ∀ t, t < i → ∀ j, j ≤ lb → s.1 40 (11 * t + j) = nI (ed u v t j)) (G := fun i s => VV mX7_scoreNow d s00 2 [some (.ref 11), some (.int (nI i)), none, none, none] [] s (Qi K)) (la + 1) ?_ ?_ 0 (Nat.zero_le _) σ ⟨Fr.rf, fun t ht => absurd ht (by omega)⟩
  · intro s ⟨h1, h2⟩
    refine bX7_scoreNow_2 _ ?_
    rw [h1.2.1 8 rfl, ha]
    refine br_t (nI_lt (by omega) (by omega)) (bX7_scoreNow_150 _ ?_)
    rw [h1.2.1 8 rfl, h1.2.1 9 rfl, ha, hb]
    have he := ed_le u v la lb
    have fin : ∀ n, n = max la lb → VV mX7_scoreNow d s00 173 [some (.ref 11), some (.int (nI n)), none, none, none] [] s (Qi K) := by
      rintro n rfl
      refine bX7_scoreNow_173 _ ?_
      rw [h1.2.1 8 rfl, h1.2.1 9 rfl, ha, hb, pk_mul, nI_add, cl (by omega), h2 la (by omega) lb (Nat.le_refl _), pk_sub he, pk_mul, pk_div (by omega) (by omega) (by omega)]
      exact ⟨vp_in_nI (by omega) (by omega), nI_ne0 (by omega) (by omega), k s h1⟩
    refine ⟨fun q => fin _ ?_, fun q => fin _ ?_⟩
    · have := (nI_leI (by omega) (by omega)).mp q
      omega
    · have : ¬ la ≤ lb := fun z => q ((nI_leI (by omega) (by omega)).mpr z)
      omega
  · intro i hi ih s ⟨h1, h2⟩
    refine bX7_scoreNow_2 _ ?_
    rw [h1.2.1 8 rfl, ha]
    refine br_f (nI_nlt (by omega) (by omega)) ?_
    refine cup (I := fun j s => Fr (P1 40) P0 σ s ∧ (∀ t, t < i → ∀ j, j ≤ lb → s.1 40 (11 * t + j) = nI (ed u v t j)) ∧ ∀ t, t < j → s.1 40 (11 * i + t) = nI (ed u v i t)) (G := fun j s => VV mX7_scoreNow d s00 12 [some (.ref 11), some (.int (nI i)), some (.int (nI j)), none, none] [] s (Qi K)) (lb + 1) ?_ ?_ 0 (Nat.zero_le _) s ⟨h1, h2, fun t ht => absurd ht (by omega)⟩
    · intro s ⟨h1, h2, h3⟩
      refine bX7_scoreNow_12 _ _ ?_
      rw [h1.2.1 9 rfl, hb, nI_add]
      refine br_t (nI_lt (by omega) (by omega)) (ih s ⟨h1, fun t ht j hj => ?_⟩)
      rcases Nat.lt_or_ge t i with q | q
      · exact h2 t q j hj
      · rw [show t = i by omega]
        exact h3 j (by omega)
    · intro j hj ih2 s ⟨h1, h2, h3⟩
      have done : ∀ x, x = nI (ed u v i j) → VV mX7_scoreNow d s00 126 [some (.ref 11), some (.int (nI i)), some (.int (nI j)), some (.int x), none] [] s (Qi K) := by
        rintro x rfl
        refine bX7_scoreNow_126 _ _ _ ?_
        rw [pk_mul, nI_add, cl (by omega), nI_add]
        refine ⟨vp_in_nI (by omega) (by omega), ih2 _ ⟨h1.tr (Fr.sA rfl), fun t ht b hb2 => ?_, fun t ht => ?_⟩⟩
        · rw [sA_at, upd_ne _ _ (by omega)]
          exact h2 t ht b hb2
        · rw [sA_at]
          rcases Nat.lt_or_ge t j with q | q
          · rw [upd_ne _ _ (by omega)]
            exact h3 t q
          · rw [show t = j by omega, upd_at]
      refine bX7_scoreNow_12 _ _ ?_
      rw [h1.2.1 9 rfl, hb]
      refine br_f (nI_nlt (by omega) (by omega)) ?_
      cases i with
      | zero =>
        refine br_nf rfl (bX7_scoreNow_39 _ _ _ hd (br_t (by decide) (done _ ?_)))
        rw [ed_0]
      | succ i =>
        refine br_nt (nI_ne0 (by omega) (by omega)) ?_
        cases j with
        | zero =>
          refine br_nf rfl (bX7_scoreNow_39 _ _ _ hd (br_f (nI_nle (by omega) (by omega)) (br_t (by decide) (done _ ?_))))
          rw [ed_s0]
        | succ j =>
          refine br_nt (nI_ne0 (by omega) (by omega)) (bX7_scoreNow_39 _ _ _ hd ?_)
          have b1 := edb i (j + 1) (by omega) (by omega)
          have b2 := edb (i + 1) j (by omega) (by omega)
          have b3 := edb i j (by omega) (by omega)
          have l1 := ed_le u v i (j + 1)
          have l2 := ed_le u v (i + 1) j
          have l3 := ed_le u v i j
          refine br_f (nI_nle (by omega) (by omega)) (br_f (nI_nle (by omega) (by omega)) ?_)
          rw [pk_sub (by omega), pk_sub (by omega), Nat.add_sub_cancel, Nat.add_sub_cancel, pk_mul, pk_mul, nI_add, nI_add, pk_sub (by omega), pk_sub (by omega), cl (by omega), cl (by omega), cl (by omega), cl (by omega), cl (by omega), h1.1 38 rfl, h1.1 39 rfl, hu i (by omega), hv j (by omega), h2 i (by omega) (j + 1) (by omega), show 11 * (i + 1) + (j + 1) - 1 = 11 * (i + 1) + j by omega, h3 j (by omega), show 11 * i + (j + 1) - 1 = 11 * i + j by omega, h2 i (by omega) j (by omega)]
          refine ⟨vp_in_nI (by omega) (by omega), vp_in_nI (by omega) (by omega), vp_in_nI (by omega) (by omega), fun hc => ?_, fun hc => ?_⟩
          · refine ⟨vp_in_nI (by omega) (by omega), vp_in_nI (by omega) (by omega), t_least b1 b2 ?_⟩
            rw [nI_add, nI_add]
            exact t_least (by omega) (by omega) (done _ (by rw [ed_ss, if_neg hc, Nat.min_comm]))
          · refine ⟨vp_in_nI (by omega) (by omega), vp_in_nI (by omega) (by omega), t_least b1 b2 ?_⟩
            rw [nI_add, nI_add]
            exact t_least (by omega) (by omega) (done _ (by rw [ed_ss, if_pos hc, Nat.min_comm]))
theorem Fr.o38 {σ s : SS} (h : Fr (P1 38) (P1 8) σ s) : Fr PS FM σ s := h.one rfl rfl
theorem Fr.o39 {σ s : SS} (h : Fr (P1 39) (P1 9) σ s) : Fr PS FM σ s := h.one rfl rfl
theorem Fr.o40 {σ s : SS} (h : Fr (P1 40) P0 σ s) : Fr PS FM σ s := h.mono (fun p q => by
  unfold P1
  rw [beq_eq_false_iff_ne]
  rintro rfl
  cases q) (fun _ _ => rfl)
theorem t_scoreOf {a b la lb : Nat} (hd : 2 ≤ d) (hc : MC σ c) (ha : a < 20) (hb : b < 20) (h1l : 1 ≤ la) (hla : la ≤ 10) (hlb : lb ≤ 10) (hlen : c (23 + 16 * a) = nI la) (hlen2 : c (23 + 16 * b) = nI lb) (k : ∀ s, Fr PS FM σ s → K (nI (scr (phw c a) la (phw c b) lb)) s) : CTi mX7_scoreOf d [.ref 11, .int (nI a), .int (nI b)] σ K := by
  refine eX7_scoreOf _ _ (by omega) (t_setsOne (by omega) hc ha hla hlen (fun s h1 h2 h3 => t_setsOther (by omega) (hc.fr h1 rfl) hb hlb hlen2 (fun s2 g1 g2 g3 => ?_)))
  refine t_scoreNow (by omega) h1l hla hlb (by rw [g1.2.1 8 rfl]; exact h2) g2 (fun i hi => by rw [g1.1 38 rfl]; exact h3 i hi) g3 (fun s3 f1 => k s3 (h1.o38.tr (g1.o39.tr f1.o40)))
theorem t_textScore {b lb n : Nat} (hd : 2 ≤ d) (hc : MC σ c) (hb : b < 20) (hn : n ≤ 40) (hl : σ.2.1 10 = nI n) (hok : TxtOK (σ.1 45) n) (hlb : lb ≤ 10) (hlen2 : c (23 + 16 * b) = nI lb) (k : ∀ s, Fr PS FM σ s → K (nI (scr (tw (σ.1 45) n) (lw (σ.1 45) n).length (phw c b) lb)) s) : CTi mX7_textScore d [.ref 11, .int (nI b)] σ K := by
  refine eX7_textScore _ (by omega) (t_setsText hn hl hok (fun s h1 h2 h3 => t_setsOther (by omega) (hc.fr h1 rfl) hb hlb hlen2 (fun s2 g1 g2 g3 => ?_)))
  refine t_scoreNow (by omega) hok.2.1 hok.2.2 hlb (by rw [g1.2.1 8 rfl]; exact h2) g2 (fun i hi => by rw [g1.1 38 rfl]; exact h3 i hi) g3 (fun s3 f1 => k s3 (h1.o38.tr (g1.o39.tr f1.o40)))
end SPM
