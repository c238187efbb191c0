/-! WHAT HOLDS BETWEEN THE LAW'S CALLS -/
def NI (c : Nat → Int32) (m T k : Nat) : Prop := ∃ (fee pool tk : Nat) (g : Nat → Nat), c (345 + 13 * k) = nI fee ∧ c (348 + 13 * k) = nI pool ∧ c (346 + 13 * k) = nI tk ∧ (∀ t, t < 6 → c (349 + 13 * k + t) = nI (g t)) ∧ (∀ t, m ≤ t → g t = 0) ∧ pool + sumN g 6 = fee ∧ fee ≤ 200 ∧ tk ≤ T
def Inv (c : Nat → Int32) (m p q T : Nat) : Prop := Row c m p q ∧ c 3 = nI T ∧ T ≤ 5000 ∧ (∃ s, s ≤ 100 ∧ c 6 = nI s) ∧ (∃ s, s ≤ 100 ∧ c 7 = nI s) ∧ c 4 + isum (fun j => c (11 + 2 * j)) m = nI 0 ∧ (∀ j, j < p → c (26 + 16 * j) = nI 1 → c (25 + 16 * j) = (-1000000) ∨ ∃ a, a < j ∧ c (25 + 16 * j) = nI a ∧ c (26 + 16 * a) = nI 1) ∧ (∀ k, k < q → NI c m T k) ∧ ∀ j, j < p → c (27 + 16 * j) = nI (cntP (fun k => c (343 + 13 * k) = nI j) q)
/-- nothing is retracted yet -/
def JJ (c : Nat → Int32) (m p q T : Nat) : Prop := Inv c m p q T ∧ (∀ j, j < p → c (26 + 16 * j) = nI 1) ∧ ∀ k, k < q → c (347 + 13 * k) = nI 0
theorem sumN_cut {g : Nat → Nat} {m : Nat} (h : ∀ t, m ≤ t → g t = 0) : ∀ n, m ≤ n → sumN g n = sumN g m := by
  intro n
  induction n with
  | zero => intro hn; rw [show m = 0 by omega]
  | succ n ih =>
    intro hn
    by_cases e : m = n + 1
    · rw [e]
    · rw [sumN_s, ih (by omega), h n (by omega)]
      omega
theorem NI.bal {c : Nat → Int32} {m T k : Nat} (h : NI c m T k) (hm : m ≤ 6) : c (348 + 13 * k) + isum (fun t => c (349 + 13 * k + t)) m = c (345 + 13 * k) := by
  obtain ⟨fee, pool, tk, g, h1, h2, h3, h4, h5, h6, h7, h8⟩ := h
  rw [isum_nI (g := g) m (fun t ht => h4 t (by omega)), h1, h2, nI_add, ← h6, sumN_cut h5 6 hm]
theorem mvl_at {f g : Nat → Int32} {t : Nat} : ∀ i, t < i → mvl f g i (11 + 2 * t) = f (11 + 2 * t) + g t := by
  intro i
  induction i with
  | zero => intro h; omega
  | succ i ih =>
    intro h
    show upd (mvl f g i) (11 + 2 * i) (f (11 + 2 * i) + g i) (11 + 2 * t) = _
    by_cases e : t = i
    · subst e
      rw [upd_at]
    · rw [upd_ne _ _ (by omega), ih (by omega)]
theorem mvm_4 {f : Nat → Int32} {b j m : Nat} {s : Int32} : mvm f b j s m 4 = f 4 + s * f (b + 6) := by
  unfold mvm
  rw [mvl_ne _ (fun t ht => by omega), upd_at]
theorem mvm_ac {f : Nat → Int32} {b j m t : Nat} {s : Int32} (ht : t < m) : mvm f b j s m (11 + 2 * t) = (if t = j then f (11 + 2 * t) - s * f (b + 3) else f (11 + 2 * t)) + s * f (b + 7 + t) := by
  unfold mvm
  rw [mvl_at m ht, upd_ne _ _ (by omega)]
  by_cases e : t = j
  · rw [if_pos e, e, upd_at]
  · rw [if_neg e, upd_ne _ _ (by omega)]
theorem mvm_sum {f : Nat → Int32} {b j m : Nat} {s : Int32} (hj : j < m) (hb : f (b + 6) + isum (fun t => f (b + 7 + t)) m = f (b + 3)) : mvm f b j s m 4 + isum (fun t => mvm f b j s m (11 + 2 * t)) m = f 4 + isum (fun t => f (11 + 2 * t)) m := by
  have e1 : isum (fun t => mvm f b j s m (11 + 2 * t)) m = isum (fun t => if t = j then f (11 + 2 * t) - s * f (b + 3) else f (11 + 2 * t)) m + isum (fun t => s * f (b + 7 + t)) m := isum_addx m (fun t ht => mvm_ac ht)
  have e2 : isum (fun t => if t = j then f (11 + 2 * t) - s * f (b + 3) else f (11 + 2 * t)) m = isum (fun t => f (11 + 2 * t)) m + -(s * f (b + 3)) := isum_upd1 (o := j) m (fun k _ hk => if_neg hk) hj (by
    show (if j = j then f (11 + 2 * j) - s * f (b + 3) else f (11 + 2 * j)) = _
    rw [if_pos rfl, Int32.sub_eq_add_neg])
  have e3 : isum (fun t => s * f (b + 7 + t)) m = s * isum (fun t => f (b + 7 + t)) m := isum_mul m (fun _ _ => rfl)
  rw [e1, e2, e3, mvm_4]
  generalize isum (fun t => f (b + 7 + t)) m = A at hb
  generalize isum (fun t => f (11 + 2 * t)) m = B
  rw [← hb]
  grind
/-- the split in numbers -/
theorem spl_nat {c : Nat → Int32} {m p q b s7 : Nat} (hR : Row c m p q) (hs : s7 ≤ 100) (h7 : c 7 = nI s7) : ∀ k i r f (g : Nat → Nat), i < k → i < p → r ≤ 1000 → (∀ t, t < 6 → f (b + t) = nI (g t)) → (∀ t, m ≤ t → g t = 0) → ∃ g' : Nat → Nat, (∀ t, t < 6 → spl c b k i (nI r) f (b + t) = nI (g' t)) ∧ (∀ t, m ≤ t → g' t = 0) ∧ sumN g' 6 = sumN g 6 + r := by
  have hm6 := hR.2.1
  have hp20 := hR.2.2.2.1
  have put : ∀ (f : Nat → Int32) (g : Nat → Nat) (o x : Nat), o < m → (∀ t, t < 6 → f (b + t) = nI (g t)) → (∀ t, m ≤ t → g t = 0) → ∃ g' : Nat → Nat, (∀ t, t < 6 → upd f (b + o) (f (b + o) + nI x) (b + t) = nI (g' t)) ∧ (∀ t, m ≤ t → g' t = 0) ∧ sumN g' 6 = sumN g 6 + x := fun f g o x ho h1 h2 => by
    refine ⟨fun t => if t = o then g o + x else g t, fun t ht => ?_, fun t ht => ?_, sumN_upd1 (o := o) 6 (fun k _ hk => if_neg hk) (by omega) (if_pos rfl)⟩
    · show _ = nI (if t = o then g o + x else g t)
      by_cases e : t = o
      · rw [if_pos e, e, upd_at, h1 o (by omega), nI_add]
      · rw [if_neg e, upd_ne _ _ (by omega), h1 t ht]
    · show (if t = o then g o + x else g t) = 0
      rw [if_neg (by omega), h2 t ht]
  intro k
  induction k with
  | zero => intro i r f g h; omega
  | succ k ih =>
    intro i r f g hik hip hr h1 h2
    obtain ⟨ho, ho2⟩ := hR.own hip
    by_cases hn : c (25 + 16 * i) = (-1000000)
    · rw [spl_n hn, show nI r - nI 0 = nI r from pk_sub (Nat.zero_le _)]
      exact put f g (owN c i) r ho2 h1 h2
    · obtain ⟨a, ha, e⟩ := (hR.par hip).resolve_left hn
      have hle : r * s7 / 100 ≤ r := by
        have : r * s7 ≤ r * 100 := Nat.mul_le_mul_left _ hs
        omega
      have hb1 : r * s7 ≤ 1000 * 100 := Nat.mul_le_mul hr hs
      have e1 : nI r * c 7 / nI 100 = nI (r * s7 / 100) := by rw [h7, pk_mul, pk_div (by omega) (by omega) (by omega)]
      rw [spl_p hn, e1, pk_sub hle, e, cl (by omega)]
      obtain ⟨g1, a1, a2, a3⟩ := put f g (owN c i) (r - r * s7 / 100) ho2 h1 h2
      obtain ⟨g2, b1, b2, b3⟩ := ih a (r * s7 / 100) _ g1 (by omega) (by omega) (by omega) a1 a2
      exact ⟨g2, b1, b2, by omega⟩
theorem feeV_nat {c : Nat → Int32} {m p q i j x : Nat} (hR : Row c m p q) (hi : i < p) (hx : x ≤ 100) : ∃ F, F ≤ 200 ∧ feeV c j i x = nI F := by
  obtain ⟨ho, ho2⟩ := hR.own hi
  obtain ⟨pr, h1, h2⟩ := hR.2.2.2.2.2.2.2.2.2 (owN c i) ho2
  unfold feeV
  by_cases e : owN c i = j
  · rw [if_pos e]
    exact ⟨0, by omega, rfl⟩
  · have hb : pr * x ≤ 200 * 100 := Nat.mul_le_mul h1 hx
    rw [if_neg e, h2, pk_mul, pk_div (by omega) (by omega) (by omega)]
    exact ⟨_, by omega, rfl⟩
/-- a use: the row behind the split -/
def spU (c : Nat → Int32) (q j i x : Nat) (fee : Int32) : Nat → Int32 := spl c (349 + 13 * q) (i + 1) i (fee - fee * c 6 / nI 100) (upd (wrd (ntB (upd c 2 (nI (q + 1))) (342 + 13 * q) (nI j) (nI i) (nI x) fee (c 3)) (349 + 13 * q) z0 6) (342 + 13 * q + 6) (fee * c 6 / nI 100))
section USE
variable {c : Nat → Int32} {m p q j i x T : Nat} {fee : Int32}
theorem useA_eq : useA c m q j i x fee = mvm (spU c q j i x fee) (342 + 13 * q) j (nI 1) m := rfl
theorem spU_c {k : Nat} (hR : Row c m p q) (hi : i < p) (h2 : k ≠ 2) (hk : k < 342 + 13 * q ∨ 355 + 13 * q ≤ k) : spU c q j i x fee k = c k := by
  unfold spU
  rw [spl_out hR (by omega) _ _ _ _ hi, upd_ne _ _ (by omega), wrd_ne (by omega)]
  unfold ntB
  simp (disch := omega) only [upd_ne]
theorem spU_2 (hR : Row c m p q) (hi : i < p) : spU c q j i x fee 2 = nI (q + 1) := by
  unfold spU
  rw [spl_out hR (by omega) _ _ _ _ hi, upd_ne _ _ (by omega), wrd_ne (by omega)]
  unfold ntB
  simp (disch := omega) only [upd_ne, upd_at]
theorem spU_3 (hR : Row c m p q) (hi : i < p) : spU c q j i x fee (342 + 13 * q + 3) = fee := by
  unfold spU
  rw [spl_out hR (by omega) _ _ _ _ hi, upd_ne _ _ (by omega), wrd_ne (by omega)]
  unfold ntB
  simp (disch := omega) only [upd_ne, upd_at]
theorem spU_6 (hR : Row c m p q) (hi : i < p) : spU c q j i x fee (342 + 13 * q + 6) = fee * c 6 / nI 100 := by
  unfold spU
  rw [spl_out hR (by omega) _ _ _ _ hi, upd_at]
theorem useR_ne {k : Nat} (h : k ≠ 27 + 16 * i) : useR c m q j i x fee k = useA c m q j i x fee k := upd_ne _ _ h
theorem useA_hi {k : Nat} (hj : j < m) (h4 : k ≠ 4) (ha : ∀ t, t < m → k ≠ 11 + 2 * t) : useA c m q j i x fee k = spU c q j i x fee k := by
  rw [useA_eq]
  unfold mvm
  rw [mvl_ne _ ha, upd_ne _ _ h4, upd_ne _ _ (ha j hj)]
theorem useR_c {k : Nat} (hR : Row c m p q) (hj : j < m) (hi : i < p) (h2 : k ≠ 2) (h4 : k ≠ 4) (ha : ∀ t, t < m → k ≠ 11 + 2 * t) (hu : k ≠ 27 + 16 * i) (hk : k < 342 + 13 * q ∨ 355 + 13 * q ≤ k) : useR c m q j i x fee k = c k := by
  rw [useR_ne hu, useA_hi hj h4 ha, spU_c hR hi h2 hk]
/-- the new note -/
theorem useR_n {w : Nat} (hR : Row c m p q) (hj : j < m) (hi : i < p) (hw : w < 6) : useR c m q j i x fee (342 + 13 * q + w) = ntB c (342 + 13 * q) (nI j) (nI i) (nI x) fee (c 3) (342 + 13 * q + w) := by
  have hp20 := hR.2.2.2.1
  have hm6 := hR.2.1
  rw [useR_ne (by omega), useA_at hR hj hi (by omega) (by omega)]
  unfold ntB
  simp only [upd]
  repeat' split
  all_goals first | rfl | omega
theorem use_sp (hI : Inv c m p q T) (hj : j < m) (hi : i < p) (hx : x ≤ 100) : ∃ (F P : Nat) (g : Nat → Nat), feeV c j i x = nI F ∧ F ≤ 200 ∧ feeV c j i x * c 6 / nI 100 = nI P ∧ (∀ t, t < 6 → spU c q j i x (feeV c j i x) (349 + 13 * q + t) = nI (g t)) ∧ (∀ t, m ≤ t → g t = 0) ∧ P + sumN g 6 = F := by
  obtain ⟨hR, hT, hT2, ⟨s6, h6, e6⟩, ⟨s7, h7, e7⟩, -⟩ := hI
  obtain ⟨F, hF, eF⟩ := feeV_nat (j := j) hR hi hx
  have hle : F * s6 / 100 ≤ F := by
    have : F * s6 ≤ F * 100 := Nat.mul_le_mul_left _ h6
    omega
  have hb : F * s6 ≤ 200 * 100 := Nat.mul_le_mul hF h6
  have eP : nI F * c 6 / nI 100 = nI (F * s6 / 100) := by rw [e6, pk_mul, pk_div (by omega) (by omega) (by omega)]
  obtain ⟨g, g1, g2, g3⟩ := spl_nat (b := 349 + 13 * q) hR h7 e7 (i + 1) i (F - F * s6 / 100) (upd (wrd (ntB (upd c 2 (nI (q + 1))) (342 + 13 * q) (nI j) (nI i) (nI x) (nI F) (c 3)) (349 + 13 * q) z0 6) (342 + 13 * q + 6) (nI (F * s6 / 100))) (fun _ => 0) (by omega) hi (by omega) (fun t ht => by
    rw [upd_ne _ _ (by omega)]
    unfold wrd
    rw [if_pos (by omega)]
    rfl) (fun _ _ => rfl)
  refine ⟨F, F * s6 / 100, g, eF, hF, by rw [eF]; exact eP, fun t ht => ?_, g2, ?_⟩
  · rw [eF]
    unfold spU
    rw [eP, pk_sub hle]
    exact g1 t ht
  · rw [g3, sumN_z 6 (fun _ _ => rfl)]
    omega
theorem use_inv (hI : Inv c m p q T) (hj : j < m) (hi : i < p) (hq : q < 24) (hx : x ≤ 100) : Inv (useR c m q j i x (feeV c j i x)) m p (q + 1) T := by
  obtain ⟨F, P, g, f1, f2, f3, f4, f5, f6⟩ := use_sp hI hj hi hx
  obtain ⟨hR, hT, hT2, h6, h7, hac, htr, hnt, hus⟩ := hI
  have hp20 := hR.2.2.2.1
  have hm6 := hR.2.1
  generalize hfee : feeV c j i x = fee at f1 f3 f4 ⊢
  have cc : ∀ k, k ≠ 2 → k ≠ 4 → (∀ t, t < m → k ≠ 11 + 2 * t) → k ≠ 27 + 16 * i → (k < 342 + 13 * q ∨ 355 + 13 * q ≤ k) → useR c m q j i x fee k = c k := fun k a b d e f => useR_c hR hj hi a b d e f
  have sh : ∀ t, t < 6 → useR c m q j i x fee (349 + 13 * q + t) = nI (g t) := fun t ht => by
    rw [useR_ne (by omega), useA_hi hj (by omega) (fun t _ => by omega), f4 t ht]
  refine ⟨useR_row hR hj hi hq, ?_, hT2, ?_, ?_, ?_, fun k hk hl => ?_, fun k hk => ?_, fun k hk => ?_⟩
  · rw [cc 3 (by omega) (by omega) (fun t _ => by omega) (by omega) (by omega)]; exact hT
  · rw [cc 6 (by omega) (by omega) (fun t _ => by omega) (by omega) (by omega)]; exact h6
  · rw [cc 7 (by omega) (by omega) (fun t _ => by omega) (by omega) (by omega)]; exact h7
  · rw [useR_ne (by omega), isum_congr (f := fun t => useR c m q j i x fee (11 + 2 * t)) (g := fun t => useA c m q j i x fee (11 + 2 * t)) m (fun t ht => useR_ne (by omega)), useA_eq, mvm_sum hj ?_]
    · rw [spU_c hR hi (by omega) (by omega), isum_congr (f := fun t => spU c q j i x fee (11 + 2 * t)) (g := fun t => c (11 + 2 * t)) m (fun t ht => spU_c hR hi (by omega) (by omega))]
      exact hac
    · rw [spU_6 hR hi, spU_3 hR hi, isum_nI (g := g) m (fun t ht => by
        show spU c q j i x fee (342 + 13 * q + 7 + t) = _
        rw [show 342 + 13 * q + 7 + t = 349 + 13 * q + t by omega]
        exact f4 t (by omega)), f3, f1, nI_add, ← f6, sumN_cut f5 6 hm6]
  · rw [cc (26 + 16 * k) (by omega) (by omega) (fun t _ => by omega) (by omega) (by omega)] at hl
    rw [cc (25 + 16 * k) (by omega) (by omega) (fun t _ => by omega) (by omega) (by omega)]
    rcases htr k hk hl with e | ⟨a, ha, e, el⟩
    · exact Or.inl e
    · refine Or.inr ⟨a, ha, e, ?_⟩
      rw [cc (26 + 16 * a) (by omega) (by omega) (fun t _ => by omega) (by omega) (by omega)]
      exact el
  · by_cases e : k = q
    · subst e
      refine ⟨F, P, T, g, ?_, ?_, ?_, sh, f5, f6, f2, Nat.le_refl _⟩
      · rw [show 345 + 13 * k = 342 + 13 * k + 3 by omega, useR_n hR hj hi (by omega)]
        unfold ntB
        simp (disch := omega) only [upd_ne, upd_at]
        exact f1
      · rw [useR_ne (by omega), useA_hi hj (by omega) (fun t _ => by omega), show 348 + 13 * k = 342 + 13 * k + 6 by omega, spU_6 hR hi]
        exact f3
      · rw [show 346 + 13 * k = 342 + 13 * k + 4 by omega, useR_n hR hj hi (by omega)]
        unfold ntB
        simp (disch := omega) only [upd_ne, upd_at]
        exact hT
    · obtain ⟨fe, po, tk, g', a1, a2, a3, a4, a5⟩ := hnt k (by omega)
      refine ⟨fe, po, tk, g', ?_, ?_, ?_, fun t ht => ?_, a5⟩
      · rw [cc _ (by omega) (by omega) (fun t _ => by omega) (by omega) (by omega)]; exact a1
      · rw [cc _ (by omega) (by omega) (fun t _ => by omega) (by omega) (by omega)]; exact a2
      · rw [cc _ (by omega) (by omega) (fun t _ => by omega) (by omega) (by omega)]; exact a3
      · rw [cc _ (by omega) (by omega) (fun t _ => by omega) (by omega) (by omega)]; exact a4 t ht
  · have hq1 : useR c m q j i x fee (343 + 13 * q) = nI i := by
      rw [show 343 + 13 * q = 342 + 13 * q + 1 by omega, useR_n hR hj hi (by omega)]
      unfold ntB
      simp (disch := omega) only [upd_ne, upd_at]
    rw [cntP_s, cntP_congr (Q := fun t => c (343 + 13 * t) = nI k) (fun t ht => by
      rw [cc (343 + 13 * t) (by omega) (by omega) (fun s _ => by omega) (by omega) (by omega)])]
    by_cases e : k = i
    · subst e
      rw [ind_t hq1, ← nI_add, ← hus k hk]
      show upd _ _ _ _ = _
      rw [upd_at, useA_lo hR hj hi (Or.inl (by omega)) (by omega) (by omega)]
    · rw [ind_f (fun z => e (nI_inj (by omega) (by omega) (hq1.symm.trans z)).symm), Nat.add_zero, cc (27 + 16 * k) (by omega) (by omega) (fun t _ => by omega) (by omega) (by omega)]
      exact hus k hk
theorem use_jj (hI : JJ c m p q T) (hj : j < m) (hi : i < p) (hq : q < 24) (hx : x ≤ 100) : JJ (useR c m q j i x (feeV c j i x)) m p (q + 1) T := by
  obtain ⟨h1, h2, h3⟩ := hI
  have hR := h1.1
  have hp20 := hR.2.2.2.1
  have hm6 := hR.2.1
  refine ⟨use_inv h1 hj hi hq hx, fun k hk => ?_, fun k hk => ?_⟩
  · rw [useR_c hR hj hi (by omega) (by omega) (fun t _ => by omega) (by omega) (by omega)]
    exact h2 k hk
  · by_cases e : k = q
    · subst e
      rw [show 347 + 13 * k = 342 + 13 * k + 5 by omega, useR_n hR hj hi (by omega)]
      unfold ntB
      simp (disch := omega) only [upd_at]
    · rw [useR_c hR hj hi (by omega) (by omega) (fun t _ => by omega) (by omega) (by omega)]
      exact h3 k (by omega)
theorem pass_jj {y : Nat} (hI : JJ c m p q T) (hy : T + y ≤ 5000) : JJ (upd c 3 (nI (T + y))) m p q (T + y) := by
  obtain ⟨⟨hR, hT, hT2, h6, h7, hac, htr, hnt, hus⟩, h2, h3⟩ := hI
  have hp20 := hR.2.2.2.1
  have hm6 := hR.2.1
  refine ⟨⟨hR.low (Nat.le_refl _) hm6 ?_ ?_ ?_ (fun k k1 k2 => upd_ne _ _ (by omega)) ?_ (fun t ht => ?_), upd_at _ _ _, hy, ?_, ?_, ?_, fun k hk => ?_, fun k hk => ?_, fun k hk => ?_⟩, fun k hk => ?_, fun k hk => ?_⟩
  · rw [upd_ne _ _ (by omega)]; exact hR.1
  · rw [upd_ne _ _ (by omega)]
  · rw [upd_ne _ _ (by omega)]
  · rw [upd_ne _ _ (by omega)]; exact hR.2.2.2.2.2.2.2.2.1
  · rw [upd_ne _ _ (by omega)]; exact hR.2.2.2.2.2.2.2.2.2 t ht
  · rw [upd_ne _ _ (by omega)]; exact h6
  · rw [upd_ne _ _ (by omega)]; exact h7
  · rw [upd_ne _ _ (by omega), isum_congr (g := fun j => c (11 + 2 * j)) m (fun t _ => upd_ne _ _ (by omega))]
    exact hac
  · rw [upd_ne _ _ (by omega), upd_ne _ _ (by omega)]
    intro hl
    rcases htr k hk hl with e | ⟨a, ha, e, el⟩
    · exact Or.inl e
    · exact Or.inr ⟨a, ha, e, by rw [upd_ne _ _ (by omega)]; exact el⟩
  · obtain ⟨fe, po, tk, g', a1, a2, a3, a4, a5, a6, a7, a8⟩ := hnt k hk
    refine ⟨fe, po, tk, g', ?_, ?_, ?_, fun t ht => ?_, a5, a6, a7, by omega⟩
    · rw [upd_ne _ _ (by omega)]; exact a1
    · rw [upd_ne _ _ (by omega)]; exact a2
    · rw [upd_ne _ _ (by omega)]; exact a3
    · rw [upd_ne _ _ (by omega)]; exact a4 t ht
  · rw [upd_ne _ _ (by omega), cntP_congr (Q := fun t => c (343 + 13 * t) = nI k) (fun t ht => by rw [upd_ne _ _ (by omega)])]
    exact hus k hk
  · rw [upd_ne _ _ (by omega)]; exact h2 k hk
  · rw [upd_ne _ _ (by omega)]; exact h3 k hk
end USE
