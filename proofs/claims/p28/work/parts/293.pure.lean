/-! SUMS AND COUNTS -/
def isum (f : Nat → Int32) : Nat → Int32
  | 0 => nI 0
  | n + 1 => isum f n + f n
theorem isum_s (f : Nat → Int32) (n : Nat) : isum f (n + 1) = isum f n + f n := rfl
theorem add0 (x : Int32) : x + nI 0 = x := Int32.add_zero x
theorem zero_add0 (x : Int32) : nI 0 + x = x := Int32.zero_add x
theorem isum_congr {f g : Nat → Int32} : ∀ n, (∀ k, k < n → f k = g k) → isum f n = isum g n := by
  intro n
  induction n with
  | zero => intro _; rfl
  | succ n ih =>
    intro h
    rw [isum_s, isum_s, ih (fun k hk => h k (by omega)), h n (by omega)]
theorem isum_upd1 {f g : Nat → Int32} {o : Nat} {x : Int32} : ∀ n, (∀ k, k < n → k ≠ o → g k = f k) → o < n → g o = f o + x → isum g n = isum f n + x := by
  intro n
  induction n with
  | zero => intro _ h; omega
  | succ n ih =>
    intro h ho hx
    rw [isum_s, isum_s]
    by_cases e : o = n
    · subst e
      rw [isum_congr (f := g) (g := f) o (fun k hk => h k (by omega) (by omega)), hx]
      grind
    · rw [ih (fun k hk => h k (by omega)) (by omega) hx, h n (by omega) (by omega)]
      grind
theorem isum_addx {f g h : Nat → Int32} : ∀ n, (∀ k, k < n → h k = f k + g k) → isum h n = isum f n + isum g n := by
  intro n
  induction n with
  | zero => intro _; exact (add0 (nI 0)).symm
  | succ n ih =>
    intro e
    rw [isum_s, isum_s, isum_s, ih (fun k hk => e k (by omega)), e n (by omega)]
    grind
theorem isum_mul {f g : Nat → Int32} {s : Int32} : ∀ n, (∀ k, k < n → g k = s * f k) → isum g n = s * isum f n := by
  intro n
  induction n with
  | zero =>
    intro _
    show nI 0 = s * nI 0
    exact (Int32.mul_zero).symm
  | succ n ih =>
    intro e
    rw [isum_s, isum_s, ih (fun k hk => e k (by omega)), e n (by omega)]
    grind
theorem isum_nI {f : Nat → Int32} {g : Nat → Nat} : ∀ n, (∀ k, k < n → f k = nI (g k)) → isum f n = nI (sumN g n) := by
  intro n
  induction n with
  | zero => intro _; rfl
  | succ n ih =>
    intro e
    rw [isum_s, ih (fun k hk => e k (by omega)), e n (by omega), nI_add]
    rfl
theorem isum_z {f : Nat → Int32} : ∀ n, (∀ k, k < n → f k = nI 0) → isum f n = nI 0 := by
  intro n
  induction n with
  | zero => intro _; rfl
  | succ n ih =>
    intro e
    rw [isum_s, ih (fun k hk => e k (by omega)), e n (by omega)]
    exact add0 _
theorem sumN_s (f : Nat → Nat) (n : Nat) : sumN f (n + 1) = sumN f n + f n := rfl
theorem sumN_addx {f g h : Nat → Nat} : ∀ n, (∀ k, k < n → h k = f k + g k) → sumN h n = sumN f n + sumN g n := by
  intro n
  induction n with
  | zero => intro _; rfl
  | succ n ih =>
    intro e
    rw [sumN_s, sumN_s, sumN_s, ih (fun k hk => e k (by omega)), e n (by omega)]
    omega
theorem sumN_upd1 {f g : Nat → Nat} {o x : Nat} : ∀ n, (∀ k, k < n → k ≠ o → g k = f k) → o < n → g o = f o + x → sumN g n = sumN f n + x := by
  intro n
  induction n with
  | zero => intro _ h; omega
  | succ n ih =>
    intro h ho hx
    rw [sumN_s, sumN_s]
    by_cases e : o = n
    · subst e
      rw [sumN_congr (f := g) (g := f) o (fun k hk => h k (by omega) (by omega)), hx]
      omega
    · rw [ih (fun k hk => h k (by omega)) (by omega) hx, h n (by omega) (by omega)]
      omega
theorem sumN_z {f : Nat → Nat} : ∀ n, (∀ k, k < n → f k = 0) → sumN f n = 0 := by
  intro n
  induction n with
  | zero => intro _; rfl
  | succ n ih =>
    intro h
    rw [sumN_s, ih (fun k hk => h k (by omega)), h n (by omega)]
noncomputable def ind (P : Prop) : Nat := @ite Nat P (Classical.propDecidable _) 1 0
theorem ind_t {P : Prop} (h : P) : ind P = 1 := if_pos h
theorem ind_f {P : Prop} (h : ¬ P) : ind P = 0 := if_neg h
theorem cntP_s (P : Nat → Prop) (n : Nat) : cntP P (n + 1) = cntP P n + ind (P n) := rfl
theorem ind_congr {P Q : Prop} (h : P ↔ Q) : ind P = ind Q := by
  rcases Classical.em P with a | a
  · rw [ind_t a, ind_t (h.mp a)]
  · rw [ind_f a, ind_f (fun q => a (h.mpr q))]
theorem cntP_z {P : Nat → Prop} : ∀ n, (∀ k, k < n → ¬ P k) → cntP P n = 0 := by
  intro n
  induction n with
  | zero => intro _; rfl
  | succ n ih =>
    intro h
    rw [cntP_s, ih (fun k hk => h k (by omega)), ind_f (h n (by omega))]
theorem cntP_all {P : Nat → Prop} : ∀ n, (∀ k, k < n → P k) → cntP P n = n := by
  intro n
  induction n with
  | zero => intro _; rfl
  | succ n ih =>
    intro h
    rw [cntP_s, ih (fun k hk => h k (by omega)), ind_t (h n (by omega))]
theorem cntP_one {P : Nat → Prop} {o : Nat} : ∀ n, o < n → P o → 1 ≤ cntP P n := by
  intro n
  induction n with
  | zero => intro h; omega
  | succ n ih =>
    intro h hP
    rw [cntP_s]
    by_cases e : o = n
    · subst e
      rw [ind_t hP]
      omega
    · have := ih (by omega) hP
      omega
theorem cntP_split {A B : Nat → Prop} : ∀ n, cntP A n = cntP (fun k => A k ∧ B k) n + cntP (fun k => A k ∧ ¬ B k) n := by
  intro n
  induction n with
  | zero => rfl
  | succ n ih =>
    rw [cntP_s, cntP_s, cntP_s, ih]
    rcases Classical.em (A n) with a | a
    · rcases Classical.em (B n) with b | b
      · rw [ind_t a, ind_t (show A n ∧ B n from ⟨a, b⟩), ind_f (fun q => q.2 b)]
        omega
      · rw [ind_t a, ind_f (fun q => b q.2), ind_t (show A n ∧ ¬ B n from ⟨a, b⟩)]
        omega
    · rw [ind_f a, ind_f (fun q => a q.1), ind_f (fun q => a q.1)]
      omega
theorem sumN_ind (Q : Nat → Prop) : ∀ n, sumN (fun j => ind (Q j)) n = cntP Q n := by
  intro n
  induction n with
  | zero => rfl
  | succ n ih => rw [sumN_s, cntP_s, ih]
/-- everything that is counted has one owner -/
theorem dcount {A : Nat → Prop} {B : Nat → Nat → Prop} {p : Nat} : ∀ q, (∀ k, k < q → A k → ∃ h, h < p ∧ ∀ j, j < p → (B j k ↔ j = h)) → sumN (fun j => cntP (fun k => A k ∧ B j k) q) p = cntP A q := by
  intro q
  induction q with
  | zero => intro _; exact sumN_z p (fun _ _ => rfl)
  | succ q ih =>
    intro h
    rw [sumN_addx (h := fun j => cntP (fun k => A k ∧ B j k) (q + 1)) (f := fun j => cntP (fun k => A k ∧ B j k) q) (g := fun j => ind (A q ∧ B j q)) p (fun j _ => rfl), ih (fun k hk => h k (by omega)), cntP_s]
    congr 1
    rcases Classical.em (A q) with a | a
    · obtain ⟨o, ho, e⟩ := h q (by omega) a
      rw [ind_t a]
      have z : sumN (fun _ => 0) p = 0 := sumN_z p (fun _ _ => rfl)
      have := sumN_upd1 (f := fun _ => 0) (g := fun j => ind (A q ∧ B j q)) (o := o) (x := 1) p (fun k hk hko => ind_f (fun z => hko ((e k hk).mp z.2))) ho (by
        show ind (A q ∧ B o q) = 0 + 1
        rw [ind_t ⟨a, (e o ho).mpr rfl⟩])
      rw [this, z]
    · rw [ind_f a]
      exact sumN_z p (fun j _ => ind_f (fun z => a z.1))
/-- pairs of a relation that goes both ways -/
theorem even_pairs {R : Nat → Nat → Prop} (hs : ∀ a b, R a b → R b a) (hi : ∀ a, ¬ R a a) : ∀ n, ∃ e, sumN (fun j => cntP (R j) n) n = 2 * e := by
  intro n
  induction n with
  | zero => exact ⟨0, rfl⟩
  | succ n ih =>
    obtain ⟨e, he⟩ := ih
    refine ⟨e + cntP (R n) n, ?_⟩
    rw [sumN_s, sumN_addx (h := fun j => cntP (R j) (n + 1)) (f := fun j => cntP (R j) n) (g := fun j => ind (R j n)) n (fun j _ => rfl), he, sumN_ind (fun j => R j n), cntP_s, ind_f (hi n), cntP_congr (P := fun j => R j n) (Q := R n) (fun k _ => ⟨hs k n, hs n k⟩)]
    omega
theorem sumP_z {P : Nat → Prop} {f : Nat → Int32} : ∀ n, (∀ k, k < n → ¬ P k) → sumP P f n = nI 0 := by
  intro n
  induction n with
  | zero => intro _; rfl
  | succ n ih =>
    intro h
    rw [sumP_f (h n (by omega))]
    exact ih (fun k hk => h k (by omega))
/-! how alike: both ways the same -/
theorem ed_sym (u v : Nat → Int32) : ∀ i j, ed u v i j = ed v u j i := by
  intro i
  induction i with
  | zero =>
    intro j
    cases j with
    | zero => rfl
    | succ j => rw [ed_0, ed_s0]
  | succ i ih =>
    intro j
    induction j with
    | zero => rw [ed_s0, ed_0]
    | succ j ihj =>
      rw [ed_ss, ed_ss, ih (j + 1), ihj, ih j]
      have e : (if u i = v j then 0 else 1) = (if v j = u i then 0 else 1) := by
        by_cases h : u i = v j
        · rw [if_pos h, if_pos h.symm]
        · rw [if_neg h, if_neg (fun q => h q.symm)]
      rw [e, Nat.min_comm (ed v u (j + 1) i)]
theorem scr_sym (u : Nat → Int32) (la : Nat) (v : Nat → Int32) (lb : Nat) : scr u la v lb = scr v lb u la := by
  unfold scr
  rw [ed_sym, Nat.max_comm]
/-! the match is the best -/
def Bt (c : Nat → Int32) (sc : Nat → Nat) (i w : Nat) : Prop := sc i < sc w ∨ (sc i = sc w ∧ (c (27 + 16 * i) < c (27 + 16 * w) ∨ (c (27 + 16 * i) = c (27 + 16 * w) ∧ w ≤ i)))
theorem i_tri {x y : Int32} (h : ¬ x < y) : y < x ∨ y = x := by
  rw [Int32.lt_iff_toInt_lt] at h ⊢
  rcases Int.lt_trichotomy x.toInt y.toInt with a | a | a
  · exact absurd a h
  · exact Or.inr (Int32.toInt_inj.mp a.symm)
  · exact Or.inl a
theorem fm_best {c : Nat → Int32} {th : Nat} {sc : Nat → Nat} : ∀ n i, i < n → c (26 + 16 * i) = nI 1 → th ≤ sc i → ∃ w, fm c th sc n = some w ∧ Bt c sc i w.1 := by
  intro n
  induction n with
  | zero => intro i h; omega
  | succ n ih =>
    intro i hi hl ht
    by_cases e : i = n
    · subst e
      rw [fm_live hl]
      cases h : fm c th sc i with
      | none => exact ⟨(i, sc i), if_pos ht, Or.inr ⟨rfl, Or.inr ⟨rfl, Nat.le_refl _⟩⟩⟩
      | some b =>
        obtain ⟨b1, b2, b3, b4⟩ := fm_inv i b h
        by_cases q : b.2 < sc i ∨ (sc i = b.2 ∧ c (27 + 16 * b.1) < c (27 + 16 * i))
        · exact ⟨(i, sc i), if_pos q, Or.inr ⟨rfl, Or.inr ⟨rfl, Nat.le_refl _⟩⟩⟩
        · refine ⟨b, if_neg q, ?_⟩
          unfold Bt
          rw [← b3]
          rcases Nat.lt_trichotomy (sc i) b.2 with a | a | a
          · exact Or.inl a
          · rcases i_tri (fun z => q (Or.inr ⟨a, z⟩)) with z | z
            · exact Or.inr ⟨a, Or.inl z⟩
            · exact Or.inr ⟨a, Or.inr ⟨z, by omega⟩⟩
          · exact absurd (Or.inl a) q
    · obtain ⟨w, hw, hb⟩ := ih i (by omega) hl ht
      by_cases hn : c (26 + 16 * n) = nI 1
      · rw [fm_live hn, hw]
        obtain ⟨b1, b2, b3, b4⟩ := fm_inv n w hw
        by_cases q : w.2 < sc n ∨ (sc n = w.2 ∧ c (27 + 16 * w.1) < c (27 + 16 * n))
        · refine ⟨(n, sc n), if_pos q, ?_⟩
          unfold Bt at hb ⊢
          rw [← b3] at hb
          show sc i < sc n ∨ (sc i = sc n ∧ (c (27 + 16 * i) < c (27 + 16 * n) ∨ (c (27 + 16 * i) = c (27 + 16 * n) ∧ n ≤ i)))
          rcases q with q | ⟨q, q2⟩
          · rcases hb with h | ⟨h, _⟩
            · exact Or.inl (by omega)
            · exact Or.inl (by omega)
          · rcases hb with h | ⟨h, h2⟩
            · exact Or.inl (by omega)
            · refine Or.inr ⟨by omega, Or.inl ?_⟩
              rcases h2 with h2 | ⟨h2, _⟩
              · exact Int32.lt_trans h2 q2
              · rw [h2]
                exact q2
        · exact ⟨w, if_neg q, hb⟩
      · rw [fm_dead hn]
        exact ⟨w, hw, hb⟩
/-! what the ways cost -/
def CkT (c : Nat → Int32) (j la : Nat) (T : Nat → Wy) (lo : Nat) : Prop := T la = some (0, 0, 0) ∧ ∀ pl, lo ≤ pl → pl < la → ∀ w, T pl = some w → ∃ v, T (pl + lnN c w.2.2) = some v ∧ v.2.1 + 1 = w.2.1 ∧ v.1 + fN c j w.2.2 = w.1
theorem wrow_ck {c u : Nat → Int32} {j la pl : Nat} {T : Nat → Wy} : ∀ k w, wrow c j u la T pl k = some w → ∃ v, T (pl + lnN c w.2.2) = some v ∧ v.2.1 + 1 = w.2.1 ∧ v.1 + fN c j w.2.2 = w.1 := by
  intro k
  induction k with
  | zero => intro w h; cases h
  | succ k ih =>
    intro w h
    by_cases hs : Sd c u la pl k
    · rw [wrow_t hs] at h
      rcases wst_or (fN c j k) k (T (pl + lnN c k)) (wrow c j u la T pl k) with e | ⟨v, e1, e2⟩
      · rw [e] at h
        exact ih w h
      · rw [e2] at h
        cases h
        exact ⟨v, e1, rfl, rfl⟩
    · rw [wrow_f hs] at h
      exact ih w h
theorem wtab_ck {c u : Nat → Int32} {m p q j la : Nat} (hR : Row c m p q) : ∀ i, i ≤ la → CkT c j la (wtab c j u la p i) (la - i) := by
  intro i
  induction i with
  | zero =>
    intro _
    exact ⟨if_pos rfl, fun pl h1 h2 => absurd h1 (by omega)⟩
  | succ i ih =>
    intro hi
    obtain ⟨g0, g⟩ := ih (by omega)
    have ok := wtab_ok (u := u) (j := j) (la := la) hR (i + 1) hi
    refine ⟨by rw [wtab_same (by omega)]; exact g0, fun pl h1 h2 w h => ?_⟩
    have hl := (ok pl h1 (by omega) w h).2.2 h2
    have hl1 := hl.2.2.1
    by_cases e : pl + (i + 1) = la
    · rw [wtab_new e] at h
      obtain ⟨v, v1, v2, v3⟩ := wrow_ck p w h
      exact ⟨v, by rw [wtab_same (by omega)]; exact v1, v2, v3⟩
    · rw [wtab_same e] at h
      obtain ⟨v, v1, v2, v3⟩ := g pl (by omega) h2 w h
      exact ⟨v, by rw [wtab_same (by omega)]; exact v1, v2, v3⟩
