/-! THE RELATION of the two sides; the histories -/
def recH (H : Nat → Nat → Int32) (z : Nat) (c : Nat → Int32) : Nat → Nat → Int32 := fun j => if z < 4 then (if j < z then H j else c) else (if j < 3 then H (j + 1) else c)
def CS (σ : SS) (n z nx : Nat) (H : Nat → Nat → Int32) : Prop := nx < 4 ∧ σ.2.1 0 = nI nx ∧ σ.2.1 1 = nI z ∧ σ.2.1 2 = nI n ∧ ∀ j, j < z → ∀ k, k < 654 → σ.1 (27 + (nx + 4 - z + j) % 4) k = H j k
def MS (σ : SS) (c b : Nat → Int32) (n z : Nat) (H : Nat → Nat → Int32) : Prop := MC σ c ∧ σ.2.1 10 = nI n ∧ (∀ k, k < n → σ.1 45 k = b k) ∧ σ.2.1 7 = nI z ∧ ∀ j, j < z → ∀ k, k < 654 → σ.1 37 (654 * (j + 1) + k) = H j k
def RowE (c : Nat → Int32) : Prop := ∃ m p q, Row c m p q
theorem RowE.congr {c c' : Nat → Int32} (h : ∀ k, k < 654 → c' k = c k) (hr : RowE c) : RowE c' := by
  obtain ⟨m, p, q, hr⟩ := hr
  exact ⟨m, p, q, hr.congr h⟩
def RR (σ : SS) : Prop := ∃ (n z nx : Nat) (H : Nat → Nat → Int32), n ≤ 40 ∧ z ≤ 4 ∧ RowE (σ.1 12) ∧ CS σ n z nx H ∧ MS σ (σ.1 12) (σ.1 31) n z H ∧ ∀ j, j < z → RowE (H j)
/-- what a call of one side leaves alone of the other -/
def FrA (σ s : SS) : Prop := (∀ p, 37 ≤ p → s.1 p = σ.1 p) ∧ ∀ k, 7 ≤ k → s.2.1 k = σ.2.1 k
def FrB (σ s : SS) : Prop := (∀ p, p < 37 → s.1 p = σ.1 p) ∧ ∀ k, k < 7 → s.2.1 k = σ.2.1 k
theorem FrA.rf {σ : SS} : FrA σ σ := ⟨fun _ _ => rfl, fun _ _ => rfl⟩
theorem FrB.rf {σ : SS} : FrB σ σ := ⟨fun _ _ => rfl, fun _ _ => rfl⟩
theorem FrA.tr {σ s t : SS} (h : FrA σ s) (h2 : FrA s t) : FrA σ t := ⟨fun p q => (h2.1 p q).trans (h.1 p q), fun p q => (h2.2 p q).trans (h.2 p q)⟩
theorem FrB.tr {σ s t : SS} (h : FrB σ s) (h2 : FrB s t) : FrB σ t := ⟨fun p q => (h2.1 p q).trans (h.1 p q), fun p q => (h2.2 p q).trans (h.2 p q)⟩
theorem Fr.A {P F : Nat → Bool} {σ s : SS} (h : Fr P F σ s) (hp : ∀ p, 37 ≤ p → P p = false) (hf : ∀ k, 7 ≤ k → F k = false) : FrA σ s := ⟨fun p q => h.1 p (hp p q), fun k q => h.2.1 k (hf k q)⟩
theorem Fr.B {P F : Nat → Bool} {σ s : SS} (h : Fr P F σ s) (hp : ∀ p, p < 37 → P p = false) (hf : ∀ k, k < 7 → F k = false) : FrB σ s := ⟨fun p q => h.1 p (hp p q), fun k q => h.2.1 k (hf k q)⟩
theorem Fr.CA {σ s : SS} (h : Fr PC FC σ s) : FrA σ s := h.A (fun p q => by
  simp only [PC, Bool.or_eq_false_iff, Bool.and_eq_false_iff, decide_eq_false_iff_not]
  omega) (fun k q => by
  simp only [FC, Bool.and_eq_false_iff, decide_eq_false_iff_not]
  omega)
theorem Fr.MB {σ s : SS} (h : Fr PM FM σ s) : FrB σ s := h.B (fun p q => by
  simp only [PM, Bool.and_eq_false_iff, decide_eq_false_iff_not]
  omega) (fun k q => by
  simp only [FM, Bool.or_eq_false_iff, beq_eq_false_iff_ne]
  omega)
theorem P1_ne {w p : Nat} (h : p ≠ w) : P1 w p = false := by
  unfold P1
  rw [beq_eq_false_iff_ne]
  exact h
theorem CS.B {σ s : SS} {n z nx : Nat} {H : Nat → Nat → Int32} (h : CS σ n z nx H) (hz : z ≤ 4) (hf : FrB σ s) : CS s n z nx H := by
  obtain ⟨h1, h2, h3, h4, h5⟩ := h
  refine ⟨h1, (hf.2 0 (by omega)).trans h2, (hf.2 1 (by omega)).trans h3, (hf.2 2 (by omega)).trans h4, fun j hj k hk => ?_⟩
  rw [hf.1 _ (by omega)]
  exact h5 j hj k hk
/-- the class's side stands while only its room to work in, or its row, changes -/
theorem CS.fr {σ s : SS} {n z nx : Nat} {H : Nat → Nat → Int32} {P F : Nat → Bool} (h : CS σ n z nx H) (hf : Fr P F σ s) (hp : ∀ p, 27 ≤ p → p < 31 → P p = false) (h0 : F 0 = false) (h1 : F 1 = false) (h2 : F 2 = false) : CS s n z nx H := by
  obtain ⟨g1, g2, g3, g4, g5⟩ := h
  refine ⟨g1, (hf.2.1 0 h0).trans g2, (hf.2.1 1 h1).trans g3, (hf.2.1 2 h2).trans g4, fun j hj k hk => ?_⟩
  rw [hf.1 _ (hp _ (by omega) (by omega))]
  exact g5 j hj k hk
theorem PC_h {p : Nat} (h1 : 27 ≤ p) (h2 : p < 31) : PC p = false := by
  simp only [PC, Bool.or_eq_false_iff, Bool.and_eq_false_iff, decide_eq_false_iff_not]
  omega
theorem CS.C {σ s : SS} {n z nx : Nat} {H : Nat → Nat → Int32} (h : CS σ n z nx H) (hf : Fr PC FC σ s) : CS s n z nx H := h.fr hf (fun _ a b => PC_h a b) rfl rfl rfl
theorem CS.s12 {σ : SS} {n z nx i : Nat} {x : Int32} {H : Nat → Nat → Int32} (h : CS σ n z nx H) : CS (sA σ 12 i x) n z nx H := h.fr (Fr.sA (P := P1 12) (F := F0f) rfl) (fun p a b => P1_ne (by omega)) rfl rfl rfl
theorem MS.A {σ s : SS} {c b : Nat → Int32} {n z : Nat} {H : Nat → Nat → Int32} (h : MS σ c b n z H) (hf : FrA σ s) : MS s c b n z H := by
  obtain ⟨h1, h2, h3, h4, h5⟩ := h
  refine ⟨fun k hk => ?_, (hf.2 10 (by omega)).trans h2, fun k hk => ?_, (hf.2 7 (by omega)).trans h4, fun j hj k hk => ?_⟩
  · rw [hf.1 37 (by omega)]; exact h1 k hk
  · rw [hf.1 45 (by omega)]; exact h3 k hk
  · rw [hf.1 37 (by omega)]; exact h5 j hj k hk
theorem MS.fr {σ s : SS} {c b : Nat → Int32} {n z : Nat} {H : Nat → Nat → Int32} {P F : Nat → Bool} (h : MS σ c b n z H) (hf : Fr P F σ s) (h37 : P 37 = false) (h45 : P 45 = false) (hF : F 10 = false) (h7 : F 7 = false) : MS s c b n z H := by
  obtain ⟨h1, h2, h3, h4, h5⟩ := h
  refine ⟨fun k hk => ?_, (hf.2.1 10 hF).trans h2, fun k hk => ?_, (hf.2.1 7 h7).trans h4, fun j hj k hk => ?_⟩
  · rw [hf.1 37 h37]; exact h1 k hk
  · rw [hf.1 45 h45]; exact h3 k hk
  · rw [hf.1 37 h37]; exact h5 j hj k hk
theorem MS.M {σ s : SS} {c b : Nat → Int32} {n z : Nat} {H : Nat → Nat → Int32} (h : MS σ c b n z H) (hf : Fr PM FM σ s) : MS s c b n z H := h.fr hf rfl rfl rfl rfl
/-- one cell of the row -/
theorem MS.put {σ : SS} {c b : Nat → Int32} {n z i : Nat} {x : Int32} {H : Nat → Nat → Int32} (h : MS σ c b n z H) (hi : i < 654) : MS (sA σ 37 i x) (upd c i x) b n z H := by
  obtain ⟨h1, h2, h3, h4, h5⟩ := h
  refine ⟨fun k hk => ?_, h2, h3, h4, fun j hj k hk => ?_⟩
  · rw [sA_at]
    by_cases e : k = i
    · rw [e, upd_at, upd_at]
    · rw [upd_ne _ _ e, upd_ne _ _ e]
      exact h1 k hk
  · rw [sA_at, upd_ne _ _ (by omega)]
    exact h5 j hj k hk
theorem MS.row {σ : SS} {c c' b : Nat → Int32} {n z : Nat} {H : Nat → Nat → Int32} (h : MS σ c b n z H) (hc : ∀ k, k < 654 → c k = c' k) : MS σ c' b n z H := ⟨fun k hk => (h.1 k hk).trans (hc k hk), h.2⟩
theorem MS.txt {σ : SS} {c b b' : Nat → Int32} {n z : Nat} {H : Nat → Nat → Int32} (h : MS σ c b n z H) (hb : ∀ k, k < n → b k = b' k) : MS σ c b' n z H := ⟨h.1, h.2.1, fun k hk => (h.2.2.1 k hk).trans (hb k hk), h.2.2.2⟩
/-- nothing but the rooms to work in has changed -/
theorem RR.ro {σ s1 s2 : SS} (h : RR σ) (h1 : Fr PC FC σ s1) (hB : FrB s1 s2) (hM : ∀ c b n z H, MS s1 c b n z H → MS s2 c b n z H) : RR s2 := by
  obtain ⟨n, z, nx, H, a1, a2, a3, a4, a5, a6⟩ := h
  have e12 : s2.1 12 = σ.1 12 := (hB.1 12 (by omega)).trans (h1.1 12 rfl)
  have e31 : s2.1 31 = σ.1 31 := (hB.1 31 (by omega)).trans (h1.1 31 rfl)
  refine ⟨n, z, nx, H, a1, a2, by rw [e12]; exact a3, (a4.C h1).B a2 hB, ?_, a6⟩
  rw [e12, e31]
  exact hM _ _ _ _ _ (a5.A h1.CA)
theorem RR.rw {σ s1 s2 : SS} (h : RR σ) (h1 : Fr PC FC σ s1) (h2 : Fr PM FM s1 s2) : RR s2 := h.ro h1 h2.MB (fun _ _ _ _ _ q => q.M h2)
theorem RR.mk {s1 s2 : SS} {n z nx : Nat} {H : Nat → Nat → Int32} (hn : n ≤ 40) (hz : z ≤ 4) (hr : RowE (s1.1 12)) (hc : CS s1 n z nx H) (hm : MS s2 (s1.1 12) (s1.1 31) n z H) (hB : FrB s1 s2) (hH : ∀ j, j < z → RowE (H j)) : RR s2 := by
  have e12 : s2.1 12 = s1.1 12 := hB.1 12 (by omega)
  have e31 : s2.1 31 = s1.1 31 := hB.1 31 (by omega)
  exact ⟨n, z, nx, H, hn, hz, by rw [e12]; exact hr, hc.B hz hB, by rw [e12, e31]; exact hm, hH⟩
theorem recH_ok {H : Nat → Nat → Int32} {z : Nat} {c : Nat → Int32} (hH : ∀ j, j < z → RowE (H j)) (hc : RowE c) : ∀ j, j < min (z + 1) 4 → RowE (recH H z c j) := by
  intro j hj
  unfold recH
  by_cases h4 : z < 4
  · rw [if_pos h4]
    by_cases hz : j < z
    · rw [if_pos hz]; exact hH j hz
    · rw [if_neg hz]; exact hc
  · rw [if_neg h4]
    by_cases h3 : j < 3
    · rw [if_pos h3]; exact hH (j + 1) (by omega)
    · rw [if_neg h3]; exact hc
def PK (p : Nat) : Bool := decide (27 ≤ p) && decide (p < 31)
def FK (k : Nat) : Bool := decide (k < 2)
theorem PK_f {p : Nat} (h : p < 27 ∨ 31 ≤ p) : PK p = false := by
  simp only [PK, Bool.and_eq_false_iff, decide_eq_false_iff_not]
  omega
theorem PK_t {p : Nat} (h : 27 ≤ p) (h2 : p < 31) : PK p = true := by
  simp only [PK, Bool.and_eq_true, decide_eq_true_eq]
  omega
theorem Fr.KA {σ s : SS} (h : Fr PK FK σ s) : FrA σ s := h.A (fun p q => PK_f (by omega)) (fun k q => by
  simp only [FK, decide_eq_false_iff_not]
  omega)
section REL
variable {d : Nat} {σ : SS} {K : Int32 → SS → Prop} {Kv : SS → Prop} {c b : Nat → Int32} {m p q n z nx : Nat} {H : Nat → Nat → Int32}
theorem s_copyTo {r : Nat} (hd : 1 ≤ d) (hr : 27 ≤ r ∧ r < 31) (k : Kv (sR σ r (va_cpy (σ.1 12) (σ.1 r) 0 0 654))) : CTv mX2_copyTo d [.ref 1, .ref r] σ Kv := eX2_copyTo hr hd k
theorem s_copyFrom {r : Nat} (hd : 1 ≤ d) (hr : 27 ≤ r ∧ r < 31) (k : Kv (sR σ 12 (va_cpy (σ.1 r) (σ.1 12) 0 0 654))) : CTv mX2_copyFrom d [.ref 1, .ref r] σ Kv := eX2_copyFrom hr hd k
theorem cpy_in {f g : Nat → Int32} {k : Nat} (h : k < 654) : va_cpy f g 0 0 654 k = f k := by
  unfold va_cpy
  rw [if_pos (by omega), Nat.zero_add, Nat.sub_zero]
theorem s_keep (hd : 2 ≤ d) (hz : z ≤ 4) (h : CS σ n z nx H) (k : ∀ s, Fr PK FK σ s → CS s n (min (z + 1) 4) ((nx + 1) % 4) (recH H z (σ.1 12)) → Kv s) : CTv mX0_keep d [.ref 2, .ref 1] σ Kv := by
  obtain ⟨h1, h2, h3, h4, h5⟩ := h
  refine eX0_keep (by omega) ?_
  rw [h2, cl (by omega)]
  refine ⟨vp_in_nI h1 (by omega), s_copyTo (by omega) (by omega) ?_⟩
  rw [sR_f, h2, nI_add, pk_rem (by omega) (by omega) (by omega), sF_ne _ _ (by omega), sR_f, h3, nI_add, imin (by omega) (by omega)]
  have fr : Fr PK FK σ (sF (sF (sR σ (27 + nx) (va_cpy (σ.1 12) (σ.1 (27 + nx)) 0 0 654)) 0 (nI ((nx + 1) % 4))) 1 (nI (min (z + 1) 4))) := (Fr.sR (PK_t (by omega) (by omega))).tr ((Fr.sF rfl).tr (Fr.sF rfl))
  have key : ∀ s : SS, s = (sF (sF (sR σ (27 + nx) (va_cpy (σ.1 12) (σ.1 (27 + nx)) 0 0 654)) 0 (nI ((nx + 1) % 4))) 1 (nI (min (z + 1) 4))) → CS s n (min (z + 1) 4) ((nx + 1) % 4) (recH H z (σ.1 12)) := by
    rintro s rfl
    refine ⟨by omega, ?_, sF_at _ _ _, ?_, fun j hj t ht => ?_⟩
    · rw [sF_ne _ _ (by omega), sF_at]
    · rw [sF_ne _ _ (by omega), sF_ne _ _ (by omega)]
      exact h4
    · rw [sF_a, sF_a]
      unfold recH
      by_cases z4 : z < 4
      · rw [if_pos z4]
        by_cases jz : j < z
        · rw [if_pos jz, sR_ne _ _ (by omega)]
          rw [show ((nx + 1) % 4 + 4 - min (z + 1) 4 + j) % 4 = (nx + 4 - z + j) % 4 by omega]
          exact h5 j jz t ht
        · rw [if_neg jz, show 27 + ((nx + 1) % 4 + 4 - min (z + 1) 4 + j) % 4 = 27 + nx by omega, sR_at, cpy_in ht]
      · rw [if_neg z4]
        by_cases j3 : j < 3
        · rw [if_pos j3, sR_ne _ _ (by omega)]
          rw [show ((nx + 1) % 4 + 4 - min (z + 1) 4 + j) % 4 = (nx + 4 - z + (j + 1)) % 4 by omega]
          exact h5 (j + 1) (by omega) t ht
        · rw [if_neg j3, show 27 + ((nx + 1) % 4 + 4 - min (z + 1) 4 + j) % 4 = 27 + nx by omega, sR_at, cpy_in ht]
  exact k _ fr (key _ rfl)
theorem t_copies {a e : Nat} (ha : a + 654 ≤ 3270) (he : e + 654 ≤ 3270) (hae : a + 654 ≤ e ∨ e + 654 ≤ a) (k : ∀ s, Fr (P1 37) F0f σ s → (∀ t, t < 654 → s.1 37 (e + t) = σ.1 37 (a + t)) → (∀ t, t < e ∨ e + 654 ≤ t → s.1 37 t = σ.1 37 t) → Kv s) : CTv mX7_copies d [.ref 11, .int (nI a), .int (nI e)] σ Kv := by
  refine eX7_copies _ _ ?_
  refine cup (I := fun i s => Fr (P1 37) F0f σ s ∧ (∀ t, t < i → s.1 37 (e + t) = σ.1 37 (a + t)) ∧ ∀ t, t < e ∨ e + i ≤ t → s.1 37 t = σ.1 37 t) (G := fun i s => VV mX7_copies d s00 2 [some (.ref 11), some (.int (nI a)), some (.int (nI e)), some (.int (nI i))] [] s (Qv Kv)) 654 ?_ ?_ 0 (Nat.zero_le _) σ ⟨Fr.rf, fun t ht => absurd ht (by omega), fun _ _ => rfl⟩
  · intro s ⟨h1, h2, h3⟩
    exact bX7_copies_2 _ _ _ (br_t (nI_le (Nat.le_refl _) (by omega)) (k s h1 h2 h3))
  · intro i hi ih s ⟨h1, h2, h3⟩
    refine bX7_copies_2 _ _ _ (br_f (nI_ge hi (by omega)) ?_)
    rw [nI_add, nI_add, nI_add, cl (by omega), cl (by omega), h3 (a + i) (by omega)]
    refine ⟨vp_in_nI (by omega) (by omega), vp_in_nI (by omega) (by omega), ih _ ⟨h1.tr (Fr.sA rfl), fun t ht => ?_, fun t ht => ?_⟩⟩
    · rw [sA_at]
      rcases Nat.lt_or_ge t i with q | q
      · rw [upd_ne _ _ (by omega)]
        exact h2 t q
      · rw [show t = i by omega, upd_at]
    · rw [sA_at, upd_ne _ _ (by omega)]
      exact h3 t (by omega)
theorem t_records (hd : 1 ≤ d) (hz : z ≤ 4) (h : MS σ c b n z H) (k : ∀ s, Fr (P1 37) (P1 7) σ s → MS s c b n (min (z + 1) 4) (recH H z c) → Kv s) : CTv mX7_records d [.ref 11] σ Kv := by
  obtain ⟨h1, h2, h3, h4, h5⟩ := id h
  refine eX7_records ?_
  by_cases z4 : z < 4
  · have nz : ¬ σ.2.1 7 = nI 4 := by rw [h4]; exact nI_neq (by omega) (by omega) (by omega)
    refine bX7_records_2 _ hd (br_f (by decide) (br_nt nz (br_nt nz ?_)))
    rw [sF_at, sF_at, h4, pk_sub (by omega), nI_add, pk_mul, Nat.sub_zero]
    refine t_copies (a := 0) (e := 654 * (z + 1)) (by omega) (by omega) (by omega) (fun s g1 g2 g3 => k s ?_ ?_)
    · exact ((Fr.sF (P1_self 7)).tr (Fr.sF (P1_self 7))).tr (g1.mono (fun _ q => q) (fun _ _ => rfl))
    · refine ⟨fun t ht => ?_, ?_, fun t ht => ?_, ?_, fun j hj t ht => ?_⟩
      · rw [g3 t (by omega)]; exact h1 t ht
      · rw [g1.2.1 10 rfl]; exact h2
      · rw [g1.1 45 rfl]; exact h3 t ht
      · rw [g1.2.1 7 rfl, Nat.min_eq_left (by omega)]; exact sF_at _ _ _
      · unfold recH
        rw [if_pos z4]
        by_cases jz : j < z
        · rw [if_pos jz, g3 _ (by omega)]
          exact h5 j jz t ht
        · rw [if_neg jz, show j = z by omega, g2 t ht, Nat.zero_add]
          exact h1 t ht
  · have e4 : z = 4 := by omega
    subst e4
    refine cup (I := fun i s => 1 ≤ i ∧ Fr (P1 37) F0f σ s ∧ (∀ j, 1 ≤ j → j < i → ∀ t, t < 654 → s.1 37 (654 * j + t) = σ.1 37 (654 * (j + 1) + t)) ∧ ∀ t, t < 654 ∨ 654 * i ≤ t → s.1 37 t = σ.1 37 t) (G := fun i s => VV mX7_records d s00 2 [some (.ref 11), some (.int (nI i))] [] s (Qv Kv)) 4 ?_ ?_ 1 (by omega) σ ⟨Nat.le_refl _, Fr.rf, fun j a b => absurd a (by omega), fun _ _ => rfl⟩
    · intro s ⟨_, g1, g2, g3⟩
      have e7 : s.2.1 7 = nI 4 := (g1.2.1 7 rfl).trans h4
      refine bX7_records_2 _ hd (br_t (nI_le (Nat.le_refl _) (by omega)) (br_nf e7 ?_))
      rw [sF_at, sF_at, e7, pk_sub (by omega), nI_add, pk_mul]
      refine t_copies (a := 0) (e := 654 * (4 - 1 + 1)) (by omega) (by omega) (by omega) (fun s2 f1 f2 f3 => k s2 ?_ ?_)
      · exact (g1.mono (fun _ q => q) (fun _ _ => rfl)).tr (((Fr.sF (P1_self 7)).tr (Fr.sF (P1_self 7))).tr (f1.mono (fun _ q => q) (fun _ _ => rfl)))
      · refine ⟨fun t ht => ?_, ?_, fun t ht => ?_, ?_, fun j hj t ht => ?_⟩
        · rw [f3 t (by omega), sF_a, sF_a, g3 t (by omega)]; exact h1 t ht
        · rw [f1.2.1 10 rfl, sF_ne _ _ (by omega), sF_ne _ _ (by omega), g1.2.1 10 rfl]; exact h2
        · rw [f1.1 45 rfl, sF_a, sF_a, g1.1 45 rfl]; exact h3 t ht
        · rw [f1.2.1 7 rfl]; exact sF_at _ _ _
        · unfold recH
          rw [if_neg (by omega)]
          by_cases j3 : j < 3
          · rw [if_pos j3, f3 _ (by omega), sF_a, sF_a, g2 (j + 1) (by omega) (by omega) t ht]
            exact h5 (j + 1) (by omega) t ht
          · rw [if_neg j3, show 654 * (j + 1) + t = 654 * (4 - 1 + 1) + t by omega, f2 t ht, sF_a, sF_a, Nat.zero_add, g3 t (by omega)]
            exact h1 t ht
    · intro i hi ih s ⟨i1, g1, g2, g3⟩
      have e7 : s.2.1 7 = nI 4 := (g1.2.1 7 rfl).trans h4
      refine bX7_records_2 _ hd (br_f (nI_ge hi (by omega)) (br_nf e7 ?_))
      rw [nI_add, pk_mul, pk_mul]
      refine t_copies (by omega) (by omega) (by omega) (fun s2 f1 f2 f3 => ih s2 ⟨by omega, g1.tr f1, fun j j1 j2 t ht => ?_, fun t ht => ?_⟩)
      · rcases Nat.lt_or_ge j i with q | q
        · rw [f3 _ (by omega)]
          exact g2 j j1 q t ht
        · rw [show j = i by omega, f2 t ht, g3 _ (by omega)]
      · rw [f3 t (by omega)]
        exact g3 t (by omega)
end REL
