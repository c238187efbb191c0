/-! THE RELATION of the two sides; the histories -/
def recH (H : Nat → Nat → Int32) (z : Nat) (c : Nat → Int32) : Nat → Nat → Int32 := fun j => if z < 4 then (if j < z then H j else c) else (if j < 3 then H (j + 1) else c)
def CS (σ : SS) (n z nx : Nat) (H : Nat → Nat → Int32) : Prop := nx < 4 ∧ σ.2.1 0 = nI nx ∧ σ.2.1 1 = nI z ∧ σ.2.1 2 = nI n ∧ ∀ j, j < z → ∀ k, k < 654 → σ.1 (27 + (nx + 4 - z + j) % 4) k = H j k
def RowE (c : Nat → Int32) : Prop := ∃ m p q, Row c m p q
theorem RowE.congr {c c' : Nat → Int32} (h : ∀ k, k < 654 → c' k = c k) (hr : RowE c) : RowE c' := by
  obtain ⟨m, p, q, hr⟩ := hr
  exact ⟨m, p, q, hr.congr h⟩
theorem P1_ne {w p : Nat} (h : p ≠ w) : P1 w p = false := by
  unfold P1
  rw [beq_eq_false_iff_ne]
  exact h
/-- the class's side stands while only its room to work in, or its row, changes -/
theorem CS.fr {σ s : SS} {n z nx : Nat} {H : Nat → Nat → Int32} {P F : Nat → Bool} (h : CS σ n z nx H) (hf : Fr P F σ s) (hp : ∀ p, 27 ≤ p → p < 31 → P p = false) (h0 : F 0 = false) (h1 : F 1 = false) (h2 : F 2 = false) : CS s n z nx H := by
  obtain ⟨g1, g2, g3, g4, g5⟩ := h
  refine ⟨g1, (hf.2.1 0 h0).trans g2, (hf.2.1 1 h1).trans g3, (hf.2.1 2 h2).trans g4, fun j hj k hk => ?_⟩
  rw [hf.1 _ (hp _ (by omega) (by omega))]
  exact g5 j hj k hk
theorem PC_h {p : Nat} (h1 : 27 ≤ p) (h2 : p < 31) : PC p = false := by
  simp only [PC, Bool.or_eq_false_iff, Bool.and_eq_false_iff, decide_eq_false_iff_not]
  omega
theorem CS.C {σ s : SS} {n z nx : Nat} {H : Nat → Nat → Int32} (h : CS σ n z nx H) (hf : Fr PC FC σ s) : CS s n z nx H := h.fr hf (fun _ a b => PC_h a b) rfl rfl rfl
theorem CS.s12 {σ : SS} {n z nx i : Nat} {x : Int32} {H : Nat → Nat → Int32} (h : CS σ n z nx H) : CS (sA σ 12 i x) n z nx H := h.fr (Fr.sA (P := P1 12) (F := F0f) rfl) (fun p a b => P1_ne (by omega)) rfl rfl rfl
theorem recH_ok {H : Nat → Nat → Int32} {z : Nat} {c : Nat → Int32} (hH : ∀ j, j < z → RowE (H j)) (hc : RowE c) : ∀ j, j < min (z + 1) 4 → RowE (recH H z c j) := by
  intro j hj
  unfold recH
  by_cases h4 : z < 4
  · rw [if_pos h4]
    by_cases hz : j < z
    · rw [if_pos hz]; exact hH j hz
    · rw [if_neg hz]; exact hc
  · rw [if_neg h4]
    by_cases h3 : j < 3
    · rw [if_pos h3]; exact hH (j + 1) (by omega)
    · rw [if_neg h3]; exact hc
def PK (p : Nat) : Bool := decide (27 ≤ p) && decide (p < 31)
def FK (k : Nat) : Bool := decide (k < 2)
theorem PK_f {p : Nat} (h : p < 27 ∨ 31 ≤ p) : PK p = false := by
  simp only [PK, Bool.and_eq_false_iff, decide_eq_false_iff_not]
  omega
theorem PK_t {p : Nat} (h : 27 ≤ p) (h2 : p < 31) : PK p = true := by
  simp only [PK, Bool.and_eq_true, decide_eq_true_eq]
  omega
section REL
variable {d : Nat} {σ : SS} {K : Int32 → SS → Prop} {Kv : SS → Prop} {c b : Nat → Int32} {m p q n z nx : Nat} {H : Nat → Nat → Int32}
theorem s_copyTo {r : Nat} (hd : 1 ≤ d) (hr : 27 ≤ r ∧ r < 31) (k : Kv (sR σ r (va_cpy (σ.1 12) (σ.1 r) 0 0 654))) : CTv mX2_copyTo d [.ref 1, .ref r] σ Kv := eX2_copyTo hr hd k
theorem s_copyFrom {r : Nat} (hd : 1 ≤ d) (hr : 27 ≤ r ∧ r < 31) (k : Kv (sR σ 12 (va_cpy (σ.1 r) (σ.1 12) 0 0 654))) : CTv mX2_copyFrom d [.ref 1, .ref r] σ Kv := eX2_copyFrom hr hd k
theorem cpy_in {f g : Nat → Int32} {k : Nat} (h : k < 654) : va_cpy f g 0 0 654 k = f k := by
  unfold va_cpy
  rw [if_pos (by omega), Nat.zero_add, Nat.sub_zero]
theorem s_keep (hd : 2 ≤ d) (hz : z ≤ 4) (h : CS σ n z nx H) (k : ∀ s, Fr PK FK σ s → CS s n (min (z + 1) 4) ((nx + 1) % 4) (recH H z (σ.1 12)) → Kv s) : CTv mX0_keep d [.ref 2, .ref 1] σ Kv := by
  obtain ⟨h1, h2, h3, h4, h5⟩ := h
  refine eX0_keep (by omega) ?_
  rw [h2, cl (by omega)]
  refine ⟨vp_in_nI h1 (by omega), s_copyTo (by omega) (by omega) ?_⟩
  rw [sR_f, h2, nI_add, pk_rem (by omega) (by omega) (by omega), sF_ne _ _ (by omega), sR_f, h3, nI_add, imin (by omega) (by omega)]
  have fr : Fr PK FK σ (sF (sF (sR σ (27 + nx) (va_cpy (σ.1 12) (σ.1 (27 + nx)) 0 0 654)) 0 (nI ((nx + 1) % 4))) 1 (nI (min (z + 1) 4))) := (Fr.sR (PK_t (by omega) (by omega))).tr ((Fr.sF rfl).tr (Fr.sF rfl))
  have key : ∀ s : SS, s = (sF (sF (sR σ (27 + nx) (va_cpy (σ.1 12) (σ.1 (27 + nx)) 0 0 654)) 0 (nI ((nx + 1) % 4))) 1 (nI (min (z + 1) 4))) → CS s n (min (z + 1) 4) ((nx + 1) % 4) (recH H z (σ.1 12)) := by
    rintro s rfl
    refine ⟨by omega, ?_, sF_at _ _ _, ?_, fun j hj t ht => ?_⟩
    · rw [sF_ne _ _ (by omega), sF_at]
    · rw [sF_ne _ _ (by omega), sF_ne _ _ (by omega)]
      exact h4
    · rw [sF_a, sF_a]
      unfold recH
      by_cases z4 : z < 4
      · rw [if_pos z4]
        by_cases jz : j < z
        · rw [if_pos jz, sR_ne _ _ (by omega)]
          rw [show ((nx + 1) % 4 + 4 - min (z + 1) 4 + j) % 4 = (nx + 4 - z + j) % 4 by omega]
          exact h5 j jz t ht
        · rw [if_neg jz, show 27 + ((nx + 1) % 4 + 4 - min (z + 1) 4 + j) % 4 = 27 + nx by omega, sR_at, cpy_in ht]
      · rw [if_neg z4]
        by_cases j3 : j < 3
        · rw [if_pos j3, sR_ne _ _ (by omega)]
          rw [show ((nx + 1) % 4 + 4 - min (z + 1) 4 + j) % 4 = (nx + 4 - z + (j + 1)) % 4 by omega]
          exact h5 (j + 1) (by omega) t ht
        · rw [if_neg j3, show 27 + ((nx + 1) % 4 + 4 - min (z + 1) 4 + j) % 4 = 27 + nx by omega, sR_at, cpy_in ht]
  exact k _ fr (key _ rfl)
end REL
