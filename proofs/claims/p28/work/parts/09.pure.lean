/-! PLAIN FACTS: counting down, frames, rows, distances, texts -/
theorem down {P : Nat → Prop} (N : Nat) (hN : P N) (hs : ∀ i, i < N → P (i + 1) → P i) (i : Nat) (hi : i ≤ N) : P i := by
  have key : ∀ k i, i + k = N → P i := by
    intro k
    induction k with
    | zero =>
      intro i h
      have : i = N := by omega
      rw [this]
      exact hN
    | succ k ih =>
      intro i h
      exact hs i (by omega) (ih (i + 1) (by omega))
  exact key (N - i) i (by omega)
/-- a loop that counts up to N, with an invariant on its state -/
theorem cup {S : Type} {I : Nat → S → Prop} {G : Nat → S → Prop} (N : Nat) (hN : ∀ s, I N s → G N s) (hs : ∀ i, i < N → (∀ s, I (i + 1) s → G (i + 1) s) → ∀ s, I i s → G i s) (i : Nat) (hi : i ≤ N) (s : S) (h : I i s) : G i s :=
  down (P := fun i => ∀ s, I i s → G i s) N hN hs i hi s h
theorem br_nt {c A B : Prop} (h : ¬ c) (a : A) : (¬ c → A) ∧ (c → B) := ⟨fun _ => a, fun q => absurd q h⟩
theorem br_nf {c A B : Prop} (h : c) (b : B) : (¬ c → A) ∧ (c → B) := ⟨fun q => absurd h q, fun _ => b⟩
theorem cl {n : Nat} (h : n < 2 ^ 31) : (nI n).toNatClampNeg = n := nI_clamp h
theorem nI_neN {n : Nat} (h : n < 2 ^ 31) : ¬ nI n = (-1000000) := fun e => by
  have h1 := congrArg Int32.toInt e
  rw [nI_toInt h, show ((-1000000 : Int32)).toInt = -1000000 by decide] at h1
  omega
theorem one_ne : ¬ nI 1 = 0 := by decide
theorem zero_eq : nI 0 = 0 := rfl
theorem nI_inj {a b : Nat} (ha : a < 2 ^ 31) (hb : b < 2 ^ 31) (h : nI a = nI b) : a = b := (nI_eq ha hb).mp h
theorem nI_neq {a b : Nat} (ha : a < 2 ^ 31) (hb : b < 2 ^ 31) (h : a ≠ b) : ¬ nI a = nI b := fun e => h (nI_inj ha hb e)
theorem nI_pre {a : Nat} (h : 1 ≤ a) : nI a - nI 1 = nI (a - 1) := pk_sub h
/-! frames -/
def Fr (P F : Nat → Bool) (σ σ' : SS) : Prop := (∀ p, P p = false → σ'.1 p = σ.1 p) ∧ (∀ k, F k = false → σ'.2.1 k = σ.2.1 k) ∧ σ'.2.2 = σ.2.2
theorem Fr.rf {P F : Nat → Bool} {σ : SS} : Fr P F σ σ := ⟨fun _ _ => rfl, fun _ _ => rfl, rfl⟩
theorem Fr.tr {P F : Nat → Bool} {σ σ1 σ2 : SS} (h : Fr P F σ σ1) (h2 : Fr P F σ1 σ2) : Fr P F σ σ2 := ⟨fun p q => (h2.1 p q).trans (h.1 p q), fun k q => (h2.2.1 k q).trans (h.2.1 k q), h2.2.2.trans h.2.2⟩
theorem Fr.mono {P F P2 F2 : Nat → Bool} {σ σ1 : SS} (h : Fr P F σ σ1) (hp : ∀ p, P2 p = false → P p = false) (hf : ∀ p, F2 p = false → F p = false) : Fr P2 F2 σ σ1 := ⟨fun p q => h.1 p (hp p q), fun k q => h.2.1 k (hf k q), h.2.2⟩
theorem Fr.sA {P F : Nat → Bool} {σ : SS} {p i : Nat} {x : Int32} (h : P p = true) : Fr P F σ (sA σ p i x) := ⟨fun q hq => if_neg (fun e => by rw [e, h] at hq; cases hq), fun _ _ => rfl, rfl⟩
theorem Fr.sR {P F : Nat → Bool} {σ : SS} {p : Nat} {f : Nat → Int32} (h : P p = true) : Fr P F σ (sR σ p f) := ⟨fun q hq => if_neg (fun e => by rw [e, h] at hq; cases hq), fun _ _ => rfl, rfl⟩
theorem Fr.sF {P F : Nat → Bool} {σ : SS} {k : Nat} {x : Int32} (h : F k = true) : Fr P F σ (sF σ k x) := ⟨fun _ _ => rfl, fun q hq => if_neg (fun e => by rw [e, h] at hq; cases hq), rfl⟩
theorem sA_at (σ : SS) (p i : Nat) (x : Int32) : (sA σ p i x).1 p = upd (σ.1 p) i x := if_pos rfl
theorem sA_ne (σ : SS) {p q : Nat} (i : Nat) (x : Int32) (h : q ≠ p) : (sA σ p i x).1 q = σ.1 q := if_neg h
theorem sA_f (σ : SS) (p i : Nat) (x : Int32) : (sA σ p i x).2 = σ.2 := rfl
theorem sR_at (σ : SS) (p : Nat) (f : Nat → Int32) : (sR σ p f).1 p = f := if_pos rfl
theorem sR_ne (σ : SS) {p q : Nat} (f : Nat → Int32) (h : q ≠ p) : (sR σ p f).1 q = σ.1 q := if_neg h
theorem sR_f (σ : SS) (p : Nat) (f : Nat → Int32) : (sR σ p f).2 = σ.2 := rfl
theorem sF_a (σ : SS) (k : Nat) (x : Int32) : (sF σ k x).1 = σ.1 := rfl
theorem sF_at (σ : SS) (k : Nat) (x : Int32) : (sF σ k x).2.1 k = x := if_pos rfl
theorem sF_ne (σ : SS) {k j : Nat} (x : Int32) (h : j ≠ k) : (sF σ k x).2.1 j = σ.2.1 j := if_neg h
theorem upd_at (f : Nat → Int32) (k : Nat) (x : Int32) : upd f k x k = x := if_pos rfl
theorem upd_ne (f : Nat → Int32) {k j : Nat} (x : Int32) (h : j ≠ k) : upd f k x j = f j := if_neg h
def b2 (P : Prop) [Decidable P] : Int32 := if P then nI 1 else nI 0
/-- the rooms to work in: of the likeness, of the class, of the reference's likeness, of the reference -/
def PL (p : Nat) : Bool := decide (14 ≤ p) && decide (p < 27)
def FLk (k : Nat) : Bool := k == 5 || k == 6
def PC (p : Nat) : Bool := (decide (13 ≤ p) && decide (p < 27)) || (decide (32 ≤ p) && decide (p < 37))
def FC (k : Nat) : Bool := decide (3 ≤ k) && decide (k < 7)
def P1 (w : Nat) (p : Nat) : Bool := p == w
theorem PL_C {p : Nat} (h : PC p = false) : PL p = false := by
  simp only [PC, PL, Bool.or_eq_false_iff, Bool.and_eq_false_iff, decide_eq_false_iff_not] at h ⊢
  omega
theorem FL_C {p : Nat} (h : FC p = false) : FLk p = false := by
  simp only [FC, FLk, Bool.or_eq_false_iff, Bool.and_eq_false_iff, decide_eq_false_iff_not, beq_eq_false_iff_ne, ne_eq] at h ⊢
  omega
theorem Fr.LC {σ σ' : SS} (h : Fr PL FLk σ σ') : Fr PC FC σ σ' := h.mono (fun _ => PL_C) (fun _ => FL_C)
theorem Fr.one {P F : Nat → Bool} {w f : Nat} {σ σ' : SS} (h : Fr (P1 w) (P1 f) σ σ') (hw : P w = true) (hf : F f = true) : Fr P F σ σ' := h.mono (fun p q => by
  unfold P1
  rw [beq_eq_false_iff_ne]
  rintro rfl
  rw [hw] at q
  cases q) (fun p q => by
  unfold P1
  rw [beq_eq_false_iff_ne]
  rintro rfl
  rw [hf] at q
  cases q)
/-! a row of the state that is whole: m members, p phrases, q notes -/
def PhOK (c : Nat → Int32) (m j : Nat) : Prop := (∃ o, o < m ∧ c (22 + 16 * j) = nI o) ∧ (∃ l, 1 ≤ l ∧ l ≤ 10 ∧ c (23 + 16 * j) = nI l) ∧ (c (25 + 16 * j) = (-1000000) ∨ ∃ a, a < j ∧ c (25 + 16 * j) = nI a) ∧ (c (26 + 16 * j) = nI 0 ∨ c (26 + 16 * j) = nI 1)
def NtOK (c : Nat → Int32) (m p k : Nat) : Prop := (∃ u, u < m ∧ c (342 + 13 * k) = nI u) ∧ (∃ h, h < p ∧ c (343 + 13 * k) = nI h) ∧ (c (347 + 13 * k) = nI 0 ∨ c (347 + 13 * k) = nI 1)
def Row (c : Nat → Int32) (m p q : Nat) : Prop := c 0 = nI m ∧ m ≤ 6 ∧ c 1 = nI p ∧ p ≤ 20 ∧ c 2 = nI q ∧ q ≤ 24 ∧ (∀ j, j < p → PhOK c m j) ∧ (∀ k, k < q → NtOK c m p k) ∧ (∃ t, 1 ≤ t ∧ t ≤ 100 ∧ c 5 = nI t) ∧ ∀ j, j < m → ∃ pr, pr ≤ 200 ∧ c (10 + 2 * j) = nI pr
theorem PhOK.congr {c c' : Nat → Int32} {m j : Nat} (hj : j < 20) (h : ∀ k, k < 654 → c' k = c k) (hp : PhOK c m j) : PhOK c' m j := by
  unfold PhOK at hp ⊢
  rw [h (22 + 16 * j) (by omega), h (23 + 16 * j) (by omega), h (25 + 16 * j) (by omega), h (26 + 16 * j) (by omega)]
  exact hp
theorem NtOK.congr {c c' : Nat → Int32} {m p j : Nat} (hj : j < 24) (h : ∀ k, k < 654 → c' k = c k) (hp : NtOK c m p j) : NtOK c' m p j := by
  unfold NtOK at hp ⊢
  rw [h (342 + 13 * j) (by omega), h (343 + 13 * j) (by omega), h (347 + 13 * j) (by omega)]
  exact hp
theorem Row.congr {c c' : Nat → Int32} {m p q : Nat} (h : ∀ k, k < 654 → c' k = c k) (hr : Row c m p q) : Row c' m p q := by
  obtain ⟨h0, h1, h2, h3, h4, h5, h6, h7, ⟨t, h8, h9, h10⟩, h11⟩ := hr
  refine ⟨(h 0 (by omega)).trans h0, h1, (h 1 (by omega)).trans h2, h3, (h 2 (by omega)).trans h4, h5, fun j hj => (h6 j hj).congr (by omega) h, fun k hk => (h7 k hk).congr (by omega) h, ⟨t, h8, h9, (h 5 (by omega)).trans h10⟩, fun j hj => ?_⟩
  rw [h (10 + 2 * j) (by omega)]
  exact h11 j hj
/-! distances -/
def edS (prev : Nat → Nat) (i : Nat) (c : Nat → Nat) : Nat → Nat
  | 0 => i + 1
  | j + 1 => min (1 + min (prev (j + 1)) (edS prev i c j)) (prev j + c j)
def ed (u v : Nat → Int32) : Nat → Nat → Nat
  | 0, j => j
  | i + 1, j => edS (ed u v i) i (fun j => if u i = v j then 0 else 1) j
theorem ed_0 (u v : Nat → Int32) (j : Nat) : ed u v 0 j = j := rfl
theorem ed_s0 (u v : Nat → Int32) (i : Nat) : ed u v (i + 1) 0 = i + 1 := rfl
theorem ed_ss (u v : Nat → Int32) (i j : Nat) : ed u v (i + 1) (j + 1) = min (1 + min (ed u v i (j + 1)) (ed u v (i + 1) j)) (ed u v i j + (if u i = v j then 0 else 1)) := rfl
theorem ed_le (u v : Nat → Int32) : ∀ i j, ed u v i j ≤ max i j := by
  intro i
  induction i with
  | zero => intro j; rw [ed_0]; omega
  | succ i ih =>
    intro j
    induction j with
    | zero => rw [ed_s0]; omega
    | succ j ihj =>
      rw [ed_ss]
      have h1 := ih j
      have h2 : (if u i = v j then 0 else 1) ≤ 1 := by split <;> omega
      omega
theorem ed_congr {u v u' v' : Nat → Int32} : ∀ i j, (∀ k, k < i → u k = u' k) → (∀ k, k < j → v k = v' k) → ed u v i j = ed u' v' i j := by
  intro i
  induction i with
  | zero => intro j _ _; rw [ed_0, ed_0]
  | succ i ih =>
    intro j hu hv
    induction j with
    | zero => rw [ed_s0, ed_s0]
    | succ j ihj =>
      rw [ed_ss, ed_ss, ih (j + 1) (fun k hk => hu k (by omega)) hv, ih j (fun k hk => hu k (by omega)) (fun k hk => hv k (by omega)), ihj (fun k hk => hv k (by omega)), hu i (by omega), hv j (by omega)]
theorem ed_zero (u v : Nat → Int32) : ∀ i j, ed u v i j = 0 → i = j ∧ ∀ k, k < i → u k = v k := by
  intro i
  induction i with
  | zero => intro j h; rw [ed_0] at h; exact ⟨h.symm, fun k hk => absurd hk (by omega)⟩
  | succ i ih =>
    intro j h
    cases j with
    | zero => rw [ed_s0] at h; omega
    | succ j =>
      rw [ed_ss] at h
      have h1 : ed u v i j + (if u i = v j then 0 else 1) = 0 := by omega
      by_cases hc : u i = v j
      · rw [if_pos hc] at h1
        obtain ⟨rfl, h2⟩ := ih j (by omega)
        refine ⟨rfl, fun k hk => ?_⟩
        rcases Nat.lt_or_ge k i with q | q
        · exact h2 k q
        · rw [show k = i by omega]
          exact hc
      · rw [if_neg hc] at h1
        omega
theorem ed_same {u v : Nat → Int32} : ∀ i, (∀ k, k < i → u k = v k) → ed u v i i = 0 := by
  intro i
  induction i with
  | zero => intro _; rfl
  | succ i ih =>
    intro h
    rw [ed_ss, ih (fun k hk => h k (by omega)), if_pos (h i (by omega))]
    omega
def scr (u : Nat → Int32) (la : Nat) (v : Nat → Int32) (lb : Nat) : Nat := 100 * (max la lb - ed u v la lb) / max la lb
theorem scr_congr {u v u' v' : Nat → Int32} {la lb : Nat} (hu : ∀ k, k < la → u k = u' k) (hv : ∀ k, k < lb → v k = v' k) : scr u la v lb = scr u' la v' lb := by
  unfold scr
  rw [ed_congr la lb hu hv]
theorem scr_le (u : Nat → Int32) (la : Nat) (v : Nat → Int32) (lb : Nat) : scr u la v lb ≤ 100 := by
  unfold scr
  rcases Nat.eq_zero_or_pos (max la lb) with h | h
  · rw [h, Nat.div_zero]
    omega
  · have h1 : 100 * (max la lb - ed u v la lb) ≤ 100 * max la lb := Nat.mul_le_mul_left _ (Nat.sub_le _ _)
    have h2 := Nat.div_le_div_right (c := max la lb) h1
    rw [Nat.mul_div_cancel _ h] at h2
    exact h2
theorem scr_100 {u : Nat → Int32} {la : Nat} {v : Nat → Int32} {lb : Nat} (hl : 1 ≤ la) : scr u la v lb = 100 ↔ la = lb ∧ ∀ k, k < la → u k = v k := by
  have hn : 0 < max la lb := by omega
  have he := ed_le u v la lb
  constructor
  · intro h
    apply ed_zero
    rcases Nat.eq_zero_or_pos (ed u v la lb) with q | q
    · exact q
    · exfalso
      have h1 : scr u la v lb < 100 := by
        unfold scr
        rw [Nat.div_lt_iff_lt_mul hn]
        have : max la lb - ed u v la lb < max la lb := by omega
        omega
      omega
  · rintro ⟨rfl, h⟩
    unfold scr
    rw [ed_same la h, Nat.sub_zero, Nat.mul_div_cancel _ hn]
/-! texts -/
def isL (x : Int32) : Prop := ¬ x < nI 97 ∧ ¬ nI 122 < x
def lw (b : Nat → Int32) : Nat → List Int32
  | 0 => []
  | i + 1 => if ¬ b i < nI 97 ∧ ¬ nI 122 < b i then lw b i ++ [b i - nI 97] else lw b i
theorem lw_t {b : Nat → Int32} {i : Nat} (h : isL (b i)) : lw b (i + 1) = lw b i ++ [b i - nI 97] := if_pos h
theorem lw_f {b : Nat → Int32} {i : Nat} (h : ¬ isL (b i)) : lw b (i + 1) = lw b i := if_neg h
def fltA (b : Nat → Int32) (n : Nat) : Nat → Nat → Nat → Int32
  | 0, _, k => if k = 0 then nI n else (-1000000)
  | r + 1, i, k => if ¬ b i < nI 97 ∧ ¬ nI 122 < b i then (if k < 10 then fltA b n r (i + 1) (k + 1) else nI i) else (if b i = nI 32 then fltA b n r (i + 1) k else nI i)
def flt (b : Nat → Int32) (n : Nat) : Int32 := fltA b n n 0 0
def TxtOK (b : Nat → Int32) (n : Nat) : Prop := (∀ i, i < n → isL (b i) ∨ b i = nI 32) ∧ 1 ≤ (lw b n).length ∧ (lw b n).length ≤ 10
theorem flt_none {b : Nat → Int32} {n : Nat} (hn : n < 2 ^ 31) : ∀ r i k, i + r = n → k = (lw b i).length → k ≤ 10 → fltA b n r i k = (-1000000) → (∀ j, i ≤ j → j < n → isL (b j) ∨ b j = nI 32) ∧ 1 ≤ (lw b n).length ∧ (lw b n).length ≤ 10 := by
  intro r
  induction r with
  | zero =>
    intro i k hi hk h10 h
    have hin : i = n := by omega
    subst hin
    refine ⟨fun j h1 h2 => absurd h1 (by omega), ?_, by omega⟩
    unfold fltA at h
    by_cases h0 : k = 0
    · rw [if_pos h0] at h
      exact absurd h (nI_neN hn)
    · omega
  | succ r ih =>
    intro i k hi hk h10 h
    unfold fltA at h
    have step : ∀ k', k' = (lw b (i + 1)).length → k' ≤ 10 → fltA b n r (i + 1) k' = (-1000000) → isL (b i) ∨ b i = nI 32 → (∀ j, i ≤ j → j < n → isL (b j) ∨ b j = nI 32) ∧ 1 ≤ (lw b n).length ∧ (lw b n).length ≤ 10 := by
      intro k' h1 h2 h3 h4
      obtain ⟨g1, g2⟩ := ih (i + 1) k' (by omega) h1 h2 h3
      refine ⟨fun j hj1 hj2 => ?_, g2⟩
      rcases Nat.lt_or_ge i j with q | q
      · exact g1 j q hj2
      · rw [show j = i by omega]
        exact h4
    by_cases hL : isL (b i)
    · rw [if_pos (show ¬ b i < nI 97 ∧ ¬ nI 122 < b i from hL)] at h
      by_cases hk10 : k < 10
      · rw [if_pos hk10] at h
        exact step (k + 1) (by rw [lw_t hL, List.length_append, hk]; rfl) (by omega) h (Or.inl hL)
      · rw [if_neg hk10] at h
        exact absurd h (nI_neN (by omega))
    · rw [if_neg (show ¬ (¬ b i < nI 97 ∧ ¬ nI 122 < b i) from hL)] at h
      by_cases h32 : b i = nI 32
      · rw [if_pos h32] at h
        exact step k (by rw [lw_f hL]; exact hk) h10 h (Or.inr h32)
      · rw [if_neg h32] at h
        exact absurd h (nI_neN (by omega))
theorem flt_ok {b : Nat → Int32} {n : Nat} (hn : n < 2 ^ 31) (h : flt b n = (-1000000)) : TxtOK b n := by
  obtain ⟨h1, h2⟩ := flt_none hn n 0 0 (by omega) rfl (by omega) h
  exact ⟨fun i hi => h1 i (Nat.zero_le _) hi, h2⟩
/-- the words of a text -/
def tw (b : Nat → Int32) (n k : Nat) : Int32 := (lw b n).getD k 0
theorem lw_mono (b : Nat → Int32) (i : Nat) : (lw b i).length ≤ (lw b (i + 1)).length := by
  by_cases h : isL (b i)
  · rw [lw_t h, List.length_append]
    omega
  · rw [lw_f h]
    exact Nat.le_refl _
theorem lw_le (b : Nat → Int32) (i n : Nat) (h : i ≤ n) : (lw b i).length ≤ (lw b n).length := by
  induction n with
  | zero => rw [show i = 0 by omega]; exact Nat.le_refl _
  | succ n ih =>
    rcases Nat.lt_or_ge i (n + 1) with q | q
    · exact Nat.le_trans (ih (by omega)) (lw_mono b n)
    · rw [show i = n + 1 by omega]; exact Nat.le_refl _
theorem lw_congr {b b' : Nat → Int32} : ∀ n, (∀ i, i < n → b i = b' i) → lw b n = lw b' n := by
  intro n
  induction n with
  | zero => intro _; rfl
  | succ n ih =>
    intro h
    have h1 := ih (fun i hi => h i (by omega))
    have h2 := h n (by omega)
    show (if ¬ b n < nI 97 ∧ ¬ nI 122 < b n then lw b n ++ [b n - nI 97] else lw b n) = (if ¬ b' n < nI 97 ∧ ¬ nI 122 < b' n then lw b' n ++ [b' n - nI 97] else lw b' n)
    rw [h1, h2]
theorem fltA_congr {b b' : Nat → Int32} {n : Nat} (h : ∀ i, i < n → b i = b' i) : ∀ r i k, i + r = n → fltA b n r i k = fltA b' n r i k := by
  intro r
  induction r with
  | zero => intro i k _; rfl
  | succ r ih =>
    intro i k hi
    unfold fltA
    rw [h i (by omega), ih (i + 1) (k + 1) (by omega), ih (i + 1) k (by omega)]
theorem flt_congr {b b' : Nat → Int32} {n : Nat} (h : ∀ i, i < n → b i = b' i) : flt b n = flt b' n := fltA_congr h n 0 0 (by omega)
