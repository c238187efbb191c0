/-! WHAT ENDS WITH A PHRASE -/
def LKs (c : Nat → Int32) (j a : Nat) : Prop := ¬ nI (scr (phw c j) (lnN c j) (phw c a) (lnN c a)) < c 9
def mkA (c : Nat → Int32) (o : Nat) : Nat → Nat → Prop
  | 0, j => j = o
  | k + 1, j => j = o ∨ (c (26 + 16 * j) = nI 1 ∧ ∃ a, a < j ∧ c (25 + 16 * j) = nI a ∧ mkA c o k a ∧ LKs c j a)
def Mk (c : Nat → Int32) (o j : Nat) : Prop := mkA c o j j
theorem mkA_fuel {c : Nat → Int32} {o : Nat} : ∀ k k' j, j ≤ k → j ≤ k' → (mkA c o k j ↔ mkA c o k' j) := by
  intro k
  induction k with
  | zero =>
    intro k' j h h'
    have e : j = 0 := by omega
    subst e
    cases k' with
    | zero => exact Iff.rfl
    | succ k' => exact ⟨Or.inl, fun g => g.elim id (fun ⟨_, a, ha, _⟩ => absurd ha (by omega))⟩
  | succ k ih =>
    intro k' j h h'
    cases k' with
    | zero =>
      have e : j = 0 := by omega
      subst e
      exact ⟨fun g => g.elim id (fun ⟨_, a, ha, _⟩ => absurd ha (by omega)), Or.inl⟩
    | succ k' =>
      constructor
      · rintro (g | ⟨g1, a, ha, g2, g3, g4⟩)
        · exact Or.inl g
        · exact Or.inr ⟨g1, a, ha, g2, (ih k' a (by omega) (by omega)).mp g3, g4⟩
      · rintro (g | ⟨g1, a, ha, g2, g3, g4⟩)
        · exact Or.inl g
        · exact Or.inr ⟨g1, a, ha, g2, (ih k' a (by omega) (by omega)).mpr g3, g4⟩
theorem Mk_iff {c : Nat → Int32} {o j : Nat} : Mk c o j ↔ j = o ∨ (c (26 + 16 * j) = nI 1 ∧ ∃ a, a < j ∧ c (25 + 16 * j) = nI a ∧ Mk c o a ∧ LKs c j a) := by
  unfold Mk
  rw [mkA_fuel j (j + 1) j (Nat.le_refl _) (by omega)]
  constructor
  · rintro (g | ⟨g1, a, ha, g2, g3, g4⟩)
    · exact Or.inl g
    · exact Or.inr ⟨g1, a, ha, g2, (mkA_fuel j a a (by omega) (Nat.le_refl _)).mp g3, g4⟩
  · rintro (g | ⟨g1, a, ha, g2, g3, g4⟩)
    · exact Or.inl g
    · exact Or.inr ⟨g1, a, ha, g2, (mkA_fuel j a a (by omega) (Nat.le_refl _)).mpr g3, g4⟩
theorem Mk_o {c : Nat → Int32} {o : Nat} : Mk c o o := Mk_iff.mpr (Or.inl rfl)
/-- live, with a parent that ends -/
def HP (c : Nat → Int32) (o j : Nat) : Prop := c (26 + 16 * j) = nI 1 ∧ ∃ a, a < j ∧ c (25 + 16 * j) = nI a ∧ Mk c o a
def Owd (c : Nat → Int32) (o k : Nat) : Prop := ¬ c (347 + 13 * k) = nI 1 ∧ Mk c o (c (343 + 13 * k)).toNatClampNeg ∧ ¬ c (346 + 13 * k) < c 3 - c 8
/-- the marks of the class, the fates of the reference -/
def Ar (f : Nat → Int32) (P : Nat → Prop) (n : Nat) : Prop := ∀ j, j < n → (P j → f j = nI 1) ∧ (¬ P j → f j = nI 0)
def Ft (c : Nat → Int32) (o : Nat) (f : Nat → Int32) (n : Nat) : Prop := ∀ j, j < n → (Mk c o j → f j = nI 1) ∧ (¬ Mk c o j → HP c o j → f j = nI 2) ∧ (¬ Mk c o j → ¬ HP c o j → f j = nI 0)
section ENDS
variable {d : Nat} {σ : SS} {K : Int32 → SS → Prop} {Kv : SS → Prop} {c : Nat → Int32} {m p q n z : Nat}
theorem s_isMarked {j : Nat} (hj : j < 20) (h1 : ¬ σ.1 13 j = 0 → K (nI 1) σ) (h0 : σ.1 13 j = 0 → K (nI 0) σ) : CTi mX2_isMarked d [.ref 1, .int (nI j)] σ K := eX2_isMarked _ (br_f (nI_pos (by omega)) (br_f (nI_ge hj (by omega)) ⟨vp_in_nI (by omega) (by omega), by
  rw [cl (by omega)]
  exact ⟨h0, h1⟩⟩))
theorem s_isMarkedN (h : K (nI 0) σ) : CTi mX2_isMarked d [.ref 1, .int (-1000000)] σ K := eX2_isMarked _ (br_t (by decide) h)
theorem s_hasMarkedParent {j : Nat} (hd : 2 ≤ d) (hj : j < 20) (hpar : σ.1 12 (25 + 16 * j) = (-1000000) ∨ ∃ a, a < j ∧ σ.1 12 (25 + 16 * j) = nI a) (h1 : ∀ a, a < j → σ.1 12 (26 + 16 * j) = nI 1 → σ.1 12 (25 + 16 * j) = nI a → ¬ σ.1 13 a = 0 → K (nI 1) σ) (h0 : ¬ (σ.1 12 (26 + 16 * j) = nI 1 ∧ ∃ a, a < j ∧ σ.1 12 (25 + 16 * j) = nI a ∧ ¬ σ.1 13 a = 0) → K (nI 0) σ) : CTi mX2_hasMarkedParent d [.ref 1, .int (nI j)] σ K := by
  refine eX2_hasMarkedParent _ (by omega) (s_isLive (by omega) hj (fun hl => br_f one_ne (s_parentOf (by omega) hj ?_)) (fun hl => br_t rfl (h0 (fun g => hl g.1))))
  rcases hpar with e | ⟨a, ha, e⟩
  · rw [e]
    exact s_isMarkedN (br_t rfl (h0 (fun ⟨_, a, ha, g, _⟩ => by
      rw [e] at g
      exact nI_neN (by omega) g.symm)))
  · rw [e]
    refine s_isMarked (by omega) (fun g => br_f one_ne (h1 a ha hl e g)) (fun g => br_t rfl (h0 ?_))
    rintro ⟨_, a', ha', e', g'⟩
    rw [e] at e'
    have := nI_inj (by omega) (by omega) e'
    subst this
    exact g' g
theorem s_markEndings {o : Nat} (hd : 5 ≤ d) (hR : Row (σ.1 12) m p q) (ho : o < p) (k : ∀ s, Fr PC FC σ s → Ar (s.1 13) (Mk (σ.1 12) o) p → Kv s) : CTv mX2_markEndings d [.ref 1, .int (nI o)] σ Kv := by
  have hp := hR.2.2.1
  have hp20 := hR.2.2.2.1
  refine eX2_markEndings _ ?_
  refine cup (I := fun i s => Fr PC FC σ s ∧ ∀ j, j < i → j < p → (Mk (σ.1 12) o j → s.1 13 j = nI 1) ∧ (¬ Mk (σ.1 12) o j → s.1 13 j = nI 0)) (G := fun i s => VV mX2_markEndings d s00 2 [some (.ref 1), some (.int (nI o)), some (.int (nI i))] [] s (Qv Kv)) 20 ?_ ?_ 0 (Nat.zero_le _) _ ⟨Fr.rf, fun j hj => absurd hj (by omega)⟩
  · intro s ⟨f, g⟩
    exact bX2_markEndings_2 _ _ (by omega) (br_t (nI_le (Nat.le_refl _) (by omega)) (k s f (fun j hj => g j (by omega) hj)))
  · intro i hi ih s ⟨f, g⟩
    have e12 : s.1 12 = σ.1 12 := f.1 12 rfl
    have sm : ∀ t x, Fr PC FC σ t → t.1 13 = s.1 13 → (i < p → (Mk (σ.1 12) o i → x = nI 1) ∧ (¬ Mk (σ.1 12) o i → x = nI 0)) → VV mX2_markEndings d s00 2 [some (.ref 1), some (.int (nI o)), some (.int (nI (i + 1)))] [] (sA t 13 i x) (Qv Kv) := fun t x ft et hx => ih _ ⟨ft.tr (Fr.sA rfl), fun j hj hp' => by
      rw [sA_at, et]
      by_cases e : j = i
      · subst e
        rw [upd_at]
        exact hx hp'
      · rw [upd_ne _ _ e]
        exact g j (by omega) hp'⟩
    refine bX2_markEndings_2 _ _ (by omega) (br_f (nI_ge hi (by omega)) ?_)
    rw [cl (by omega), nI_add]
    by_cases hio : i = o
    · exact br_t (congrArg nI hio) ⟨vp_in_nI (by omega) (by omega), sm s _ f rfl (fun _ => ⟨fun _ => rfl, fun h => absurd (by rw [hio]; exact Mk_o) h⟩)⟩
    · refine br_f (nI_neq (by omega) (by omega) hio) (s_phrases ?_)
      rw [e12, hp]
      by_cases hip : i < p
      · refine br_f (nI_ge hip (by omega)) (s_hasMarkedParent (by omega) (by omega) (by rw [e12]; exact hR.par hip) (fun a ha hl hpa hma => br_f one_ne (s_parentOf (by omega) (by omega) ?_)) (fun hn => br_t rfl ⟨vp_in_nI (by omega) (by omega), sm s _ f rfl (fun _ => ⟨fun hm => absurd ?_ hn, fun _ => rfl⟩)⟩))
        · rw [hpa]
          rw [e12] at hl hpa
          have hmk : Mk (σ.1 12) o a := by
            by_cases h : Mk (σ.1 12) o a
            · exact h
            · exact absurd ((g a ha (by omega)).2 h) hma
          obtain ⟨l1, l2, l3⟩ := hR.len hip
          obtain ⟨l4, l5, l6⟩ := hR.len (show a < p by omega)
          refine s_likenessOf (by omega) l2 l3 l6 (by omega) (by omega) (by rw [e12]; exact l1) (by rw [e12]; exact l4) (fun t ft => s_settingOf (k := 4) (by omega) ?_)
          have et12 : t.1 12 = σ.1 12 := (ft.1 12 rfl).trans e12
          have et13 : t.1 13 = s.1 13 := ft.1 13 rfl
          rw [et12, e12]
          refine ⟨fun hlt => ⟨vp_in_nI (by omega) (by omega), sm t _ (f.tr ft.LC) et13 (fun _ => ⟨fun hm => absurd hlt ?_, fun _ => rfl⟩)⟩, fun hge => ⟨vp_in_nI (by omega) (by omega), sm t _ (f.tr ft.LC) et13 (fun _ => ⟨fun _ => rfl, fun hn => absurd (Mk_iff.mpr (Or.inr ⟨hl, a, ha, hpa, hmk, hge⟩)) hn⟩)⟩⟩
          obtain ⟨_, a', ha', e', _, g'⟩ := (Mk_iff.mp hm).resolve_left hio
          rw [hpa] at e'
          have := nI_inj (by omega) (by omega) e'
          subst this
          exact g'
        · obtain ⟨hl, a, ha, hpa, hm2, _⟩ := (Mk_iff.mp hm).resolve_left hio
          refine ⟨by rw [e12]; exact hl, a, ha, by rw [e12]; exact hpa, ?_⟩
          rw [(g a ha (by omega)).1 hm2]
          exact one_ne
      · exact br_t (nI_le (by omega) (by omega)) ⟨vp_in_nI (by omega) (by omega), sm s _ f rfl (fun h => absurd h hip)⟩
/-- a note that goes back -/
theorem s_isOwed {o k : Nat} (hd : 2 ≤ d) (hk : k < q) (hR : Row c m p q) (hA : Ar (σ.1 13) (Mk c o) p) (e1 : σ.1 12 (347 + 13 * k) = c (347 + 13 * k)) (e2 : σ.1 12 (343 + 13 * k) = c (343 + 13 * k)) (e3 : σ.1 12 (346 + 13 * k) = c (346 + 13 * k)) (e4 : σ.1 12 3 = c 3) (e5 : σ.1 12 8 = c 8) (h1 : Owd c o k → K (nI 1) σ) (h0 : ¬ Owd c o k → K (nI 0) σ) : CTi mX2_isOwed d [.ref 1, .int (nI k)] σ K := by
  have hq24 := hR.2.2.2.2.2.1
  have hp20 := hR.2.2.2.1
  obtain ⟨h, hh, eh⟩ := (hR.2.2.2.2.2.2.2.1 k hk).2.1
  refine eX2_isOwed _ (by omega) (s_isPaidBack (by omega) (by omega) (fun g => br_nt one_ne (h0 (fun w => w.1 (e1.symm.trans g)))) (fun g => br_nf rfl (s_noteProperty (k := 1) (by omega) (by omega) (by omega) ?_)))
  rw [show 342 + 13 * k + 1 = 343 + 13 * k by omega, e2, eh]
  have em : (c (343 + 13 * k)).toNatClampNeg = h := by rw [eh, cl (by omega)]
  refine s_isMarked (by omega) (fun g2 => br_f one_ne (s_noteProperty (k := 4) (by omega) (by omega) (by omega) (s_tick (s_settingOf (k := 3) (by omega) ?_)))) (fun g2 => br_t rfl (h0 (fun w => ?_)))
  · have hm : Mk c o h := by
      by_cases w : Mk c o h
      · exact w
      · exact absurd ((hA h hh).2 w) g2
    rw [show 342 + 13 * k + 4 = 346 + 13 * k by omega, e3, e4, e5]
    refine ⟨fun g3 => h0 (fun w => w.2.2 g3), fun g3 => h1 ⟨fun w => g (e1.trans w), ?_, g3⟩⟩
    rw [em]
    exact hm
  · have := w.2.1
    rw [em] at this
    rw [(hA h hh).1 this] at g2
    exact one_ne g2
theorem s_owedForMarked {o : Nat} (hd : 3 ≤ d) (hR : Row (σ.1 12) m p q) (hA : Ar (σ.1 13) (Mk (σ.1 12) o) p) (k : K (sumP (Owd (σ.1 12) o) (fun k => σ.1 12 (345 + 13 * k)) q) σ) : CTi mX2_owedForMarked d [.ref 1] σ K := by
  have hq := hR.2.2.2.2.1
  have hq24 := hR.2.2.2.2.2.1
  refine eX2_owedForMarked ?_
  refine cup (I := fun i (_ : SS) => True) (G := fun i _ => VV mX2_owedForMarked d s00 4 [some (.ref 1), some (.int (sumP (Owd (σ.1 12) o) (fun k => σ.1 12 (345 + 13 * k)) i)), some (.int (nI i))] [] σ (Qi K)) q ?_ ?_ 0 (Nat.zero_le _) σ trivial
  · intro _ _
    refine bX2_owedForMarked_4 _ _ (by omega) (s_notes ?_)
    rw [hq]
    exact br_t (nI_le (Nat.le_refl _) (by omega)) k
  · intro i hi ih _ _
    refine bX2_owedForMarked_4 _ _ (by omega) (s_notes ?_)
    rw [hq, nI_add]
    refine br_f (nI_ge hi (by omega)) (s_isOwed (by omega) hi hR hA rfl rfl rfl rfl rfl (fun g => br_f one_ne (s_noteProperty (k := 3) (by omega) (by omega) (by omega) ?_)) (fun g => br_t rfl ?_))
    · have e := ih σ trivial
      rw [sumP_t g] at e
      rw [show 342 + 13 * i + 3 = 345 + 13 * i by omega]
      exact e
    · have e := ih σ trivial
      rw [sumP_f g] at e
      exact e
end ENDS
/-- the notes that go back, paid back -/
noncomputable def pb (Ow : Nat → Prop) (us : Nat → Nat) (m : Nat) (f : Nat → Int32) : Nat → Nat → Int32
  | 0 => f
  | k + 1 => by
    classical
    exact if Ow k then upd (mvm (pb Ow us m f k) (342 + 13 * k) (us k) (-1) m) (347 + 13 * k) (nI 1) else pb Ow us m f k
theorem pb_t {Ow : Nat → Prop} {us : Nat → Nat} {m k : Nat} {f : Nat → Int32} (h : Ow k) : pb Ow us m f (k + 1) = upd (mvm (pb Ow us m f k) (342 + 13 * k) (us k) (-1) m) (347 + 13 * k) (nI 1) := by
  exact if_pos h
theorem pb_f {Ow : Nat → Prop} {us : Nat → Nat} {m k : Nat} {f : Nat → Int32} (h : ¬ Ow k) : pb Ow us m f (k + 1) = pb Ow us m f k := by
  exact if_neg h
theorem pb_out {Ow : Nat → Prop} {us : Nat → Nat} {m t : Nat} {f : Nat → Int32} (hm : m ≤ 6) : ∀ n, (∀ k, k < n → us k < m) → (22 ≤ t ∨ t < 4 ∨ 4 < t ∧ t < 11 ∨ ∃ s, t = 10 + 2 * s) → (∀ k, k < n → t ≠ 347 + 13 * k) → pb Ow us m f n t = f t := by
  intro n
  induction n with
  | zero => intro _ _ _; rfl
  | succ n ih =>
    intro hu h1 h2
    by_cases h : Ow n
    · rw [pb_t h, upd_ne _ _ (h2 n (by omega)), mvm_out hm (hu n (by omega)) h1]
      exact ih (fun k hk => hu k (by omega)) h1 (fun k hk => h2 k (by omega))
    · rw [pb_f h]
      exact ih (fun k hk => hu k (by omega)) h1 (fun k hk => h2 k (by omega))
theorem pb_eq {Ow : Nat → Prop} {us : Nat → Nat} {m : Nat} {f f' : Nat → Int32} (h : ∀ t, t < 22 ∨ 342 ≤ t → f t = f' t) : ∀ n t, t < 22 ∨ 342 ≤ t → pb Ow us m f n t = pb Ow us m f' n t := by
  intro n
  induction n with
  | zero => exact h
  | succ n ih =>
    intro t ht
    by_cases hO : Ow n
    · rw [pb_t hO, pb_t hO]
      by_cases e : t = 347 + 13 * n
      · rw [e, upd_at, upd_at]
      · rw [upd_ne _ _ e, upd_ne _ _ e]
        exact mvm_cell (ih t ht) (ih _ (by omega)) (ih _ (by omega)) (fun s _ => ih _ (by omega))
    · rw [pb_f hO, pb_f hO]
      exact ih t ht
/-- the phrases that end, and those that lose their parent -/
noncomputable def eRs (c : Nat → Int32) (o : Nat) (f : Nat → Int32) : Nat → Nat → Int32
  | 0 => f
  | j + 1 => by
    classical
    exact if Mk c o j then upd (eRs c o f j) (26 + 16 * j) (nI 0) else if HP c o j then upd (eRs c o f j) (25 + 16 * j) (-1000000) else eRs c o f j
theorem eRs_m {c f : Nat → Int32} {o j : Nat} (h : Mk c o j) : eRs c o f (j + 1) = upd (eRs c o f j) (26 + 16 * j) (nI 0) := by
  exact if_pos h
theorem eRs_h {c f : Nat → Int32} {o j : Nat} (h : ¬ Mk c o j) (h2 : HP c o j) : eRs c o f (j + 1) = upd (eRs c o f j) (25 + 16 * j) (-1000000) := by
  exact (if_neg h).trans (if_pos h2)
theorem eRs_n {c f : Nat → Int32} {o j : Nat} (h : ¬ Mk c o j) (h2 : ¬ HP c o j) : eRs c o f (j + 1) = eRs c o f j := by
  exact (if_neg h).trans (if_neg h2)
theorem eRs_out {c f : Nat → Int32} {o t : Nat} : ∀ n, (∀ j, j < n → t ≠ 25 + 16 * j ∧ t ≠ 26 + 16 * j) → eRs c o f n t = f t := by
  intro n
  induction n with
  | zero => intro _; rfl
  | succ n ih =>
    intro h
    have g := ih (fun j hj => h j (by omega))
    by_cases h1 : Mk c o n
    · rw [eRs_m h1, upd_ne _ _ (h n (by omega)).2, g]
    · by_cases h2 : HP c o n
      · rw [eRs_h h1 h2, upd_ne _ _ (h n (by omega)).1, g]
      · rw [eRs_n h1 h2, g]
theorem eRs_cell {c f f' : Nat → Int32} {o t : Nat} (h : f t = f' t) : ∀ n, eRs c o f n t = eRs c o f' n t := by
  intro n
  induction n with
  | zero => exact h
  | succ n ih =>
    by_cases h1 : Mk c o n
    · rw [eRs_m h1, eRs_m h1]
      by_cases e : t = 26 + 16 * n
      · rw [e, upd_at, upd_at]
      · rw [upd_ne _ _ e, upd_ne _ _ e, ih]
    · by_cases h2 : HP c o n
      · rw [eRs_h h1 h2, eRs_h h1 h2]
        by_cases e : t = 25 + 16 * n
        · rw [e, upd_at, upd_at]
        · rw [upd_ne _ _ e, upd_ne _ _ e, ih]
      · rw [eRs_n h1 h2, eRs_n h1 h2, ih]
theorem eRs_or {c f : Nat → Int32} {o t : Nat} : ∀ n, eRs c o f n (25 + 16 * t) = f (25 + 16 * t) ∨ eRs c o f n (25 + 16 * t) = (-1000000) := by
  intro n
  induction n with
  | zero => exact Or.inl rfl
  | succ n ih =>
    by_cases h1 : Mk c o n
    · rw [eRs_m h1, upd_ne _ _ (by omega)]
      exact ih
    · by_cases h2 : HP c o n
      · rw [eRs_h h1 h2]
        by_cases e : 25 + 16 * t = 25 + 16 * n
        · rw [e, upd_at]
          exact Or.inr rfl
        · rw [upd_ne _ _ e]
          exact ih
      · rw [eRs_n h1 h2]
        exact ih
theorem eRs_ol {c f : Nat → Int32} {o t : Nat} : ∀ n, eRs c o f n (26 + 16 * t) = f (26 + 16 * t) ∨ eRs c o f n (26 + 16 * t) = nI 0 := by
  intro n
  induction n with
  | zero => exact Or.inl rfl
  | succ n ih =>
    by_cases h1 : Mk c o n
    · rw [eRs_m h1]
      by_cases e : 26 + 16 * t = 26 + 16 * n
      · rw [e, upd_at]
        exact Or.inr rfl
      · rw [upd_ne _ _ e]
        exact ih
    · by_cases h2 : HP c o n
      · rw [eRs_h h1 h2, upd_ne _ _ (by omega)]
        exact ih
      · rw [eRs_n h1 h2]
        exact ih
theorem pb_or {Ow : Nat → Prop} {us : Nat → Nat} {m t : Nat} {f : Nat → Int32} (hm : m ≤ 6) : ∀ n, (∀ k, k < n → us k < m) → pb Ow us m f n (347 + 13 * t) = f (347 + 13 * t) ∨ pb Ow us m f n (347 + 13 * t) = nI 1 := by
  intro n
  induction n with
  | zero => intro _; exact Or.inl rfl
  | succ n ih =>
    intro hu
    have g := ih (fun k hk => hu k (by omega))
    by_cases h : Ow n
    · rw [pb_t h]
      by_cases e : 347 + 13 * t = 347 + 13 * n
      · rw [e, upd_at]
        exact Or.inr rfl
      · rw [upd_ne _ _ e, mvm_out hm (hu n (by omega)) (Or.inl (by omega))]
        exact g
    · rw [pb_f h]
      exact g
def usN (c : Nat → Int32) (k : Nat) : Nat := (c (342 + 13 * k)).toNatClampNeg
theorem Row.us {c : Nat → Int32} {m p q k : Nat} (h : Row c m p q) (hk : k < q) : c (342 + 13 * k) = nI (usN c k) ∧ usN c k < m := by
  obtain ⟨u, hu, e⟩ := (h.2.2.2.2.2.2.2.1 k hk).1
  have hm6 := h.2.1
  have e2 : usN c k = u := by
    unfold usN
    rw [e, cl (by omega)]
  rw [e2]
  exact ⟨e, hu⟩
noncomputable def retR (c : Nat → Int32) (m p q o : Nat) : Nat → Int32 := eRs c o (pb (Owd c o) (usN c) m c q) p
theorem ret_row {c : Nat → Int32} {m p q o : Nat} (h : Row c m p q) : Row (retR c m p q o) m p q := by
  obtain ⟨g0, g1, g2, g3, g4, g5, g6, g7, g8, g9⟩ := id h
  have hu : ∀ k, k < q → usN c k < m := fun k hk => (h.us hk).2
  have out : ∀ t, (∀ j, j < p → t ≠ 25 + 16 * j ∧ t ≠ 26 + 16 * j) → (22 ≤ t ∨ t < 4 ∨ 4 < t ∧ t < 11 ∨ ∃ s, t = 10 + 2 * s) → (∀ k, k < q → t ≠ 347 + 13 * k) → retR c m p q o t = c t := fun t h1 h2 h3 => by
    unfold retR
    rw [eRs_out p h1, pb_out g1 q hu h2 h3]
  refine ⟨?_, g1, ?_, g3, ?_, g5, fun j hj => ?_, fun k hk => ?_, ?_, fun j hj => ?_⟩
  · rw [out 0 (fun j hj => by omega) (by omega) (fun k hk => by omega)]; exact g0
  · rw [out 1 (fun j hj => by omega) (by omega) (fun k hk => by omega)]; exact g2
  · rw [out 2 (fun j hj => by omega) (by omega) (fun k hk => by omega)]; exact g4
  · obtain ⟨a1, a2, a3, a4⟩ := g6 j hj
    unfold PhOK
    rw [out (22 + 16 * j) (fun i hi => by omega) (by omega) (fun k hk => by omega), out (23 + 16 * j) (fun i hi => by omega) (by omega) (fun k hk => by omega)]
    refine ⟨a1, a2, ?_, ?_⟩
    · unfold retR
      rcases eRs_or (c := c) (o := o) (f := pb (Owd c o) (usN c) m c q) (t := j) p with e | e
      · rw [e, pb_out g1 q hu (by omega) (fun k hk => by omega)]
        exact a3
      · exact Or.inl e
    · unfold retR
      rcases eRs_ol (c := c) (o := o) (f := pb (Owd c o) (usN c) m c q) (t := j) p with e | e
      · rw [e, pb_out g1 q hu (by omega) (fun k hk => by omega)]
        exact a4
      · exact Or.inl e
  · obtain ⟨a1, a2, a3⟩ := g7 k hk
    unfold NtOK
    rw [out (342 + 13 * k) (fun i hi => by omega) (by omega) (fun k hk => by omega), out (343 + 13 * k) (fun i hi => by omega) (by omega) (fun k hk => by omega)]
    refine ⟨a1, a2, ?_⟩
    unfold retR
    rw [eRs_out p (fun j hj => by omega)]
    rcases pb_or (Ow := Owd c o) (us := usN c) (m := m) (f := c) (t := k) g1 q hu with e | e
    · rw [e]
      exact a3
    · exact Or.inr e
  · rw [out 5 (fun j hj => by omega) (by omega) (fun k hk => by omega)]; exact g8
  · rw [out _ (fun i hi => by omega) (Or.inr (Or.inr (Or.inr ⟨j, rfl⟩))) (fun k hk => by omega)]
    exact g9 j hj
section ENDS2
variable {d : Nat} {σ : SS} {K : Int32 → SS → Prop} {Kv : SS → Prop} {c : Nat → Int32} {m p q n z : Nat}
theorem s_payBack {o : Nat} (hd : 4 ≤ d) (hR : Row (σ.1 12) m p q) (hA : Ar (σ.1 13) (Mk (σ.1 12) o) p) (k : ∀ s, Fr (P1 12) F0f σ s → s.1 12 = pb (Owd (σ.1 12) o) (usN (σ.1 12)) m (σ.1 12) q → Kv s) : CTv mX2_payBackMarked d [.ref 1] σ Kv := by
  obtain ⟨hm, hm6, hp, hp20, hq, hq24, -⟩ := id hR
  have hu : ∀ k, k < q → usN (σ.1 12) k < m := fun k hk => (hR.us hk).2
  refine eX2_payBackMarked ?_
  refine cup (I := fun i s => Fr (P1 12) F0f σ s ∧ s.1 12 = pb (Owd (σ.1 12) o) (usN (σ.1 12)) m (σ.1 12) i) (G := fun i s => VV mX2_payBackMarked d s00 2 [some (.ref 1), some (.int (nI i))] [] s (Qv Kv)) q ?_ ?_ 0 (Nat.zero_le _) σ ⟨Fr.rf, rfl⟩
  · intro s ⟨f, e⟩
    refine bX2_payBackMarked_2 _ (by omega) (s_notes ?_)
    rw [e, pb_out hm6 q hu (by omega) (fun k hk => by omega), hq]
    exact br_t (nI_le (Nat.le_refl _) (by omega)) (k s f e)
  · intro i hi ih s ⟨f, e⟩
    have hu' : ∀ k, k < i → usN (σ.1 12) k < m := fun k hk => hu k (by omega)
    have o1 : ∀ t, (22 ≤ t ∨ t < 4 ∨ 4 < t ∧ t < 11 ∨ ∃ s, t = 10 + 2 * s) → (∀ k, k < i → t ≠ 347 + 13 * k) → s.1 12 t = σ.1 12 t := fun t h1 h2 => by rw [e, pb_out hm6 i hu' h1 h2]
    refine bX2_payBackMarked_2 _ (by omega) (s_notes ?_)
    rw [o1 2 (by omega) (fun k hk => by omega), hq, nI_add]
    refine br_f (nI_ge hi (by omega)) (s_isOwed (c := σ.1 12) (by omega) hi hR (by rw [f.1 13 rfl]; exact hA) (o1 _ (by omega) (fun k hk => by omega)) (o1 _ (by omega) (fun k hk => by omega)) (o1 _ (by omega) (fun k hk => by omega)) (o1 _ (by omega) (fun k hk => by omega)) (o1 _ (by omega) (fun k hk => by omega)) (fun g => br_f one_ne (s_moveMoney (m := m) (j := usN (σ.1 12) i) (by omega) ?_ hm6 (by omega) (hu i hi) ?_ (fun s2 f2 e2 => s_noteCell (k := 5) ⟨vp_in_nI (by omega) (by omega), ih _ ⟨f.tr (f2.tr (Fr.sA rfl)), ?_⟩⟩))) (fun g => br_t rfl (ih s ⟨f, by rw [e, pb_f g]⟩)))
    · rw [o1 _ (by omega) (fun k hk => by omega)]; exact hm
    · rw [o1 _ (by omega) (fun k hk => by omega)]; exact (hR.us hi).1
    · rw [cl (by omega), sA_at, e2, e, pb_t g, show 342 + 13 * i + 5 = 347 + 13 * i by omega]
theorem s_endMarked {o : Nat} (hd : 4 ≤ d) (hR : Row c m p q) (hA : Ar (σ.1 13) (Mk c o) p) (h1 : σ.1 12 1 = c 1) (hph : ∀ t, 22 ≤ t → t < 342 → σ.1 12 t = c t) (k : ∀ s, Fr (P1 12) F0f σ s → s.1 12 = eRs c o (σ.1 12) p → K (nI (cntP (Mk c o) p)) s) : CTi mX2_endMarked d [.ref 1] σ K := by
  obtain ⟨hm, hm6, hp, hp20, hq, hq24, -⟩ := id hR
  refine eX2_endMarked ?_
  refine cup (I := fun i s => Fr (P1 12) F0f σ s ∧ s.1 12 = eRs c o (σ.1 12) i) (G := fun i s => VV mX2_endMarked d s00 4 [some (.ref 1), some (.int (nI (cntP (Mk c o) i))), some (.int (nI i))] [] s (Qi K)) p ?_ ?_ 0 (Nat.zero_le _) σ ⟨Fr.rf, rfl⟩
  · intro s ⟨f, e⟩
    refine bX2_endMarked_4 _ _ (by omega) (s_phrases ?_)
    rw [e, eRs_out p (fun j hj => by omega), h1, hp]
    exact br_t (nI_le (Nat.le_refl _) (by omega)) (k s f e)
  · intro i hi ih s ⟨f, e⟩
    have o1 : ∀ t, (∀ j, j < i → t ≠ 25 + 16 * j ∧ t ≠ 26 + 16 * j) → s.1 12 t = σ.1 12 t := fun t h => by rw [e, eRs_out i h]
    have e13 : s.1 13 = σ.1 13 := f.1 13 rfl
    refine bX2_endMarked_4 _ _ (by omega) (s_phrases ?_)
    rw [o1 1 (fun j hj => by omega), h1, hp, nI_add, nI_add]
    refine br_f (nI_ge hi (by omega)) (s_isMarked (by omega) (fun g => br_f one_ne ?_) (fun g => br_t rfl ?_))
    · have hy : Mk c o i := by
        by_cases w : Mk c o i
        · exact w
        · exact absurd (by rw [e13]; exact (hA i hi).2 w) g
      have r := ih (sA s 12 (26 + 16 * i) (nI 0)) ⟨f.tr (Fr.sA rfl), by rw [sA_at, e, eRs_m hy]⟩
      rw [cntP_t hy] at r
      refine s_phraseCell (k := 4) ⟨vp_in_nI (by omega) (by omega), ?_⟩
      rw [cl (by omega), show 22 + 16 * i + 4 = 26 + 16 * i by omega]
      exact r
    · have hn : ¬ Mk c o i := fun w => by
        rw [e13, (hA i hi).1 w] at g
        exact one_ne g
      have e25 : s.1 12 (25 + 16 * i) = c (25 + 16 * i) := by rw [o1 _ (fun j hj => by omega), hph _ (by omega) (by omega)]
      have e26 : s.1 12 (26 + 16 * i) = c (26 + 16 * i) := by rw [o1 _ (fun j hj => by omega), hph _ (by omega) (by omega)]
      refine s_hasMarkedParent (by omega) (by omega) (by rw [e25]; exact hR.par hi) (fun a ha hl hpa hma => br_f one_ne (s_phraseCell (k := 3) ⟨vp_in_nI (by omega) (by omega), ?_⟩)) (fun hn2 => br_t rfl ?_)
      · rw [e25] at hpa
        rw [e26] at hl
        rw [e13] at hma
        have hmk : Mk c o a := by
          by_cases h : Mk c o a
          · exact h
          · exact absurd ((hA a (by omega)).2 h) hma
        have hHP : HP c o i := ⟨hl, a, ha, hpa, hmk⟩
        have r := ih (sA s 12 (25 + 16 * i) (-1000000)) ⟨f.tr (Fr.sA rfl), by rw [sA_at, e, eRs_h hn hHP]⟩
        rw [cntP_f hn] at r
        rw [cl (by omega), show 22 + 16 * i + 3 = 25 + 16 * i by omega]
        exact r
      · have hHP : ¬ HP c o i := by
          rintro ⟨hl, a, ha, hpa, hmk⟩
          refine hn2 ⟨by rw [e26]; exact hl, a, ha, by rw [e25]; exact hpa, ?_⟩
          rw [e13, (hA a (by omega)).1 hmk]
          exact one_ne
        have r := ih s ⟨f, by rw [e, eRs_n hn hHP]⟩
        rw [cntP_f hn] at r
        exact r
end ENDS2
