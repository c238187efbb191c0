/-! SPECS: what the class counts and tells -/
def lnN (c : Nat → Int32) (j : Nat) : Nat := (c (23 + 16 * j)).toNatClampNeg
def owN (c : Nat → Int32) (j : Nat) : Nat := (c (22 + 16 * j)).toNatClampNeg
theorem Row.len {c : Nat → Int32} {m p q j : Nat} (h : Row c m p q) (hj : j < p) : c (23 + 16 * j) = nI (lnN c j) ∧ 1 ≤ lnN c j ∧ lnN c j ≤ 10 := by
  obtain ⟨-, ⟨l, h1, h2, h3⟩, -⟩ := h.2.2.2.2.2.2.1 j hj
  have e : lnN c j = l := by unfold lnN; rw [h3, cl (by omega)]
  rw [e]
  exact ⟨h3, h1, h2⟩
theorem Row.own {c : Nat → Int32} {m p q j : Nat} (h : Row c m p q) (hj : j < p) : c (22 + 16 * j) = nI (owN c j) ∧ owN c j < m := by
  obtain ⟨⟨o, h1, h2⟩, -⟩ := h.2.2.2.2.2.2.1 j hj
  have e : owN c j = o := by unfold owN; rw [h2, cl (by have := h.2.1; omega)]
  rw [e]
  exact ⟨h2, h1⟩
theorem Row.par {c : Nat → Int32} {m p q j : Nat} (h : Row c m p q) (hj : j < p) : c (25 + 16 * j) = (-1000000) ∨ ∃ a, a < j ∧ c (25 + 16 * j) = nI a := (h.2.2.2.2.2.2.1 j hj).2.2.1
theorem Row.live {c : Nat → Int32} {m p q j : Nat} (h : Row c m p q) (hj : j < p) : c (26 + 16 * j) = nI 0 ∨ c (26 + 16 * j) = nI 1 := (h.2.2.2.2.2.2.1 j hj).2.2.2
theorem Row.lens {c : Nat → Int32} {m p q : Nat} (h : Row c m p q) : ∀ k, k < p → ∃ l, l ≤ 10 ∧ c (23 + 16 * k) = nI l := fun k hk => ⟨_, (h.len hk).2.2, (h.len hk).1⟩
theorem cfl_le (c : Nat → Int32) (p j la : Nat) : cfl c p j la ≤ p := by
  unfold cfl
  rcases Classical.em (c (26 + 16 * j) = nI 1) with h | h
  · rw [if_pos h]; exact cntP_le _ _
  · rw [if_neg h]; exact Nat.zero_le _
def sumN (f : Nat → Nat) : Nat → Nat
  | 0 => 0
  | n + 1 => sumN f n + f n
theorem sumN_le {f : Nat → Nat} {b : Nat} : ∀ n, (∀ k, k < n → f k ≤ b) → sumN f n ≤ n * b := by
  intro n
  induction n with
  | zero => intro _; exact Nat.zero_le _
  | succ n ih =>
    intro h
    have h1 := ih (fun k hk => h k (by omega))
    have h2 := h n (by omega)
    show sumN f n + f n ≤ (n + 1) * b
    rw [Nat.succ_mul]
    omega
theorem sumN_congr {f g : Nat → Nat} : ∀ n, (∀ k, k < n → f k = g k) → sumN f n = sumN g n := by
  intro n
  induction n with
  | zero => intro _; rfl
  | succ n ih =>
    intro h
    show sumN f n + f n = sumN g n + g n
    rw [ih (fun k hk => h k (by omega)), h n (by omega)]
noncomputable def vLive (c : Nat → Int32) (p : Nat) : Nat := cntP (fun j => c (26 + 16 * j) = nI 1) p
noncomputable def vOwn (c : Nat → Int32) (p m : Nat) : Nat := cntP (fun j => c (26 + 16 * j) = nI 1 ∧ c (22 + 16 * j) = nI m) p
noncomputable def vUse (c : Nat → Int32) (q m : Nat) : Nat := cntP (fun k => c (342 + 13 * k) = nI m) q
noncomputable def vGot (c : Nat → Int32) (q m : Nat) : Int32 := sumP (fun k => ¬ c (347 + 13 * k) = nI 1) (fun k => c (342 + 13 * k + (7 + m))) q
noncomputable def vPaid (c : Nat → Int32) (q : Nat) : Nat := cntP (fun k => c (347 + 13 * k) = nI 1) q
noncomputable def vCfs (c : Nat → Int32) (p : Nat) : Nat := sumN (fun j => cfl c p j (lnN c j)) p
noncomputable def mprop (c : Nat → Int32) (p q m w : Nat) : Int32 := if w < 2 then c (10 + 2 * m + w) else if w = 2 then nI (vOwn c p m) else if w = 3 then nI (vUse c q m) else vGot c q m
noncomputable def cprop (c : Nat → Int32) (p q w : Nat) : Int32 := if w < 2 then c w else if w = 2 then nI (vLive c p) else if w = 3 then c 2 else if w = 4 then nI (vPaid c q) else if w = 5 then c 3 else if w = 6 then c 4 else if w = 7 then nI (vCfs c p / 2) else c (5 + (w - 8))
noncomputable def pprop (c : Nat → Int32) (p j w : Nat) : Int32 := if w < 6 then c (22 + 16 * j + w) else nI (cfl c p j (lnN c j))
/-- member m gives a target to a sentence -/
def Gv (c : Nat → Int32) (p m : Nat) (t : Int32) (u : Nat → Int32) (la : Nat) : Prop := ∃ k, k < p ∧ c (22 + 16 * k) = nI m ∧ c (24 + 16 * k) = t ∧ LA c k u la
noncomputable def gvs (c : Nat → Int32) (m p : Nat) (t : Int32) (u : Nat → Int32) (la : Nat) : Nat := cntP (fun i => Gv c p i t u la) m
section SPD
variable {d : Nat} {σ : SS} {K : Int32 → SS → Prop} {Kv : SS → Prop} {m p q : Nat}
theorem s_countOwned {x : Nat} (hd : 2 ≤ d) (hR : Row (σ.1 12) m p q) (hx : x < 6) (k : K (nI (vOwn (σ.1 12) p x)) σ) : CTi mX2_countOwned d [.ref 1, .int (nI x)] σ K := by
  obtain ⟨-, hm6, hp, hp20, -⟩ := id hR
  refine eX2_countOwned _ ?_
  refine cup (I := fun i (_ : SS) => True) (G := fun i _ => VV mX2_countOwned d s00 4 [some (.ref 1), some (.int (nI x)), some (.int (nI (vOwn (σ.1 12) i x))), some (.int (nI i))] [] σ (Qi K)) p ?_ ?_ 0 (Nat.zero_le _) σ trivial
  · intro _ _
    refine bX2_countOwned_4 _ _ _ (by omega) (s_phrases ?_)
    rw [hp]
    exact br_t (nI_le (Nat.le_refl _) (by omega)) k
  · intro i hi ih _ _
    refine bX2_countOwned_4 _ _ _ (by omega) (s_phrases ?_)
    rw [hp]
    obtain ⟨h1, h2⟩ := hR.own hi
    have ih := ih σ trivial
    refine br_f (nI_ge hi (by omega)) (s_isLive (by omega) (by omega) (fun hl => br_f one_ne (s_ownerOf (by omega) (by omega) ⟨fun e => ?_, fun e => ?_⟩)) (fun hl => br_t rfl ?_))
    · rw [nI_add]
      unfold vOwn at ih ⊢
      rw [cntP_f (fun z => e z.2)] at ih
      exact ih
    · rw [nI_add, nI_add]
      unfold vOwn at ih ⊢
      rw [cntP_t (P := fun j => σ.1 12 (26 + 16 * j) = nI 1 ∧ σ.1 12 (22 + 16 * j) = nI x) ⟨hl, e⟩] at ih
      exact ih
    · rw [nI_add]
      unfold vOwn at ih ⊢
      rw [cntP_f (fun z => hl z.1)] at ih
      exact ih
theorem s_countUsesNoted {x : Nat} (hd : 2 ≤ d) (hR : Row (σ.1 12) m p q) (k : K (nI (vUse (σ.1 12) q x)) σ) : CTi mX2_countUsesNoted d [.ref 1, .int (nI x)] σ K := by
  obtain ⟨-, hm6, hp, hp20, hq, hq24, -⟩ := id hR
  refine eX2_countUsesNoted _ ?_
  refine cup (I := fun i (_ : SS) => True) (G := fun i _ => VV mX2_countUsesNoted d s00 4 [some (.ref 1), some (.int (nI x)), some (.int (nI (vUse (σ.1 12) i x))), some (.int (nI i))] [] σ (Qi K)) q ?_ ?_ 0 (Nat.zero_le _) σ trivial
  · intro _ _
    refine bX2_countUsesNoted_4 _ _ _ (by omega) (s_notes ?_)
    rw [hq]
    exact br_t (nI_le (Nat.le_refl _) (by omega)) k
  · intro i hi ih _ _
    refine bX2_countUsesNoted_4 _ _ _ (by omega) (s_notes ?_)
    rw [hq]
    have ih := ih σ trivial
    refine br_f (nI_ge hi (by omega)) (s_noteProperty (k := 0) (by omega) (by omega) (by omega) ⟨fun e => ?_, fun e => ?_⟩)
    · rw [nI_add]
      unfold vUse at ih ⊢
      rw [cntP_f e] at ih
      exact ih
    · rw [nI_add, nI_add]
      unfold vUse at ih ⊢
      rw [cntP_t (P := fun k => σ.1 12 (342 + 13 * k) = nI x) e] at ih
      exact ih
theorem s_sumGot {x : Nat} (hd : 2 ≤ d) (hR : Row (σ.1 12) m p q) (hx : x < 6) (k : K (vGot (σ.1 12) q x) σ) : CTi mX2_sumGot d [.ref 1, .int (nI x)] σ K := by
  obtain ⟨-, hm6, hp, hp20, hq, hq24, -⟩ := id hR
  refine eX2_sumGot _ ?_
  refine cup (I := fun i (_ : SS) => True) (G := fun i _ => VV mX2_sumGot d s00 4 [some (.ref 1), some (.int (nI x)), some (.int (vGot (σ.1 12) i x)), some (.int (nI i))] [] σ (Qi K)) q ?_ ?_ 0 (Nat.zero_le _) σ trivial
  · intro _ _
    refine bX2_sumGot_4 _ _ _ (by omega) (s_notes ?_)
    rw [hq]
    exact br_t (nI_le (Nat.le_refl _) (by omega)) k
  · intro i hi ih _ _
    refine bX2_sumGot_4 _ _ _ (by omega) (s_notes ?_)
    rw [hq]
    have ih := ih σ trivial
    refine br_f (nI_ge hi (by omega)) (s_isPaidBack (by omega) (by omega) (fun hl => br_nt one_ne ?_) (fun hl => br_nf rfl ?_))
    · rw [nI_add]
      unfold vGot at ih ⊢
      rw [sumP_f (fun z => z hl)] at ih
      exact ih
    · rw [nI_add]
      refine s_noteProperty (by omega) (by omega) (by omega) ?_
      rw [nI_add]
      unfold vGot at ih ⊢
      rw [sumP_t (P := fun k => ¬ σ.1 12 (347 + 13 * k) = nI 1) hl] at ih
      exact ih
theorem s_memberProperty {x w : Nat} (hd : 3 ≤ d) (hR : Row (σ.1 12) m p q) (hx : x < 6) (hw : w < 5) (k : K (mprop (σ.1 12) p q x w) σ) : CTi mX2_memberProperty d [.ref 1, .int (nI x), .int (nI w)] σ K := by
  unfold mprop at k
  refine eX2_memberProperty _ _ (by omega) ⟨fun e => ?_, fun e => ?_, fun e => ?_, fun e => ?_, fun e => ?_⟩
  · have e := nI_inj (by omega) (by omega) e
    subst e
    refine s_memberCell ?_
    rw [cl (by omega)]
    exact ⟨vp_in_nI (by omega) (by omega), k⟩
  · have e := nI_inj (by omega) (by omega) e
    subst e
    refine s_memberCell ?_
    rw [cl (by omega)]
    exact ⟨vp_in_nI (by omega) (by omega), k⟩
  · have e := nI_inj (by omega) (by omega) e
    subst e
    exact s_countOwned (by omega) hR hx k
  · have e := nI_inj (by omega) (by omega) e
    subst e
    exact s_countUsesNoted (by omega) hR k
  · have h4 : w = 4 := by
      rcases Nat.lt_or_ge w 4 with q | q
      · exact absurd rfl (e w q)
      · omega
    subst h4
    exact s_sumGot (by omega) hR hx k
theorem s_countLive (hd : 2 ≤ d) (hR : Row (σ.1 12) m p q) (k : K (nI (vLive (σ.1 12) p)) σ) : CTi mX2_countLive d [.ref 1] σ K := by
  obtain ⟨-, hm6, hp, hp20, -⟩ := id hR
  refine eX2_countLive ?_
  refine cup (I := fun i (_ : SS) => True) (G := fun i _ => VV mX2_countLive d s00 4 [some (.ref 1), some (.int (nI (vLive (σ.1 12) i))), some (.int (nI i))] [] σ (Qi K)) p ?_ ?_ 0 (Nat.zero_le _) σ trivial
  · intro _ _
    refine bX2_countLive_4 _ _ (by omega) (s_phrases ?_)
    rw [hp]
    exact br_t (nI_le (Nat.le_refl _) (by omega)) k
  · intro i hi ih _ _
    refine bX2_countLive_4 _ _ (by omega) (s_phrases ?_)
    rw [hp]
    have ih := ih σ trivial
    refine br_f (nI_ge hi (by omega)) (s_isLive (by omega) (by omega) (fun hl => br_f one_ne ?_) (fun hl => br_t rfl ?_))
    · rw [nI_add, nI_add]
      unfold vLive at ih ⊢
      rw [cntP_t (P := fun j => σ.1 12 (26 + 16 * j) = nI 1) hl] at ih
      exact ih
    · rw [nI_add]
      unfold vLive at ih ⊢
      rw [cntP_f hl] at ih
      exact ih
theorem s_countPaidBack (hd : 2 ≤ d) (hR : Row (σ.1 12) m p q) (k : K (nI (vPaid (σ.1 12) q)) σ) : CTi mX2_countPaidBack d [.ref 1] σ K := by
  obtain ⟨-, hm6, hp, hp20, hq, hq24, -⟩ := id hR
  refine eX2_countPaidBack ?_
  refine cup (I := fun i (_ : SS) => True) (G := fun i _ => VV mX2_countPaidBack d s00 4 [some (.ref 1), some (.int (nI (vPaid (σ.1 12) i))), some (.int (nI i))] [] σ (Qi K)) q ?_ ?_ 0 (Nat.zero_le _) σ trivial
  · intro _ _
    refine bX2_countPaidBack_4 _ _ (by omega) (s_notes ?_)
    rw [hq]
    exact br_t (nI_le (Nat.le_refl _) (by omega)) k
  · intro i hi ih _ _
    refine bX2_countPaidBack_4 _ _ (by omega) (s_notes ?_)
    rw [hq]
    have ih := ih σ trivial
    refine br_f (nI_ge hi (by omega)) (s_isPaidBack (by omega) (by omega) (fun hl => br_f one_ne ?_) (fun hl => br_t rfl ?_))
    · rw [nI_add, nI_add]
      unfold vPaid at ih ⊢
      rw [cntP_t (P := fun j => σ.1 12 (347 + 13 * j) = nI 1) hl] at ih
      exact ih
    · rw [nI_add]
      unfold vPaid at ih ⊢
      rw [cntP_f hl] at ih
      exact ih
theorem s_countConflicts (hd : 4 ≤ d) (hR : Row (σ.1 12) m p q) (k : ∀ s, Fr PL FLk σ s → K (nI (vCfs (σ.1 12) p / 2)) s) : CTi mX2_countConflicts d [.ref 1] σ K := by
  obtain ⟨-, hm6, hp, hp20, -⟩ := id hR
  have hb : ∀ n, n ≤ p → sumN (fun j => cfl (σ.1 12) p j (lnN (σ.1 12) j)) n ≤ n * 20 := fun n hn => sumN_le n (fun k _ => Nat.le_trans (cfl_le _ _ _ _) hp20)
  refine eX2_countConflicts ?_
  refine cup (I := fun i s => Fr PL FLk σ s) (G := fun i s => VV mX2_countConflicts d s00 4 [some (.ref 1), some (.int (nI (sumN (fun j => cfl (σ.1 12) p j (lnN (σ.1 12) j)) i))), some (.int (nI i))] [] s (Qi K)) p ?_ ?_ 0 (Nat.zero_le _) σ Fr.rf
  · intro s hs
    have hbp := hb p (Nat.le_refl _)
    refine bX2_countConflicts_4 _ _ (by omega) (s_phrases ?_)
    rw [hs.1 12 rfl, hp, pk_div (by omega) (by omega) (by omega)]
    exact br_t (nI_le (Nat.le_refl _) (by omega)) (k s hs)
  · intro i hi ih s hs
    have e12 := hs.1 12 rfl
    refine bX2_countConflicts_4 _ _ (by omega) (s_phrases ?_)
    rw [e12, hp]
    obtain ⟨l1, l2, l3⟩ := hR.len hi
    refine br_f (nI_ge hi (by omega)) (s_conflictsOf (p := p) (la := lnN (σ.1 12) i) (by omega) (by rw [e12]; exact hp) hp20 hi (by rw [e12]; exact l1) l3 (by rw [e12]; exact hR.lens) (fun s2 hs2 => ?_))
    rw [e12, nI_add, nI_add]
    exact ih s2 (hs.tr hs2)
theorem s_countOf {w : Nat} (hd : 5 ≤ d) (hR : Row (σ.1 12) m p q) (hw : w < 13) (k : ∀ s, Fr PL FLk σ s → K (cprop (σ.1 12) p q w) s) : CTi mX2_countOf d [.ref 1, .int (nI w)] σ K := by
  have kk := k σ Fr.rf
  unfold cprop at k kk
  refine eX2_countOf _ (by omega) ⟨fun e => ?_, fun e => ?_, fun e => ?_, fun e => ?_, fun e => ?_, fun e => ?_, fun e => ?_, fun e => ?_, fun e => ?_⟩
  · have e := nI_inj (by omega) (by omega) e
    subst e
    exact s_members kk
  · have e := nI_inj (by omega) (by omega) e
    subst e
    exact s_phrases kk
  · have e := nI_inj (by omega) (by omega) e
    subst e
    exact s_countLive (by omega) hR kk
  · have e := nI_inj (by omega) (by omega) e
    subst e
    exact s_notes kk
  · have e := nI_inj (by omega) (by omega) e
    subst e
    exact s_countPaidBack (by omega) hR kk
  · have e := nI_inj (by omega) (by omega) e
    subst e
    exact s_tick kk
  · have e := nI_inj (by omega) (by omega) e
    subst e
    rw [cl (by omega)]
    exact ⟨vp_in_nI (by omega) (by omega), kk⟩
  · have e := nI_inj (by omega) (by omega) e
    subst e
    exact s_countConflicts (by omega) hR k
  · have h8 : 8 ≤ w := by
      rcases Nat.lt_or_ge w 8 with q | q
      · exact absurd rfl (e w q)
      · exact q
    rw [pk_sub h8]
    rw [if_neg (by omega), if_neg (by omega), if_neg (by omega), if_neg (by omega), if_neg (by omega), if_neg (by omega), if_neg (by omega)] at kk
    exact s_settingOf (by omega) kk
theorem s_phraseProperty {j w : Nat} (hd : 4 ≤ d) (hR : Row (σ.1 12) m p q) (hj : j < p) (hw : w < 7) (k : ∀ s, Fr PL FLk σ s → K (pprop (σ.1 12) p j w) s) : CTi mX2_phraseProperty d [.ref 1, .int (nI j), .int (nI w)] σ K := by
  obtain ⟨-, hm6, hp, hp20, -⟩ := id hR
  unfold pprop at k
  refine eX2_phraseProperty _ _ (by omega) ⟨fun e => s_phraseCell ?_, fun e => ?_⟩
  · have h6 : w < 6 := by
      rcases Nat.lt_or_ge w 6 with q | q
      · exact q
      · exact absurd (by rw [show w = 6 by omega]) e
    have kk := k σ Fr.rf
    rw [if_pos h6] at kk
    rw [cl (by omega)]
    exact ⟨vp_in_nI (by omega) (by omega), kk⟩
  · have e := nI_inj (by omega) (by omega) e
    subst e
    obtain ⟨l1, l2, l3⟩ := hR.len hj
    exact s_conflictsOf (p := p) (by omega) hp hp20 hj l1 l3 hR.lens k
end SPD
