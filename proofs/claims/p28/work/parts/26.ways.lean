/-! THE CHEAPEST WAY -/
abbrev Wy := Option (Nat × Nat × Nat)
def wst (fee k : Nat) (t o : Wy) : Wy := match t with
  | none => o
  | some w => match o with
    | none => some (w.1 + fee, w.2.1 + 1, k)
    | some v => if w.1 + fee < v.1 ∨ (w.1 + fee = v.1 ∧ w.2.1 + 1 < v.2.1) then some (w.1 + fee, w.2.1 + 1, k) else some v
def fN (c : Nat → Int32) (j k : Nat) : Nat := if owN c k = j then 0 else (c (10 + 2 * owN c k)).toNatClampNeg
/-- phrase k can stand at pl -/
def Sd (c : Nat → Int32) (u : Nat → Int32) (la pl k : Nat) : Prop := c (26 + 16 * k) = nI 1 ∧ StAt c k (lnN c k) u la pl
noncomputable def wrow (c : Nat → Int32) (j : Nat) (u : Nat → Int32) (la : Nat) (T : Nat → Wy) (pl : Nat) : Nat → Wy
  | 0 => none
  | k + 1 => by
    classical
    exact if Sd c u la pl k then wst (fN c j k) k (T (pl + lnN c k)) (wrow c j u la T pl k) else wrow c j u la T pl k
theorem wrow_t {c u : Nat → Int32} {j la pl k : Nat} {T : Nat → Wy} (h : Sd c u la pl k) : wrow c j u la T pl (k + 1) = wst (fN c j k) k (T (pl + lnN c k)) (wrow c j u la T pl k) := by
  exact if_pos h
theorem wrow_f {c u : Nat → Int32} {j la pl k : Nat} {T : Nat → Wy} (h : ¬ Sd c u la pl k) : wrow c j u la T pl (k + 1) = wrow c j u la T pl k := by
  exact if_neg h
noncomputable def wtab (c : Nat → Int32) (j : Nat) (u : Nat → Int32) (la p : Nat) : Nat → Nat → Wy
  | 0 => fun pl => if pl = la then some (0, 0, 0) else none
  | i + 1 => fun pl => if pl + (i + 1) = la then wrow c j u la (wtab c j u la p i) pl p else wtab c j u la p i pl
/-- what a table's ways keep -/
def OkW (c : Nat → Int32) (la p : Nat) (T : Nat → Wy) (pl : Nat) (w : Nat × Nat × Nat) : Prop := w.1 ≤ 200 * w.2.1 ∧ w.2.1 + pl ≤ la ∧ (pl < la → 1 ≤ w.2.1 ∧ w.2.2 < p ∧ 1 ≤ lnN c w.2.2 ∧ pl + lnN c w.2.2 ≤ la ∧ ∃ v, T (pl + lnN c w.2.2) = some v ∧ v.2.1 + 1 = w.2.1)
def OkT (c : Nat → Int32) (la p : Nat) (T : Nat → Wy) (lo : Nat) : Prop := ∀ pl, lo ≤ pl → pl ≤ la → ∀ w, T pl = some w → OkW c la p T pl w
theorem wst_or (fee k : Nat) (t o : Wy) : wst fee k t o = o ∨ ∃ w, t = some w ∧ wst fee k t o = some (w.1 + fee, w.2.1 + 1, k) := by
  cases t with
  | none => exact Or.inl rfl
  | some w =>
    cases o with
    | none => exact Or.inr ⟨w, rfl, rfl⟩
    | some v =>
      by_cases h : w.1 + fee < v.1 ∨ (w.1 + fee = v.1 ∧ w.2.1 + 1 < v.2.1)
      · exact Or.inr ⟨w, rfl, if_pos h⟩
      · exact Or.inl (if_neg h)
theorem fN_le {c : Nat → Int32} {m p q j k : Nat} (hR : Row c m p q) (hk : k < p) : fN c j k ≤ 200 ∧ feeV c j k 100 = nI (fN c j k) := by
  obtain ⟨ho, ho2⟩ := hR.own hk
  obtain ⟨pr, h1, h2⟩ := hR.2.2.2.2.2.2.2.2.2 (owN c k) ho2
  unfold fN feeV
  by_cases e : owN c k = j
  · rw [if_pos e, if_pos e]
    exact ⟨by omega, rfl⟩
  · rw [if_neg e, if_neg e, h2, cl (by omega), pk_mul, pk_div (by omega) (by omega) (by omega), Nat.mul_div_cancel _ (by omega)]
    exact ⟨h1, rfl⟩
theorem wrow_ok {c u : Nat → Int32} {m p q j la pl : Nat} {T : Nat → Wy} (hR : Row c m p q) (hpl : pl < la) (hT : OkT c la p T (pl + 1)) : ∀ k, k ≤ p → ∀ w, wrow c j u la T pl k = some w → OkW c la p T pl w := by
  intro k
  induction k with
  | zero => intro _ w h; cases h
  | succ k ih =>
    intro hk w h
    by_cases hs : Sd c u la pl k
    · rw [wrow_t hs] at h
      rcases wst_or (fN c j k) k (T (pl + lnN c k)) (wrow c j u la T pl k) with e | ⟨v, e1, e2⟩
      · rw [e] at h
        exact ih (by omega) w h
      · rw [e2] at h
        cases h
        have hl := (hR.len (show k < p by omega)).2.1
        have hle := hs.2.1
        obtain ⟨a1, a2, a3⟩ := hT _ (by omega) hle v e1
        have hf := (fN_le (j := j) hR (show k < p by omega)).1
        refine ⟨?_, ?_, fun _ => ⟨by show 1 ≤ v.2.1 + 1; omega, by show k < p; omega, hl, hle, v, e1, rfl⟩⟩
        · show v.1 + fN c j k ≤ 200 * (v.2.1 + 1)
          omega
        · show v.2.1 + 1 + pl ≤ la
          omega
    · rw [wrow_f hs] at h
      exact ih (by omega) w h
theorem wtab_same {c u : Nat → Int32} {j la p i pl : Nat} (h : ¬ pl + (i + 1) = la) : wtab c j u la p (i + 1) pl = wtab c j u la p i pl := if_neg h
theorem wtab_new {c u : Nat → Int32} {j la p i pl : Nat} (h : pl + (i + 1) = la) : wtab c j u la p (i + 1) pl = wrow c j u la (wtab c j u la p i) pl p := if_pos h
theorem wtab_ok {c u : Nat → Int32} {m p q j la : Nat} (hR : Row c m p q) : ∀ i, i ≤ la → OkT c la p (wtab c j u la p i) (la - i) := by
  intro i
  induction i with
  | zero =>
    intro _ pl h1 h2 w h
    have e : pl = la := by omega
    subst e
    rw [show wtab c j u pl p 0 pl = some (0, 0, 0) from if_pos rfl] at h
    cases h
    exact ⟨by omega, by show 0 + pl ≤ pl; omega, fun g => absurd g (by omega)⟩
  | succ i ih =>
    intro hi pl h1 h2 w h
    have g := ih (by omega)
    have up : ∀ x, OkW c la p (wtab c j u la p i) pl x → OkW c la p (wtab c j u la p (i + 1)) pl x := fun x ⟨a1, a2, a3⟩ => ⟨a1, a2, fun q => by
      obtain ⟨b1, b2, b3, b4, v, b5, b6⟩ := a3 q
      exact ⟨b1, b2, b3, b4, v, by rw [wtab_same (by omega)]; exact b5, b6⟩⟩
    by_cases e : pl + (i + 1) = la
    · rw [wtab_new e] at h
      refine up w (wrow_ok hR (by omega) ?_ p (Nat.le_refl _) w h)
      rw [show pl + 1 = la - i by omega]
      exact g
    · rw [wtab_same e] at h
      exact up w (g pl (by omega) h2 w h)
def Cel (x y : Int32) (o : Wy) : Prop := match o with
  | none => x = (-1000000) ∧ y = nI 0
  | some w => x = nI w.1 ∧ y = nI w.2.1
/-- a table of the class, of the reference, from a place on -/
def TA (c : Nat → Int32) (s : SS) (T : Nat → Wy) (lo la : Nat) : Prop := ∀ pl, lo ≤ pl → pl ≤ la → Cel (s.1 33 pl) (s.1 34 pl) (T pl) ∧ (pl < la → ∀ w, T pl = some w → s.1 35 pl = nI w.2.2 ∧ s.1 36 pl = nI (pl + lnN c w.2.2))
def Cur (c : Nat → Int32) (s : SS) (o : Wy) (pl : Nat) : Prop := Cel (s.1 33 pl) (s.1 34 pl) o ∧ ∀ w, o = some w → s.1 35 pl = nI w.2.2 ∧ s.1 36 pl = nI (pl + lnN c w.2.2)
theorem nnI {a b : Nat} (h : ¬ a < b) (ha : a < 2 ^ 31) : ¬ nI a < nI b := Int32.not_lt.mpr (nI_le (by omega) ha)
theorem pm1 (x : Int32) : x + (-1) = x - nI 1 := by
  rw [Int32.sub_eq_add_neg]
  rfl
section WAYS
variable {d : Nat} {σ : SS} {K : Int32 → SS → Prop} {Kv : SS → Prop} {c bb u : Nat → Int32} {m p q n z la j : Nat} {H : Nat → Nat → Int32}
theorem s_isPlace {pl : Nat} (hend : σ.2.1 4 = nI la) (hla : la ≤ 10) (hle : pl ≤ la) (h : K (nI 1) σ) : CTi mX4_isPlace d [.ref 5, .int (nI pl)] σ K := eX4_isPlace _ (br_f (nI_pos (by omega)) (by
  rw [hend]
  exact br_f (nI_nlt hle (by omega)) h))
theorem s_offer {pl k lb fee : Nat} {t o : Wy} (hd : 1 ≤ d) (hend : σ.2.1 4 = nI la) (hla : la ≤ 10) (hle : pl + lb ≤ la) (hfee : fee ≤ 200) (ct : Cel (σ.1 33 (pl + lb)) (σ.1 34 (pl + lb)) t) (co : Cel (σ.1 33 pl) (σ.1 34 pl) o) (bt : ∀ w, t = some w → w.1 ≤ 2000 ∧ w.2.1 ≤ 10) (bo : ∀ w, o = some w → w.1 ≤ 2000 ∧ w.2.1 ≤ 10) (hk : wst fee k t o = o → Kv σ) (hu : ∀ w, t = some w → wst fee k t o = some (w.1 + fee, w.2.1 + 1, k) → Kv (sA (sA (sA (sA σ 33 pl (nI (w.1 + fee))) 34 pl (nI (w.2.1 + 1))) 35 pl (nI k)) 36 pl (nI (pl + lb)))) : CTv mX4_offer d [.ref 5, .int (nI pl), .int (nI k), .int (nI lb), .int (nI fee)] σ Kv := by
  refine eX4_offer _ _ _ _ hd (s_isPlace hend hla (by omega) (br_f one_ne ?_))
  rw [nI_add, cl (n := pl + lb) (by omega), cl (n := pl) (by omega)]
  have v1 : vp_in (nI (pl + lb)) 11 := vp_in_nI (by omega) (by omega)
  have v2 : vp_in (nI pl) 11 := vp_in_nI (by omega) (by omega)
  refine s_isPlace hend hla hle (br_f one_ne ⟨v1, ?_⟩)
  cases t with
  | none =>
    rw [ct.1]
    exact br_nf rfl (hk rfl)
  | some w =>
    obtain ⟨b1, b2⟩ := bt w rfl
    obtain ⟨e1, e2⟩ := ct
    rw [e1, e2, nI_add, nI_add, Nat.add_comm fee w.1, Nat.add_comm 1 w.2.1]
    refine br_nt (nI_neN (by omega)) ⟨v1, v1, v2, ?_⟩
    cases o with
    | none =>
      rw [co.1]
      exact br_t rfl ⟨v2, v2, v2, v2, hu w rfl rfl⟩
    | some v =>
      obtain ⟨b3, b4⟩ := bo v rfl
      obtain ⟨e3, e4⟩ := co
      rw [e3, e4]
      refine br_f (nI_neN (by omega)) ⟨v2, ?_⟩
      by_cases h1 : w.1 + fee < v.1
      · exact br_t (nI_lt h1 (by omega)) ⟨v2, v2, v2, v2, hu w rfl (if_pos (Or.inl h1))⟩
      · refine br_f (nnI h1 (by omega)) ⟨v2, ?_⟩
        by_cases h2 : w.1 + fee = v.1
        · refine br_nf (by rw [h2]) ⟨v2, ?_⟩
          by_cases h3 : w.2.1 + 1 < v.2.1
          · exact br_f (nI_ge h3 (by omega)) ⟨v2, v2, v2, v2, hu w rfl (if_pos (Or.inr ⟨h2, h3⟩))⟩
          · exact br_t (nI_le (by omega) (by omega)) (hk (if_neg (by omega)))
        · exact br_nt (nI_neq (by omega) (by omega) h2) (hk (if_neg (by omega)))
theorem Cur.put {s : SS} {k pl : Nat} {x : Nat × Nat × Nat} (h : x.2.2 = k) : Cur c (sA (sA (sA (sA s 33 pl (nI x.1)) 34 pl (nI x.2.1)) 35 pl (nI k)) 36 pl (nI (pl + lnN c k))) (some x) pl := by
  refine ⟨⟨?_, ?_⟩, fun w hw => ?_⟩
  · rw [sA_ne _ _ _ (by omega), sA_ne _ _ _ (by omega), sA_ne _ _ _ (by omega), sA_at, upd_at]
  · rw [sA_ne _ _ _ (by omega), sA_ne _ _ _ (by omega), sA_at, upd_at]
  · cases hw
    subst h
    refine ⟨?_, ?_⟩
    · rw [sA_ne _ _ _ (by omega), sA_at, upd_at]
    · rw [sA_at, upd_at]
theorem TA.put {s : SS} {T : Nat → Wy} {pl : Nat} {x y v w : Int32} (h : TA c s T (pl + 1) la) : TA c (sA (sA (sA (sA s 33 pl x) 34 pl y) 35 pl v) 36 pl w) T (pl + 1) la := fun k k1 k2 => by
  have g := h k k1 k2
  rw [sA_ne _ _ _ (show 33 ≠ 36 by omega), sA_ne _ _ _ (show 33 ≠ 35 by omega), sA_ne _ _ _ (show 33 ≠ 34 by omega), sA_at, sA_ne _ _ _ (show 34 ≠ 36 by omega), sA_ne _ _ _ (show 34 ≠ 35 by omega), sA_at, sA_ne _ _ _ (show 34 ≠ 33 by omega), sA_ne _ _ _ (show 35 ≠ 36 by omega), sA_at, sA_ne _ _ _ (show 35 ≠ 34 by omega), sA_ne _ _ _ (show 35 ≠ 33 by omega), sA_at, sA_ne _ _ _ (show 36 ≠ 35 by omega), sA_ne _ _ _ (show 36 ≠ 34 by omega), sA_ne _ _ _ (show 36 ≠ 33 by omega), upd_ne _ _ (by omega), upd_ne _ _ (by omega), upd_ne _ _ (by omega), upd_ne _ _ (by omega)]
  exact g
theorem TA.fr {s t : SS} {T : Nat → Wy} {lo : Nat} (h : TA c s T lo la) (e : ∀ r, 33 ≤ r → r < 37 → t.1 r = s.1 r) : TA c t T lo la := fun k k1 k2 => by
  have g := h k k1 k2
  rw [e 33 (by omega) (by omega), e 34 (by omega) (by omega), e 35 (by omega) (by omega), e 36 (by omega) (by omega)]
  exact g
theorem fr4 {s : SS} (pl : Nat) {x y v w : Int32} : Fr PC FC s (sA (sA (sA (sA s 33 pl x) 34 pl y) 35 pl v) 36 pl w) := (Fr.sA rfl).tr ((Fr.sA rfl).tr ((Fr.sA rfl).tr (Fr.sA rfl)))
theorem s_findWays {n : Nat} (hd : 4 ≤ d) (hR : Row (σ.1 12) m p q) (hn : n ≤ 40) (hl : σ.2.1 2 = nI n) (hok : TxtOK (σ.1 31) n) (hj : j < m) (k : ∀ s, Fr PC FC σ s → TA (σ.1 12) s (wtab (σ.1 12) j (tw (σ.1 31) n) (lw (σ.1 31) n).length p (lw (σ.1 31) n).length) 0 (lw (σ.1 31) n).length → Kv s) : CTv mX6_findWays d [.ref 0, .int (nI j)] σ Kv := by
  obtain ⟨hm, hm6, hp, hp20, -⟩ := id hR
  refine eX6_findWays _ (by omega) (s_readText Sen4 (by omega) hn hl hok (fun s0 f0 g1 g2 => ?_))
  have h10 := hok.2.2
  generalize hu : tw (σ.1 31) n = u at k g2
  generalize hla : (lw (σ.1 31) n).length = la at k g1 g2 h10
  rw [g1]
  refine eX4_start _ (by omega) ?_
  rw [imin (x := la) (y := 10) (by omega) (by omega), Nat.min_eq_left h10, imax (x := 0) (y := la) (by omega) (by omega), Nat.max_eq_right (Nat.zero_le la), sF_at]
  refine eX4_open _ (by omega) (s_isPlace (sF_at _ _ _) h10 (Nat.le_refl _) (br_f one_ne ?_))
  have f0' : Fr PC FC σ s0 := f0.one rfl rfl
  simp (disch := omega) only [sF_at, sA_f, cl]
  refine ⟨vp_in_nI (by omega) (by omega), vp_in_nI (by omega) (by omega), vp_in_nI (by omega) (by omega), vp_in_nI (by omega) (by omega), vp_in_nI (by omega) (by omega), ?_⟩
  rw [sF_ne _ _ (by omega), g1]
  have start : ∀ s, Fr PC FC s0 s → s.2.1 4 = nI la → s.2.1 3 = nI la → s.1 32 = s0.1 32 → TA (σ.1 12) s (wtab (σ.1 12) j u la p 0) (la - 0) la → VV mX6_findWays d s00 35 [some (.ref 0), some (.int (nI j)), some (.int (nI (la - 0) - nI 1)), none] [] s (Qv Kv) := fun s fs h4 h3 h32 ht => by
    refine cup (I := fun i s => Fr PC FC σ s ∧ s.2.1 4 = nI la ∧ s.2.1 3 = nI la ∧ s.1 32 = s0.1 32 ∧ TA (σ.1 12) s (wtab (σ.1 12) j u la p i) (la - i) la) (G := fun i s => VV mX6_findWays d s00 35 [some (.ref 0), some (.int (nI j)), some (.int (nI (la - i) - nI 1)), none] [] s (Qv Kv)) la ?_ ?_ 0 (Nat.zero_le _) s ⟨f0'.tr fs, h4, h3, h32, ht⟩
    · intro s ⟨fs, _, _, _, ht⟩
      rw [Nat.sub_self] at ht ⊢
      exact bX6_findWays_35 _ _ (by omega) (br_t (by decide) (k s fs ht))
    · intro i hi ih s ⟨fs, h4, h3, h32, ht⟩
      generalize hpl : la - (i + 1) = pl at ih
      have hpl2 : la - i = pl + 1 := by omega
      rw [hpl2] at ht ⊢
      rw [pk_sub (by omega), Nat.add_sub_cancel]
      refine bX6_findWays_35 _ _ (by omega) (br_f (nI_pos (by omega)) (eX4_open _ (by omega) (s_isPlace h4 h10 (by omega) (br_f one_ne ?_))))
      simp (disch := omega) only [cl, sA_f, h4]
      refine ⟨vp_in_nI (by omega) (by omega), vp_in_nI (by omega) (by omega), vp_in_nI (by omega) (by omega), vp_in_nI (by omega) (by omega), ?_⟩
      refine cup (I := fun v t => Fr PC FC s t ∧ t.2.1 4 = nI la ∧ t.2.1 3 = nI la ∧ t.1 32 = s0.1 32 ∧ TA (σ.1 12) t (wtab (σ.1 12) j u la p i) (pl + 1) la ∧ Cur (σ.1 12) t (wrow (σ.1 12) j u la (wtab (σ.1 12) j u la p i) pl v) pl) (G := fun v t => VV mX6_findWays d s00 49 [some (.ref 0), some (.int (nI j)), some (.int (nI pl)), some (.int (nI v))] [] t (Qv Kv)) p ?_ ?_ 0 (Nat.zero_le _) _ ⟨fr4 pl, h4, h3, ?_, ht.put, ⟨⟨?_, ?_⟩, fun w hw => by cases hw⟩⟩
      · intro t ⟨ft, t4, t3, t32, tt, tc⟩
        refine bX6_findWays_49 _ _ _ (by omega) (s_phrases ?_)
        have e12 : t.1 12 = σ.1 12 := (ft.1 12 rfl).trans (fs.1 12 rfl)
        rw [e12, hp, pm1]
        refine br_t (nI_le (Nat.le_refl _) (by omega)) (ih t ⟨fs.tr ft, t4, t3, t32, fun y y1 y2 => ?_⟩)
        by_cases e : y = pl
        · subst e
          rw [wtab_new (by omega)]
          exact ⟨tc.1, fun _ => tc.2⟩
        · rw [wtab_same (by omega)]
          exact tt y (by omega) y2
      · intro v hv iv t ⟨ft, t4, t3, t32, tt, tc⟩
        have e12 : t.1 12 = σ.1 12 := (ft.1 12 rfl).trans (fs.1 12 rfl)
        obtain ⟨l1, l2, l3⟩ := hR.len hv
        refine bX6_findWays_49 _ _ _ (by omega) (s_phrases ?_)
        rw [e12, hp, nI_add]
        have keep : ¬ Sd (σ.1 12) u la pl v → VV mX6_findWays d s00 49 [some (.ref 0), some (.int (nI j)), some (.int (nI pl)), some (.int (nI (v + 1)))] [] t (Qv Kv) := fun hs => iv t ⟨ft, t4, t3, t32, tt, by rw [wrow_f hs]; exact tc⟩
        refine br_f (nI_ge hv (by omega)) (s_isLive (by omega) (by omega) (fun hl => br_f one_ne ?_) (fun hl => br_t rfl (keep (fun h => hl (by rw [e12]; exact h.1)))))
        rw [e12] at hl
        refine s_standsAt (u := u) Sen4 (by omega) (by omega) h10 l3 (by omega) t3 (fun i hi => by rw [t32]; exact g2 i hi) (by rw [e12]; exact l1) (fun hs => br_f one_ne (s_lengthOf (by omega) (by omega) ?_)) (fun hs => br_t rfl (keep (fun h => hs (by rw [e12]; exact h.2))))
        rw [e12] at hs ⊢
        rw [l1]
        have hsd : Sd (σ.1 12) u la pl v := ⟨hl, hs⟩
        refine s_feeV (m := m) (p := p) (q := q) (by omega) (by rw [e12]; exact hR) hj hv ?_
        rw [e12, (fN_le (j := j) hR hv).2]
        have hT := wtab_ok (u := u) (j := j) (la := la) hR i (by omega)
        rw [hpl2] at hT
        have hle := hs.1
        have nx := iv
        rw [wrow_t hsd] at nx
        refine s_offer (la := la) (t := wtab (σ.1 12) j u la p i (pl + lnN (σ.1 12) v)) (o := wrow (σ.1 12) j u la (wtab (σ.1 12) j u la p i) pl v) (by omega) t4 h10 hle (fN_le hR hv).1 (tt _ (by omega) hle).1 tc.1 (fun w hw => ?_) (fun w hw => ?_) (fun e => ?_) (fun w hw e => ?_)
        · obtain ⟨a1, a2, -⟩ := hT _ (by omega) hle w hw
          omega
        · obtain ⟨a1, a2, -⟩ := wrow_ok (j := j) hR (by omega) hT v (by omega) w hw
          omega
        · rw [e] at nx
          exact nx t ⟨ft, t4, t3, t32, tt, tc⟩
        · rw [e] at nx
          have c2 := Cur.put (c := σ.1 12) (s := t) (pl := pl) (x := (w.1 + fN (σ.1 12) j v, w.2.1 + 1, v)) rfl
          have t2 := tt.put (x := nI (w.1 + fN (σ.1 12) j v)) (y := nI (w.2.1 + 1)) (v := nI v) (w := nI (pl + lnN (σ.1 12) v))
          have e32 : (sA (sA (sA (sA t 33 pl (nI (w.1 + fN (σ.1 12) j v))) 34 pl (nI (w.2.1 + 1))) 35 pl (nI v)) 36 pl (nI (pl + lnN (σ.1 12) v))).1 32 = s0.1 32 := by
            rw [sA_ne _ _ _ (by omega), sA_ne _ _ _ (by omega), sA_ne _ _ _ (by omega), sA_ne _ _ _ (by omega)]
            exact t32
          exact nx _ ⟨ft.tr (fr4 pl), t4, t3, e32, t2, c2⟩
      · rw [sA_ne _ _ _ (by omega), sA_ne _ _ _ (by omega), sA_ne _ _ _ (by omega), sA_ne _ _ _ (by omega)]
        exact h32
      · rw [sA_ne _ _ _ (by omega), sA_ne _ _ _ (by omega), sA_ne _ _ _ (by omega), sA_at, upd_at]
      · rw [sA_ne _ _ _ (by omega), sA_ne _ _ _ (by omega), sA_at, upd_at]
  refine start _ ((Fr.sF rfl).tr ((Fr.sA rfl).tr ((Fr.sA rfl).tr ((Fr.sA rfl).tr ((Fr.sA rfl).tr (Fr.sA rfl)))))) rfl g1 ?_ (fun pl h1 h2 => ?_)
  · simp (disch := omega) only [sA_ne, sF_a]
  · have e : pl = la := by omega
    subst e
    rw [show wtab (σ.1 12) j u pl p 0 pl = some (0, 0, 0) from if_pos rfl]
    refine ⟨⟨?_, ?_⟩, fun g => absurd g (by omega)⟩
    · rw [sA_at, upd_at]
    · simp (disch := omega) only [sA_ne, sA_at, upd_at]
end WAYS
