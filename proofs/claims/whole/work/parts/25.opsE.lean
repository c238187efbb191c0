/-! RETRACT and WOULD-PAY-BACK -/
theorem mm1 (y : Int32) : (-1) * y = -y := by rw [Int32.neg_mul, Int32.one_mul]
theorem sub_mm (x y : Int32) : x - (-1) * y = x + y := by rw [mm1, Int32.sub_neg]
theorem add_mm (x y : Int32) : x + (-1) * y = x - y := by rw [mm1, Int32.sub_eq_add_neg]
theorem mvm_up {g : Nat → Int32} {b j m : Nat} {s x : Int32} (hm : m ≤ 6) (hj : j < m) (hb : 22 ≤ b) (k : Nat) : mvm (upd g (b + 5) x) b j s m k = upd (mvm g b j s m) (b + 5) x k := by
  by_cases e : k = b + 5
  · rw [e, mvm_out hm hj (Or.inl (by omega)), upd_at, upd_at]
  · rw [upd_ne _ _ e]
    exact mvm_cell (upd_ne _ _ e) (upd_ne _ _ (by omega)) (upd_ne _ _ (by omega)) (fun t _ => upd_ne _ _ (by omega))
section OPE
variable {d : Nat} {σ : SS} {K : Int32 → SS → Prop} {Kv : SS → Prop} {c bb : Nat → Int32} {m p q n z : Nat} {H : Nat → Nat → Int32}
theorem t_ends {o : Nat} (hd : 3 ≤ d) (hc : MC σ c) (hR : Row c m p q) (ho : o < p) (k : ∀ s, Fr PM FM σ s → Ft c o (s.1 41) p → K (nI (cntP (Mk c o) p)) s) : CTi mX7_ends d [.ref 11, .int (nI o)] σ K := by
  have hp := hR.2.2.1
  have hp20 := hR.2.2.2.1
  refine eX7_ends _ ?_
  refine cup (I := fun i s => Fr PM FM σ s ∧ Ar (s.1 41) (fun j => j = o) i) (G := fun i s => VV mX7_ends d s00 2 [some (.ref 11), some (.int (nI o)), some (.int (nI i)), none, none] [] s (Qi K)) 20 ?_ ?_ 0 (Nat.zero_le _) _ ⟨Fr.rf, fun j hj => absurd hj (by omega)⟩
  · intro s ⟨f, g⟩
    refine bX7_ends_2 _ _ (br_t (nI_le (Nat.le_refl _) (by omega)) ?_)
    refine cup (I := fun i s => Fr PM FM σ s ∧ Ft c o (s.1 41) i ∧ ∀ j, i ≤ j → j < 20 → (j = o → s.1 41 j = nI 1) ∧ (¬ j = o → s.1 41 j = nI 0)) (G := fun i s => VV mX7_ends d s00 34 [some (.ref 11), some (.int (nI o)), some (.int (nI (cntP (fun j => ¬ j = o ∧ Mk c o j) i + 1))), some (.int (nI i)), none] [] s (Qi K)) p ?_ ?_ 0 (Nat.zero_le _) _ ⟨f, fun j hj => absurd hj (by omega), fun j _ hj => g j hj⟩
    · intro s ⟨f, g1, g2⟩
      refine bX7_ends_34 _ _ _ (by omega) ⟨vp_in_nI (by omega) (by omega), ?_⟩
      rw [cl (by omega), (hc.fr f rfl) 1 (by omega), hp, ← cntP_add (P := fun j => ¬ j = o ∧ Mk c o j) (Q := Mk c o) (o := o) p ho (fun h => h.1 rfl) (fun x _ => ⟨fun h => by
        by_cases e : x = o
        · exact Or.inr e
        · exact Or.inl ⟨e, h⟩, fun h => h.elim (fun h => h.2) (fun h => by rw [h]; exact Mk_o)⟩)]
      exact br_t (nI_le (Nat.le_refl _) (by omega)) (k s f g1)
    · intro i hi ih s ⟨f, g1, g2⟩
      have hcs := hc.fr f rfl
      refine bX7_ends_34 _ _ _ (by omega) ⟨vp_in_nI (by omega) (by omega), ?_⟩
      rw [cl (n := 1) (by omega), hcs 1 (by omega), hp, nI_add]
      -- nothing is written at i
      have keep : (Mk c o i ↔ i = o) → (HP c o i → i = o) → VV mX7_ends d s00 34 [some (.ref 11), some (.int (nI o)), some (.int (nI (cntP (fun j => ¬ j = o ∧ Mk c o j) i + 1))), some (.int (nI (i + 1))), none] [] s (Qi K) := fun h1 h2 => by
        have r := ih s ⟨f, fun j hj => ?_, fun j k1 k2 => g2 j (by omega) k2⟩
        · rw [cntP_f (fun h => h.1 (h1.mp h.2))] at r
          exact r
        · rcases Nat.lt_or_ge j i with e | e
          · exact g1 j e
          · have e : j = i := by omega
            subst e
            have g := g2 j (Nat.le_refl _) (by omega)
            exact ⟨fun w => g.1 (h1.mp w), fun w1 w2 => absurd (h1.mpr (h2 w2)) w1, fun w1 _ => g.2 (fun e => w1 (h1.mpr e))⟩
      refine br_f (nI_ge hi (by omega)) (t_of hcs (by omega) (by omega) ?_)
      rw [show 22 + 16 * i + 3 = 25 + 16 * i by omega]
      refine ⟨fun e => keep ?_ ?_, fun hne => t_of hcs (by omega) (by omega) ?_⟩
      · have e := nI_inj (by omega) (by omega) e
        exact ⟨fun _ => e, fun _ => by rw [e]; exact Mk_o⟩
      · have e := nI_inj (by omega) (by omega) e
        exact fun _ => e
      have ne : ¬ i = o := fun e => hne (congrArg nI e)
      rw [show 22 + 16 * i + 4 = 26 + 16 * i by omega]
      refine ⟨fun hl => keep ⟨fun h => ((Mk_iff.mp h).resolve_right (fun h => hl h.1)), fun h => absurd h ne⟩ (fun h => absurd h.1 hl), fun hl => ?_⟩
      refine ⟨fun hpa => keep ⟨fun h => ((Mk_iff.mp h).resolve_right (fun ⟨_, a, ha, e, _⟩ => nI_neN (by omega) (e.symm.trans hpa))), fun h => absurd h ne⟩ (fun ⟨_, a, ha, e, _⟩ => absurd (e.symm.trans hpa) (nI_neN (by omega))), fun hpa => ?_⟩
      obtain ⟨a, ha, e⟩ := (hR.par hi).resolve_left hpa
      rw [e, cl (n := a) (by omega)]
      have un : ∀ a', a' < i → c (25 + 16 * i) = nI a' → a' = a := fun a' h1 h2 => nI_inj (by omega) (by omega) (h2.symm.trans e)
      refine ⟨vp_in_nI (by omega) (by omega), fun hm => keep ⟨fun h => ((Mk_iff.mp h).resolve_right (fun ⟨_, a', ha', e', h', _⟩ => hm ((g1 a ha).1 (by rw [← un a' ha' e']; exact h')))), fun h => absurd h ne⟩ (fun ⟨_, a', ha', e', h'⟩ => absurd ((g1 a ha).1 (by rw [← un a' ha' e']; exact h')) hm), fun hm => ?_⟩
      have hmk : Mk c o a := by
        by_cases w : Mk c o a
        · exact w
        · exfalso
          by_cases w2 : HP c o a
          · rw [(g1 a ha).2.1 w w2] at hm
            exact absurd hm (by decide)
          · rw [(g1 a ha).2.2 w w2] at hm
            exact absurd hm (by decide)
      have hHP : HP c o i := ⟨hl, a, ha, e, hmk⟩
      obtain ⟨l1, l2, l3⟩ := hR.len hi
      obtain ⟨l4, l5, l6⟩ := hR.len (show a < p by omega)
      refine t_scoreOf (by omega) hcs (by omega) (by omega) l2 l3 l6 l1 l4 (fun t ft => ⟨vp_in_nI (by omega) (by omega), ?_⟩)
      have et : t.1 41 = s.1 41 := ft.1 41 rfl
      rw [cl (n := 9) (by omega), (hcs.fr ft rfl) 9 (by omega), cl (n := i) (by omega), sA_at, upd_at, sA_at, upd_at]
      refine ⟨fun hlt => ⟨vp_in_nI (by omega) (by omega), vp_in_nI (by omega) (by omega), br_nt (by decide) ?_⟩, fun hge => ⟨vp_in_nI (by omega) (by omega), vp_in_nI (by omega) (by omega), br_nf rfl ?_⟩⟩
      · have hn : ¬ Mk c o i := fun h => by
          obtain ⟨_, a', ha', e', _, h'⟩ := (Mk_iff.mp h).resolve_left ne
          rw [un a' ha' e'] at h'
          exact h' hlt
        have r := ih (sA t 41 i (nI 2)) ⟨(f.tr ft.SM).tr (Fr.sA rfl), fun j hj => ?_, fun j k1 k2 => ?_⟩
        · rw [cntP_f (fun h => hn h.2)] at r
          rw [add0]
          exact r
        · rw [sA_at, et]
          by_cases ej : j = i
          · subst ej
            rw [upd_at]
            exact ⟨fun w => absurd w hn, fun _ _ => rfl, fun _ w => absurd hHP w⟩
          · rw [upd_ne _ _ ej]
            exact g1 j (by omega)
        · rw [sA_at, et, upd_ne _ _ (by omega)]
          exact g2 j (by omega) k2
      · have hy : Mk c o i := Mk_iff.mpr (Or.inr ⟨hl, a, ha, e, hmk, hge⟩)
        have r := ih (sA t 41 i (nI 1)) ⟨(f.tr ft.SM).tr (Fr.sA rfl), fun j hj => ?_, fun j k1 k2 => ?_⟩
        · rw [cntP_t (P := fun j => ¬ j = o ∧ Mk c o j) ⟨ne, hy⟩] at r
          rw [nI_add]
          exact r
        · rw [sA_at, et]
          by_cases ej : j = i
          · subst ej
            rw [upd_at]
            exact ⟨fun _ => rfl, fun w => absurd hy w, fun w => absurd hy w⟩
          · rw [upd_ne _ _ ej]
            exact g1 j (by omega)
        · rw [sA_at, et, upd_ne _ _ (by omega)]
          exact g2 j (by omega) k2
  · intro i hi ih s ⟨f, g⟩
    refine bX7_ends_2 _ _ (br_f (nI_ge hi (by omega)) ?_)
    rw [cl (by omega), nI_add]
    refine ⟨fun hne => ⟨vp_in_nI (by omega) (by omega), ih _ ⟨f.tr (Fr.sA rfl), fun j hj => ?_⟩⟩, fun he => ⟨vp_in_nI (by omega) (by omega), ih _ ⟨f.tr (Fr.sA rfl), fun j hj => ?_⟩⟩⟩
    · rw [sA_at]
      by_cases e : j = i
      · subst e
        rw [upd_at]
        exact ⟨fun g => absurd (congrArg nI g) hne, fun _ => rfl⟩
      · rw [upd_ne _ _ e]
        exact g j (by omega)
    · have e0 := nI_inj (by omega) (by omega) he
      rw [sA_at]
      by_cases e : j = i
      · subst e
        rw [upd_at]
        exact ⟨fun _ => rfl, fun g => absurd e0 g⟩
      · rw [upd_ne _ _ e]
        exact g j (by omega)
theorem t_goesBack {o k : Nat} {f : Nat → Int32} (hd : 1 ≤ d) (hc : MC σ f) (hk : k < q) (hR : Row c m p q) (hA : Ft c o (σ.1 41) p) (e1 : f (347 + 13 * k) = c (347 + 13 * k)) (e2 : f (343 + 13 * k) = c (343 + 13 * k)) (e3 : f (346 + 13 * k) = c (346 + 13 * k)) (e4 : f 3 = c 3) (e5 : f 8 = c 8) (h1 : Owd c o k → K (nI 1) σ) (h0 : ¬ Owd c o k → K (nI 0) σ) : CTi mX7_goesBack d [.ref 11, .int (nI k)] σ K := by
  have hq24 := hR.2.2.2.2.2.1
  have hp20 := hR.2.2.2.1
  obtain ⟨h, hh, eh⟩ := (hR.2.2.2.2.2.2.2.1 k hk).2.1
  have em : (c (343 + 13 * k)).toNatClampNeg = h := by rw [eh, cl (by omega)]
  refine eX7_goesBack _ (by omega) (t_ofNote (k := 5) hc (by omega) (by omega) ?_)
  rw [show 342 + 13 * k + 5 = 347 + 13 * k by omega, e1]
  rcases hR.paid hk with e | e
  · rw [e]
    refine br_nf rfl (t_ofNote (k := 1) hc (by omega) (by omega) ?_)
    rw [show 342 + 13 * k + 1 = 343 + 13 * k by omega, e2, eh, cl (n := h) (by omega)]
    refine ⟨vp_in_nI (by omega) (by omega), fun g => h0 (fun w => ?_), fun g => t_ofNote (k := 4) hc (by omega) (by omega) ⟨vp_in_nI (by omega) (by omega), vp_in_nI (by omega) (by omega), ?_⟩⟩
    · have := w.2.1
      rw [em] at this
      exact g ((hA h hh).1 this)
    · have hm : Mk c o h := by
        by_cases w : Mk c o h
        · exact w
        · exfalso
          by_cases w2 : HP c o h
          · rw [(hA h hh).2.1 w w2] at g
            exact absurd g (by decide)
          · rw [(hA h hh).2.2 w w2] at g
            exact absurd g (by decide)
      rw [show 342 + 13 * k + 4 = 346 + 13 * k by omega, e3, cl (n := 3) (by omega), cl (n := 8) (by omega), hc 3 (by omega), hc 8 (by omega), e4, e5]
      refine ⟨fun g3 => h0 (fun w => w.2.2 g3), fun g3 => h1 ⟨fun w => ?_, ?_, g3⟩⟩
      · rw [e] at w
        exact absurd w (by decide)
      · rw [em]
        exact hm
  · rw [e]
    exact br_nt one_ne (h0 (fun w => w.1 e))
theorem t_wpb {o : Nat} {v1 v2 : Int32} (hd : 2 ≤ d) (hc : MC σ c) (hR : Row c m p q) (hA : Ft c o (σ.1 41) p) (k : K (sumP (Owd c o) (fun k => c (345 + 13 * k)) q) σ) : VV mX7_wouldPayBack d s00 34 [some (.ref 11), some (.int v1), some (.int v2), some (.int (nI 0)), some (.int (nI 0))] [] σ (Qi K) := by
  have hq := hR.2.2.2.2.1
  have hq24 := hR.2.2.2.2.2.1
  refine cup (I := fun i (_ : SS) => True) (G := fun i _ => VV mX7_wouldPayBack d s00 34 [some (.ref 11), some (.int v1), some (.int v2), some (.int (sumP (Owd c o) (fun k => c (345 + 13 * k)) i)), some (.int (nI i))] [] σ (Qi K)) q ?_ ?_ 0 (Nat.zero_le _) σ trivial
  · intro _ _
    refine bX7_wouldPayBack_34 _ _ _ _ (by omega) ⟨vp_in_nI (by omega) (by omega), ?_⟩
    rw [cl (n := 2) (by omega), hc 2 (by omega), hq]
    exact br_t (nI_le (Nat.le_refl _) (by omega)) k
  · intro i hi ih _ _
    refine bX7_wouldPayBack_34 _ _ _ _ (by omega) ⟨vp_in_nI (by omega) (by omega), ?_⟩
    rw [cl (n := 2) (by omega), hc 2 (by omega), hq, nI_add, add0]
    refine br_f (nI_ge hi (by omega)) (t_goesBack (by omega) hc hi hR hA rfl rfl rfl rfl rfl (fun g => br_f one_ne (t_ofNote (k := 3) hc (by omega) (by omega) ?_)) (fun g => br_t rfl ?_))
    · have e := ih σ trivial
      rw [sumP_t g] at e
      rw [show 342 + 13 * i + 3 = 345 + 13 * i by omega]
      exact e
    · have e := ih σ trivial
      rw [sumP_f g] at e
      exact e
/-- the row after the endings -/
theorem t_ret35 {o : Nat} {v1 v2 : Int32} {t : SS} (hd : 1 ≤ d) (ht : MS t c bb n z H) (hR : Row c m p q) (hA : Ft c o (t.1 41) p) (k : ∀ t', FrB t t' → t'.1 41 = t.1 41 → MS t' (eRs c o c p) bb n z H → VV mX7_retract d s00 122 [some (.ref 11), some (.int v1), some (.int v2), some (.int (nI 0)), none] [] t' (Qi K)) : VV mX7_retract d s00 35 [some (.ref 11), some (.int v1), some (.int v2), some (.int (nI 0)), none] [] t (Qi K) := by
  obtain ⟨hm, hm6, hp, hp20, hq, hq24, -⟩ := id hR
  refine cup (I := fun i s => FrB t s ∧ s.1 41 = t.1 41 ∧ MS s (eRs c o c i) bb n z H) (G := fun i s => VV mX7_retract d s00 35 [some (.ref 11), some (.int v1), some (.int v2), some (.int (nI i)), none] [] s (Qi K)) p ?_ ?_ 0 (Nat.zero_le _) t ⟨FrB.rf, rfl, ht⟩
  · intro s ⟨fb, f41, ms⟩
    refine bX7_retract_35 _ _ _ hd ⟨vp_in_nI (by omega) (by omega), ?_⟩
    rw [cl (n := 1) (by omega), ms.1 1 (by omega), eRs_out p (fun j hj => by omega), hp]
    exact br_t (nI_le (Nat.le_refl _) (by omega)) (k s fb f41 ms)
  · intro i hi ih s ⟨fb, f41, ms⟩
    refine bX7_retract_35 _ _ _ hd ⟨vp_in_nI (by omega) (by omega), ?_⟩
    rw [cl (n := 1) (by omega), ms.1 1 (by omega), eRs_out i (fun j hj => by omega), hp]
    refine br_f (nI_ge hi (by omega)) ⟨vp_in_nI (by omega) (by omega), ?_⟩
    simp (disch := omega) only [cl, nI_add, pk_mul, sA_ne, f41]
    rw [show 22 + 16 * i + 4 = 26 + 16 * i by omega, show 22 + 16 * i + 3 = 25 + 16 * i by omega]
    have hF := hA i hi
    by_cases hy : Mk c o i
    · rw [hF.1 hy]
      refine br_nf rfl ⟨vp_in_nI (by omega) (by omega), vp_in_nI (by omega) (by omega), br_nt (by decide) ?_⟩
      have ms2 := ms.put (i := 26 + 16 * i) (x := nI 0) (by omega)
      refine t_of ms2.1 (by omega) (by omega) ⟨vp_in_nI (by omega) (by omega), ih _ ⟨fb.tr (z37.tr z37), ?_, ?_⟩⟩
      · simp (disch := omega) only [sA_ne, f41]
      · refine (ms2.put (i := 25 + 16 * i) (by omega)).row (fun t ht => ?_)
        rw [eRs_m hy, show 22 + 16 * i + 3 = 25 + 16 * i by omega]
        by_cases e : t = 25 + 16 * i
        · rw [e, upd_at]
        · rw [upd_ne _ _ e]
    · have h1 : ¬ t.1 41 i = nI 1 := fun g => by
        by_cases hh : HP c o i
        · rw [hF.2.1 hy hh] at g
          exact absurd g (by decide)
        · rw [hF.2.2 hy hh] at g
          exact absurd g (by decide)
      refine br_nt h1 (t_of ms.1 (by omega) (by omega) ⟨vp_in_nI (by omega) (by omega), vp_in_nI (by omega) (by omega), ?_⟩)
      have ms2 := ms.put (i := 26 + 16 * i) (x := eRs c o c i (22 + 16 * i + 4)) (by omega)
      by_cases hh : HP c o i
      · rw [f41, hF.2.1 hy hh]
        refine br_nf rfl ⟨vp_in_nI (by omega) (by omega), ih _ ⟨fb.tr (z37.tr z37), ?_, ?_⟩⟩
        · simp (disch := omega) only [sA_ne, f41]
        · refine (ms2.put (i := 25 + 16 * i) (by omega)).row (fun t ht => ?_)
          rw [eRs_h hy hh, show 22 + 16 * i + 4 = 26 + 16 * i by omega]
          by_cases e : t = 25 + 16 * i
          · rw [e, upd_at, upd_at]
          · rw [upd_ne _ _ e, upd_ne _ _ e]
            by_cases e : t = 26 + 16 * i
            · rw [e, upd_at]
            · rw [upd_ne _ _ e]
      · rw [f41, hF.2.2 hy hh]
        refine br_nt (by decide) (t_of ms2.1 (by omega) (by omega) ⟨vp_in_nI (by omega) (by omega), ih _ ⟨fb.tr (z37.tr z37), ?_, ?_⟩⟩)
        · simp (disch := omega) only [sA_ne, f41]
        · refine (ms2.put (i := 25 + 16 * i) (by omega)).row (fun t ht => ?_)
          rw [eRs_n hy hh, show 22 + 16 * i + 4 = 26 + 16 * i by omega, show 22 + 16 * i + 3 = 25 + 16 * i by omega]
          by_cases e : t = 25 + 16 * i
          · rw [e, upd_at, upd_ne _ _ (by omega)]
          · rw [upd_ne _ _ e]
            by_cases e : t = 26 + 16 * i
            · rw [e, upd_at]
            · rw [upd_ne _ _ e]
/-- one note goes back -/
theorem t_ret191 {i j : Nat} {v1 v2 : Int32} {g : Nat → Int32} {t : SS} (hd : 1 ≤ d) (ht : MS t g bb n z H) (hm : g 0 = nI m) (hm6 : m ≤ 6) (hi : i < 24) (k : ∀ t', FrB t t' → t'.1 41 = t.1 41 → MS t' (mvl g (fun t => (-1) * g (342 + 13 * i + 7 + t)) m) bb n z H → VV mX7_retract d s00 122 [some (.ref 11), some (.int v1), some (.int v2), some (.int (nI (i + 1))), none] [] t' (Qi K)) : VV mX7_retract d s00 191 [some (.ref 11), some (.int v1), some (.int v2), some (.int (nI i)), some (.int (nI 0))] [] t (Qi K) := by
  refine cup (I := fun v s => FrB t s ∧ s.1 41 = t.1 41 ∧ MS s (mvl g (fun t => (-1) * g (342 + 13 * i + 7 + t)) v) bb n z H) (G := fun v s => VV mX7_retract d s00 191 [some (.ref 11), some (.int v1), some (.int v2), some (.int (nI i)), some (.int (nI v))] [] s (Qi K)) m ?_ ?_ 0 (Nat.zero_le _) t ⟨FrB.rf, rfl, ht⟩
  · intro s ⟨fb, f41, ms⟩
    refine bX7_retract_191 _ _ _ _ hd ⟨vp_in_nI (by omega) (by omega), ?_⟩
    rw [cl (n := 0) (by omega), ms.1 0 (by omega), mvl_ne _ (fun t ht => by omega), hm, nI_add]
    exact br_t (nI_le (Nat.le_refl _) (by omega)) (k s fb f41 ms)
  · intro v hv ih s ⟨fb, f41, ms⟩
    refine bX7_retract_191 _ _ _ _ hd ⟨vp_in_nI (by omega) (by omega), ?_⟩
    rw [cl (n := 0) (by omega), ms.1 0 (by omega), mvl_ne _ (fun t ht => by omega), hm, nI_add, nI_add, nI_add]
    refine br_f (nI_ge hv (by omega)) (t_ofNote ms.1 (by omega) (by omega) (t_pays ms.1 (by omega) (ih _ ⟨fb.tr z37, (sA_ne _ _ _ (by omega)).trans f41, ?_⟩)))
    have e := ms.put (i := 11 + 2 * v) (x := g (11 + 2 * v) + (-1) * g (342 + 13 * i + 7 + v)) (by omega)
    rw [mvl_ne (k := 11 + 2 * v) _ (fun t ht => by omega), mvl_ne (k := 342 + 13 * i + (7 + v)) _ (fun t ht => by omega), show 342 + 13 * i + (7 + v) = 342 + 13 * i + 7 + v by omega, ← mm1]
    exact e
theorem t_ret122 {o : Nat} {v1 v2 : Int32} {t : SS} {f : Nat → Int32} (hd : 2 ≤ d) (ht : MS t f bb n z H) (hR : Row c m p q) (hA : Ft c o (t.1 41) p) (hf : ∀ t, t < 22 ∨ 342 ≤ t → f t = c t) (k : ∀ t', FrB t t' → MS t' (pb (Owd c o) (usN c) m f q) bb n z H → K v2 t') : VV mX7_retract d s00 122 [some (.ref 11), some (.int v1), some (.int v2), some (.int (nI 0)), none] [] t (Qi K) := by
  obtain ⟨hm, hm6, hp, hp20, hq, hq24, -⟩ := id hR
  have hu : ∀ k, k < q → usN c k < m := fun k hk => (hR.us hk).2
  refine cup (I := fun i s => FrB t s ∧ s.1 41 = t.1 41 ∧ MS s (pb (Owd c o) (usN c) m f i) bb n z H) (G := fun i s => VV mX7_retract d s00 122 [some (.ref 11), some (.int v1), some (.int v2), some (.int (nI i)), none] [] s (Qi K)) q ?_ ?_ 0 (Nat.zero_le _) t ⟨FrB.rf, rfl, ht⟩
  · intro s ⟨fb, f41, ms⟩
    refine bX7_retract_122 _ _ _ (by omega) ⟨vp_in_nI (by omega) (by omega), ?_⟩
    rw [cl (n := 2) (by omega), ms.1 2 (by omega), pb_out hm6 q hu (by omega) (fun k hk => by omega), hf 2 (by omega), hq]
    exact br_t (nI_le (Nat.le_refl _) (by omega)) (k s fb ms)
  · intro i hi ih s ⟨fb, f41, ms⟩
    have hu' : ∀ k, k < i → usN c k < m := fun k hk => hu k (by omega)
    have o1 : ∀ t, t < 4 ∨ 4 < t ∧ t < 11 ∨ 342 ≤ t → (∀ k, k < i → t ≠ 347 + 13 * k) → pb (Owd c o) (usN c) m f i t = c t := fun t h1 h2 => by rw [pb_out hm6 i hu' (by omega) h2, hf t (by omega)]
    refine bX7_retract_122 _ _ _ (by omega) ⟨vp_in_nI (by omega) (by omega), ?_⟩
    rw [cl (n := 2) (by omega), ms.1 2 (by omega), o1 2 (by omega) (fun k hk => by omega), hq, nI_add]
    refine br_f (nI_ge hi (by omega)) (t_goesBack (by omega) ms.1 hi hR (by rw [f41]; exact hA) (o1 _ (by omega) (fun k hk => by omega)) (o1 _ (by omega) (fun k hk => by omega)) (o1 _ (by omega) (fun k hk => by omega)) (o1 _ (by omega) (fun k hk => by omega)) (o1 _ (by omega) (fun k hk => by omega)) (fun w => br_f one_ne ?_) (fun w => br_t rfl (ih s ⟨fb, f41, by rw [pb_f w]; exact ms⟩)))
    rw [pk_mul, nI_add, nI_add, cl (n := 342 + 13 * i + 5) (by omega)]
    have ms2 := ms.put (i := 342 + 13 * i + 5) (x := nI 1) (by omega)
    generalize hg : pb (Owd c o) (usN c) m f i = g at ms ms2 o1
    refine ⟨vp_in_nI (by omega) (by omega), t_ofNote (k := 0) ms2.1 (by omega) (by omega) (t_ofNote (k := 3) ms2.1 (by omega) (by omega) ?_)⟩
    have eu : upd g (342 + 13 * i + 5) (nI 1) (342 + 13 * i + 0) = nI (usN c i) := by
      rw [upd_ne _ _ (by omega), Nat.add_zero, o1 _ (by omega) (fun k hk => by omega)]
      exact (hR.us hi).1
    rw [eu]
    have hus := hu i hi
    refine t_pays ms2.1 (by omega) ⟨vp_in_nI (by omega) (by omega), ?_⟩
    have ms3 := ms2.put (i := 11 + 2 * usN c i) (x := upd g (342 + 13 * i + 5) (nI 1) (11 + 2 * usN c i) + upd g (342 + 13 * i + 5) (nI 1) (342 + 13 * i + 3)) (by omega)
    refine t_ofNote (k := 6) ms3.1 (by omega) (by omega) ⟨vp_in_nI (by omega) (by omega), ?_⟩
    rw [cl (n := 4) (by omega), ms3.1 4 (by omega), upd_ne (k := 11 + 2 * usN c i) (j := 4) _ _ (by omega), upd_ne (k := 11 + 2 * usN c i) (j := 342 + 13 * i + 6) _ _ (by omega)]
    have ms4 := ms3.put (i := 4) (x := upd g (342 + 13 * i + 5) (nI 1) 4 - upd g (342 + 13 * i + 5) (nI 1) (342 + 13 * i + 6)) (by omega)
    generalize hG : upd g (342 + 13 * i + 5) (nI 1) = G at ms4
    have hG0 : G 0 = nI m := by
      rw [← hG, upd_ne _ _ (by omega), o1 0 (by omega) (fun k hk => by omega)]
      exact hm
    refine t_ret191 (i := i) (j := 0) (by omega) ms4 ?_ hm6 (by omega) (fun t' fb' f41' ms' => ih t' ⟨fb.tr ((z37.tr (z37.tr z37)).tr fb'), ?_, ?_⟩)
    · rw [upd_ne _ _ (by omega), upd_ne _ _ (by omega)]
      exact hG0
    · rw [f41']
      simp (disch := omega) only [sA_ne, f41]
    · rw [pb_t w, hg]
      refine ms'.row (fun t ht => ?_)
      have e1 := mvm_up (g := g) (b := 342 + 13 * i) (j := usN c i) (m := m) (s := (-1)) (x := nI 1) hm6 hus (by omega) t
      rw [hG, show 342 + 13 * i + 5 = 347 + 13 * i by omega] at e1
      rw [← e1]
      unfold mvm
      refine mvl_cell ?_ (fun s hs => ?_) m (Nat.le_refl _)
      · rw [sub_mm, add_mm]
      · rw [upd_ne _ _ (by omega), upd_ne _ _ (by omega)]
theorem op_retract {x : Int32} (h : RR σ) : E2 mX6_retract mX7_retract [.int x] σ := by
  obtain ⟨n, z, nx, H, hn, hz, ⟨m, p, q, hR⟩, hC, hM, hH⟩ := id h
  have hp20 := hR.2.2.2.1
  rcases br_o (x := x) (N := p) (by omega) with ⟨o, ho, rfl⟩ | hx
  · by_cases hl : σ.1 12 (26 + 16 * o) = nI 1
    · refine E2.wr (v := nI (cntP (Mk (σ.1 12) o) p)) (c1 := retR (σ.1 12) m p q o) (nx := nx) hn hz ⟨m, p, q, hR⟩ hM hH ⟨m, p, q, ret_row hR⟩ (fun K k => eX6_retract _ (by omega) (s_hpY (by omega) hR ho (br_nt one_ne (s_isLive (by omega) (by omega) (fun _ => br_nt one_ne (s_keep (by omega) hz hC (fun s0 f cs => ?_))) (fun g => absurd hl g))))) (fun s hs K k => eX7_retract _ (by omega) (t_ipY (by omega) hs.1 hR ho (br_nt one_ne (t_of hs.1 (by omega) (by omega) ?_))))
      · have e12 : s0.1 12 = σ.1 12 := f.1 12 rfl
        refine s_markEndings (m := m) (p := p) (q := q) (by omega) (by rw [e12]; exact hR) ho (fun s1 f1 a1 => ?_)
        rw [e12] at a1
        have e12' : s1.1 12 = σ.1 12 := (f1.1 12 rfl).trans e12
        refine s_payBack (m := m) (p := p) (q := q) (o := o) (by omega) (by rw [e12']; exact hR) (by rw [e12']; exact a1) (fun s2 f2 e2 => ?_)
        rw [e12'] at e2
        have hu : ∀ k, k < q → usN (σ.1 12) k < m := fun k hk => (hR.us hk).2
        refine s_endMarked (c := σ.1 12) (o := o) (m := m) (p := p) (q := q) (by omega) hR (by rw [f2.1 13 rfl]; exact a1) ?_ (fun t h1 h2 => ?_) (fun s3 f3 e3 => ?_)
        · rw [e2, pb_out hR.2.1 q hu (by omega) (fun k hk => by omega)]
        · rw [e2, pb_out hR.2.1 q hu (by omega) (fun k hk => by omega)]
        · refine k s0 s3 f cs (f1.CQ.tr (f2.Q12.tr f3.Q12)) (fun t _ => ?_)
          rw [e3, e2]
          rfl
      · rw [show 22 + 16 * o + 4 = 26 + 16 * o by omega, hl]
        refine br_nt one_ne (t_records (by omega) hz hs (fun s2 f ms => t_ends (by omega) ms.1 hR ho (fun s3 f3 a3 => ?_)))
        refine t_ret35 (by omega) (ms.M f3) hR a3 (fun s4 f4 g4 ms4 => ?_)
        refine t_ret122 (by omega) ms4 hR (by rw [g4]; exact a3) (fun t ht => eRs_out p (fun j hj => by omega)) (fun s5 f5 ms5 => k s5 ((FrB.rec f).tr (f3.MB.tr (f4.tr f5))) (ms5.row (fun t ht => ?_)))
        have hu : ∀ k, k < q → usN (σ.1 12) k < m := fun k hk => (hR.us hk).2
        unfold retR
        by_cases ht2 : t < 22 ∨ 342 ≤ t
        · rw [eRs_out p (fun j hj => by omega)]
          exact pb_eq (fun t ht => eRs_out p (fun j hj => by omega)) q t ht2
        · rw [pb_out hR.2.1 q hu (by omega) (fun k hk => by omega)]
          exact eRs_cell (pb_out hR.2.1 q hu (by omega) (fun k hk => by omega)).symm p
    · refine E2.rd (v := (-1000003)) h hM (fun K k => eX6_retract _ (by omega) (s_hpY (by omega) hR ho (br_nt one_ne (s_isLive (by omega) (by omega) (fun g => absurd g hl) (fun _ => br_nf rfl (k _ Fr.rf)))))) (fun s hs K k => eX7_retract _ (by omega) (t_ipY (by omega) hs.1 hR ho (br_nt one_ne (t_of hs.1 (by omega) (by omega) ?_))))
      rw [show 22 + 16 * o + 4 = 26 + 16 * o by omega, (hR.live ho).resolve_right hl]
      exact br_nf rfl (k _ Fr.rf)
  · exact E2.rd (v := (-1000001)) h hM (fun K k => eX6_retract _ (by omega) (s_hpN (by omega) hR hx (br_nf rfl (k _ Fr.rf)))) (fun s hs K k => eX7_retract _ (by omega) (t_ipN (by omega) hs.1 hR hx (br_nf rfl (k _ Fr.rf))))
theorem op_wouldPayBack {x : Int32} (h : RR σ) : E2 mX6_wouldPayBack mX7_wouldPayBack [.int x] σ := by
  obtain ⟨n, z, nx, H, hn, hz, ⟨m, p, q, hR⟩, hC, hM, hH⟩ := id h
  have hp20 := hR.2.2.2.1
  rcases br_o (x := x) (N := p) (by omega) with ⟨o, ho, rfl⟩ | hx
  · by_cases hl : σ.1 12 (26 + 16 * o) = nI 1
    · refine E2.rd (v := sumP (Owd (σ.1 12) o) (fun k => σ.1 12 (345 + 13 * k)) q) h hM (fun K k => eX6_wouldPayBack _ (by omega) (s_hpY (by omega) hR ho (br_nt one_ne (s_isLive (by omega) (by omega) (fun _ => br_nt one_ne (s_markEndings (by omega) hR ho (fun s f a => ?_))) (fun g => absurd hl g))))) (fun s hs K k => eX7_wouldPayBack _ (by omega) (t_ipY (by omega) hs.1 hR ho (br_nt one_ne (t_of hs.1 (by omega) (by omega) ?_))))
      · have e12 : s.1 12 = σ.1 12 := f.1 12 rfl
        refine s_owedForMarked (m := m) (p := p) (q := q) (o := o) (by omega) (by rw [e12]; exact hR) (by rw [e12]; exact a) ?_
        rw [e12]
        exact k s f
      · rw [show 22 + 16 * o + 4 = 26 + 16 * o by omega, hl]
        exact br_nt one_ne (t_ends (by omega) hs.1 hR ho (fun s2 f a => t_wpb (by omega) (hs.1.fr f rfl) hR a (k s2 f)))
    · refine E2.rd (v := (-1000003)) h hM (fun K k => eX6_wouldPayBack _ (by omega) (s_hpY (by omega) hR ho (br_nt one_ne (s_isLive (by omega) (by omega) (fun g => absurd g hl) (fun _ => br_nf rfl (k _ Fr.rf)))))) (fun s hs K k => eX7_wouldPayBack _ (by omega) (t_ipY (by omega) hs.1 hR ho (br_nt one_ne (t_of hs.1 (by omega) (by omega) ?_))))
      rw [show 22 + 16 * o + 4 = 26 + 16 * o by omega, (hR.live ho).resolve_right hl]
      exact br_nf rfl (k _ Fr.rf)
  · exact E2.rd (v := (-1000001)) h hM (fun K k => eX6_wouldPayBack _ (by omega) (s_hpN (by omega) hR hx (br_nf rfl (k _ Fr.rf)))) (fun s hs K k => eX7_wouldPayBack _ (by omega) (t_ipN (by omega) hs.1 hR hx (br_nf rfl (k _ Fr.rf))))
end OPE
