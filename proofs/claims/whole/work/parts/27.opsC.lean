/-! CHEAPEST and PIECE -/
section OPC
variable {d : Nat} {σ : SS} {K : Int32 → SS → Prop} {Kv : SS → Prop} {c bb u : Nat → Int32} {m p q n z la j : Nat} {H : Nat → Nat → Int32}
theorem t_standsAt {k pl : Nat} (hd : 1 ≤ d) (hc : MC σ c) (hR : Row c m p q) (hk : k < p) (h8 : σ.2.1 8 = nI la) (hla : la ≤ 10) (hpl : pl ≤ 10) (hu : ∀ i, i < la → σ.1 38 i = u i) (h1 : Sd c u la pl k → K (nI 1) σ) (h0 : ¬ Sd c u la pl k → K (nI 0) σ) : CTi mX7_standsAt d [.ref 11, .int (nI k), .int (nI pl)] σ K := by
  have hp20 := hR.2.2.2.1
  obtain ⟨l1, l2, l3⟩ := hR.len hk
  have e1 : ∀ K : Int32 → SS → Prop, K (nI (lnN c k)) σ → CTi mX7_of (d - 1) [.ref 11, .int (nI k), .int (nI 1)] σ K := fun K h => t_of hc (by omega) (by omega) (by rw [show 22 + 16 * k + 1 = 23 + 16 * k by omega, l1]; exact h)
  have bad : ∀ i, ¬ Sd c u la pl k → VV mX7_standsAt d s00 34 [some (.ref 11), some (.int (nI k)), some (.int (nI pl)), some (.int (nI 0)), some (.int (nI i))] [] σ (Qi K) := fun i h => bX7_standsAt_34 _ _ _ _ hd (e1 _ ⟨fun _ => ⟨Or.inl rfl, h0 h⟩, fun _ => br_t rfl ⟨Or.inl rfl, h0 h⟩⟩)
  refine eX7_standsAt _ _ hd (t_of hc (by omega) (by omega) ?_)
  rw [show 22 + 16 * k + 4 = 26 + 16 * k by omega]
  refine ⟨fun hl => bad 0 (fun h => hl h.1), fun hl => e1 _ ?_⟩
  rw [h8, nI_add]
  by_cases hle : pl + lnN c k ≤ la
  · refine br_f (nnI (by omega) (by omega)) ?_
    refine cup (I := fun i (_ : SS) => ∀ t, t < i → phw c k t = u (pl + t)) (G := fun i _ => VV mX7_standsAt d s00 34 [some (.ref 11), some (.int (nI k)), some (.int (nI pl)), some (.int (nI 1)), some (.int (nI i))] [] σ (Qi K)) (lnN c k) ?_ ?_ 0 (Nat.zero_le _) σ (fun t ht => absurd ht (by omega))
    · intro _ h
      exact bX7_standsAt_34 _ _ _ _ hd (e1 _ (br_t (nI_le (Nat.le_refl _) (by omega)) ⟨Or.inr rfl, h1 ⟨hl, hle, h⟩⟩))
    · intro i hi ih _ h
      refine bX7_standsAt_34 _ _ _ _ hd (e1 _ (br_f (nI_ge hi (by omega)) (br_f one_ne ?_)))
      rw [nI_add, nI_add, nI_add, cl (by omega), hu _ (by omega)]
      refine ⟨vp_in_nI (by omega) (by omega), t_of hc (by omega) (by omega) ?_⟩
      rw [show 22 + 16 * k + (6 + i) = 28 + 16 * k + i by omega]
      refine ⟨fun e => bad _ (fun hs => e (hs.2.2 i hi).symm), fun e => ih σ (fun t ht => ?_)⟩
      rcases Nat.lt_or_ge t i with q | q
      · exact h t q
      · rw [show t = i by omega]
        exact e.symm
  · exact br_t (nI_lt (by omega) (by omega)) (bad 0 (fun h => hle h.2.1))
theorem CuB.put {s : SS} {k pl : Nat} {x : Nat × Nat × Nat} (h : x.2.2 = k) : CuB (sA (sA (sA s 42 pl (nI x.1)) 43 pl (nI x.2.1)) 44 pl (nI k)) (some x) pl := by
  refine ⟨⟨?_, ?_⟩, fun w hw => ?_⟩
  · rw [sA_ne _ _ _ (by omega), sA_ne _ _ _ (by omega), sA_at, upd_at]
  · rw [sA_ne _ _ _ (by omega), sA_at, upd_at]
  · cases hw
    subst h
    rw [sA_at, upd_at]
theorem TB.put {s : SS} {T : Nat → Wy} {pl : Nat} {x y v : Int32} (h : TB s T (pl + 1) la) : TB (sA (sA (sA s 42 pl x) 43 pl y) 44 pl v) T (pl + 1) la := fun k k1 k2 => by
  have g := h k k1 k2
  rw [sA_ne _ _ _ (show 42 ≠ 44 by omega), sA_ne _ _ _ (show 42 ≠ 43 by omega), sA_at, sA_ne _ _ _ (show 43 ≠ 44 by omega), sA_at, sA_ne _ _ _ (show 43 ≠ 42 by omega), sA_at, sA_ne _ _ _ (show 44 ≠ 43 by omega), sA_ne _ _ _ (show 44 ≠ 42 by omega), upd_ne _ _ (by omega), upd_ne _ _ (by omega), upd_ne _ _ (by omega)]
  exact g
theorem frm3 {s : SS} (pl : Nat) {x y v : Int32} : Fr PM FM s (sA (sA (sA s 42 pl x) 43 pl y) 44 pl v) := (Fr.sA rfl).tr ((Fr.sA rfl).tr (Fr.sA rfl))
theorem t_composes (hd : 3 ≤ d) (hc : MC σ c) (hR : Row c m p q) (hn : n ≤ 40) (hl : σ.2.1 10 = nI n) (hok : TxtOK (σ.1 45) n) (hj : j < m) (k : ∀ s, Fr PM FM σ s → TB s (wtab c j (tw (σ.1 45) n) (lw (σ.1 45) n).length p (lw (σ.1 45) n).length) 0 (lw (σ.1 45) n).length → Kv s) : CTv mX7_composes d [.ref 11, .int (nI j)] σ Kv := by
  obtain ⟨hm, hm6, hp, hp20, -⟩ := id hR
  refine eX7_composes _ (by omega) (t_setsText hn hl hok (fun s0 f0 g1 g2 => ?_))
  have h10 := hok.2.2
  have hla1 := hok.2.1
  generalize hu : tw (σ.1 45) n = u at k g2
  generalize hla : (lw (σ.1 45) n).length = la at k g1 g2 h10 hla1
  have f0' : Fr PM FM σ s0 := f0.o38.SM
  simp (disch := omega) only [sA_f, g1, cl]
  refine ⟨vp_in_nI (by omega) (by omega), vp_in_nI (by omega) (by omega), ?_⟩
  have start : ∀ s, Fr PM FM s0 s → s.2.1 8 = nI la → s.1 38 = s0.1 38 → TB s (wtab c j u la p 0) (la - 0) la → VV mX7_composes d s00 31 [some (.ref 11), some (.int (nI j)), some (.int (nI (la - 0) - nI 1)), none, none, none] [] s (Qv Kv) := fun s fs h8 h38 ht => by
    refine cup (I := fun i s => Fr PM FM σ s ∧ s.2.1 8 = nI la ∧ s.1 38 = s0.1 38 ∧ TB s (wtab c j u la p i) (la - i) la) (G := fun i s => VV mX7_composes d s00 31 [some (.ref 11), some (.int (nI j)), some (.int (nI (la - i) - nI 1)), none, none, none] [] s (Qv Kv)) la ?_ ?_ 0 (Nat.zero_le _) s ⟨f0'.tr fs, h8, h38, ht⟩
    · intro s ⟨fs, _, _, ht⟩
      rw [Nat.sub_self] at ht ⊢
      exact bX7_composes_31 _ _ (br_t (by decide) (k s fs ht))
    · intro i hi ih s ⟨fs, h8, h38, ht⟩
      generalize hpl : la - (i + 1) = pl at ih
      have hpl2 : la - i = pl + 1 := by omega
      rw [hpl2] at ht ⊢
      rw [pk_sub (by omega), Nat.add_sub_cancel]
      refine bX7_composes_31 _ _ (br_f (nI_pos (by omega)) ?_)
      rw [cl (by omega)]
      refine ⟨vp_in_nI (by omega) (by omega), vp_in_nI (by omega) (by omega), vp_in_nI (by omega) (by omega), ?_⟩
      refine cup (I := fun v t => Fr PM FM s t ∧ t.2.1 8 = nI la ∧ t.1 38 = s0.1 38 ∧ TB t (wtab c j u la p i) (pl + 1) la ∧ CuB t (wrow c j u la (wtab c j u la p i) pl v) pl) (G := fun v t => VV mX7_composes d s00 60 [some (.ref 11), some (.int (nI j)), some (.int (nI pl)), some (.int (nI v)), none, none] [] t (Qv Kv)) p ?_ ?_ 0 (Nat.zero_le _) _ ⟨frm3 pl, h8, ?_, ht.put, ⟨⟨?_, ?_⟩, fun w hw => by cases hw⟩⟩
      · intro t ⟨ft, t8, t38, tt, tc⟩
        have hct := hc.fr (fs.tr ft) rfl
        refine bX7_composes_60 _ _ _ (by omega) ⟨vp_in_nI (by omega) (by omega), ?_⟩
        rw [cl (n := 1) (by omega), hct 1 (by omega), hp, pm1]
        refine br_t (nI_le (Nat.le_refl _) (by omega)) (ih t ⟨fs.tr ft, t8, t38, fun y y1 y2 => ?_⟩)
        by_cases e : y = pl
        · subst e
          rw [wtab_new (by omega)]
          exact ⟨tc.1, fun _ => tc.2⟩
        · rw [wtab_same (by omega)]
          exact tt y (by omega) y2
      · intro v hv iv t ⟨ft, t8, t38, tt, tc⟩
        have hct := hc.fr (fs.tr ft) rfl
        obtain ⟨l1, l2, l3⟩ := hR.len hv
        refine bX7_composes_60 _ _ _ (by omega) ⟨vp_in_nI (by omega) (by omega), ?_⟩
        rw [cl (n := 1) (by omega), hct 1 (by omega), hp]
        have skip : VV mX7_composes d s00 60 [some (.ref 11), some (.int (nI j)), some (.int (nI pl)), some (.int (nI (v + 1))), none, none] [] t (Qv Kv) → VV mX7_composes d s00 205 [some (.ref 11), some (.int (nI j)), some (.int (nI pl)), some (.int (nI v)), none, none] [] t (Qv Kv) := fun h => bX7_composes_205 _ _ _ (by rw [nI_add]; exact h)
        refine br_f (nI_ge hv (by omega)) (t_standsAt (u := u) (by omega) hct hR hv t8 h10 (by omega) (fun i hi => by rw [t38]; exact g2 i hi) (fun hs => br_f one_ne ?_) (fun hs => br_t rfl (skip (iv t ⟨ft, t8, t38, tt, by rw [wrow_f hs]; exact tc⟩))))
        have e1 : ∀ K : Int32 → SS → Prop, K (nI (lnN c v)) t → CTi mX7_of (d - 1) [.ref 11, .int (nI v), .int (nI 1)] t K := fun K h => t_of hct (by omega) (by omega) (by rw [show 22 + 16 * v + 1 = 23 + 16 * v by omega, l1]; exact h)
        have hT := wtab_ok (u := u) (j := j) (la := la) hR i (by omega)
        rw [hpl2] at hT
        have hle := hs.2.1
        have nx := iv
        rw [wrow_t hs] at nx
        have ct := (tt _ (by omega) hle).1
        have co := tc.1
        have bt : ∀ w, wtab c j u la p i (pl + lnN c v) = some w → w.1 ≤ 2000 ∧ w.2.1 ≤ 10 := fun w hw => by
          obtain ⟨a1, a2, -⟩ := hT _ (by omega) hle w hw
          omega
        have bo : ∀ w, wrow c j u la (wtab c j u la p i) pl v = some w → w.1 ≤ 2000 ∧ w.2.1 ≤ 10 := fun w hw => by
          obtain ⟨a1, a2, -⟩ := wrow_ok (j := j) hR (by omega) hT v (by omega) w hw
          omega
        obtain ⟨hfN, hfe⟩ := fN_le (j := j) hR hv
        refine e1 _ ?_
        rw [nI_add, cl (n := pl + lnN c v) (by omega)]
        have v1 : vp_in (nI (pl + lnN c v)) 11 := vp_in_nI (by omega) (by omega)
        have v2 : vp_in (nI pl) 11 := vp_in_nI (by omega) (by omega)
        refine ⟨v1, ?_⟩
        generalize hto : wtab c j u la p i (pl + lnN c v) = tv at ct bt nx
        generalize hoo : wrow c j u la (wtab c j u la p i) pl v = ov at co bo nx tc
        have keep : wst (fN c j v) v tv ov = ov → VV mX7_composes d s00 205 [some (.ref 11), some (.int (nI j)), some (.int (nI pl)), some (.int (nI v)), none, none] [] t (Qv Kv) := fun e => by
          rw [e] at nx
          exact skip (nx t ⟨ft, t8, t38, tt, tc⟩)
        cases tv with
        | none =>
          rw [ct.1]
          exact br_t rfl (keep rfl)
        | some w =>
          obtain ⟨b1, b2⟩ := bt w rfl
          obtain ⟨q1, q2⟩ := ct
          rw [q1]
          refine br_f (nI_neN (by omega)) (e1 _ ?_)
          rw [nI_add, cl (n := pl + lnN c v) (by omega), q1]
          refine ⟨v1, t_feeV (m := m) (p := p) (q := q) (by omega) hct hR hj hv (e1 _ ?_)⟩
          rw [hfe, nI_add, nI_add, cl (n := pl + lnN c v) (by omega), q2, nI_add, cl (n := pl) (by omega), Nat.add_comm 1 w.2.1]
          have upd8 : wst (fN c j v) v (some w) ov = some (w.1 + fN c j v, w.2.1 + 1, v) → VV mX7_composes d s00 182 [some (.ref 11), some (.int (nI j)), some (.int (nI pl)), some (.int (nI v)), some (.int (nI (w.1 + fN c j v))), some (.int (nI (w.2.1 + 1)))] [] t (Qv Kv) := fun e => by
            rw [e] at nx
            have c2 := CuB.put (s := t) (pl := pl) (x := (w.1 + fN c j v, w.2.1 + 1, v)) rfl
            have t2 := tt.put (x := nI (w.1 + fN c j v)) (y := nI (w.2.1 + 1)) (v := nI v)
            refine bX7_composes_182 _ _ _ _ _ ⟨v2, v2, v2, bX7_composes_205 _ _ _ ?_⟩
            rw [cl (n := pl) (by omega), nI_add]
            refine nx _ ⟨ft.tr (frm3 pl), t8, ?_, t2, c2⟩
            rw [sA_ne _ _ _ (by omega), sA_ne _ _ _ (by omega), sA_ne _ _ _ (by omega)]
            exact t38
          refine ⟨v1, v2, ?_⟩
          cases ov with
          | none =>
            rw [co.1]
            exact br_t rfl (upd8 rfl)
          | some o =>
            obtain ⟨b3, b4⟩ := bo o rfl
            obtain ⟨e3, e4⟩ := co
            rw [e3, e4]
            refine br_f (nI_neN (by omega)) ⟨v2, ?_⟩
            by_cases h1 : w.1 + fN c j v < o.1
            · exact br_t (nI_lt h1 (by omega)) (upd8 (if_pos (Or.inl h1)))
            · refine br_f (nnI h1 (by omega)) ⟨v2, ?_⟩
              by_cases h2 : w.1 + fN c j v = o.1
              · refine br_nf (by rw [h2]) ⟨v2, ?_⟩
                by_cases h3 : w.2.1 + 1 < o.2.1
                · exact br_f (nI_ge h3 (by omega)) (upd8 (if_pos (Or.inr ⟨h2, h3⟩)))
                · exact br_t (nI_le (by omega) (by omega)) (keep (if_neg (by omega)))
              · exact br_nt (nI_neq (by omega) (by omega) h2) (keep (if_neg (by omega)))
      · rw [sA_ne _ _ _ (by omega), sA_ne _ _ _ (by omega), sA_ne _ _ _ (by omega)]
        exact h38
      · rw [sA_ne _ _ _ (by omega), sA_ne _ _ _ (by omega), sA_at, upd_at]
      · rw [sA_ne _ _ _ (by omega), sA_at, upd_at]
  refine start _ ((Fr.sA rfl).tr (Fr.sA rfl)) g1 ?_ (fun pl h1 h2 => ?_)
  · rw [sA_ne _ _ _ (by omega), sA_ne _ _ _ (by omega)]
  · have e : pl = la := by omega
    subst e
    rw [show wtab c j u pl p 0 pl = some (0, 0, 0) from if_pos rfl]
    refine ⟨⟨?_, ?_⟩, fun g => absurd g (by omega)⟩
    · rw [sA_ne _ _ _ (by omega), sA_at, upd_at]
    · rw [sA_at, upd_at]
/-- the walk to a piece -/
def wlk (c : Nat → Int32) (T : Nat → Wy) : Nat → Nat → Nat
  | 0, pl => pl
  | i + 1, pl => match T (wlk c T i pl) with
    | none => wlk c T i pl
    | some w => wlk c T i pl + lnN c w.2.2
theorem wlk_ok {T : Nat → Wy} {w0 : Nat × Nat × Nat} (hT : OkT c la p T 0) (h0 : T 0 = some w0) : ∀ i, i < w0.2.1 → wlk c T i 0 < la ∧ ∃ w, T (wlk c T i 0) = some w ∧ w.2.1 + i = w0.2.1 ∧ w.2.2 < p ∧ wlk c T (i + 1) 0 = wlk c T i 0 + lnN c w.2.2 ∧ wlk c T i 0 + lnN c w.2.2 ≤ la := by
  have nxt : ∀ i w, T (wlk c T i 0) = some w → wlk c T (i + 1) 0 = wlk c T i 0 + lnN c w.2.2 := fun i w h => by
    show (match T (wlk c T i 0) with | none => wlk c T i 0 | some w => wlk c T i 0 + lnN c w.2.2) = _
    rw [h]
  have pos : ∀ pl w, pl ≤ la → T pl = some w → 1 ≤ w.2.1 → pl < la := fun pl w h1 h2 h3 => by
    have := (hT pl (Nat.zero_le _) h1 w h2).2.1
    omega
  intro i
  induction i with
  | zero =>
    intro h
    have hl := pos 0 w0 (Nat.zero_le _) h0 (by omega)
    obtain ⟨a1, a2, a3⟩ := hT 0 (Nat.zero_le _) (by omega) w0 h0
    obtain ⟨b1, b2, b3, b4, -⟩ := a3 hl
    exact ⟨hl, w0, h0, by omega, b2, nxt 0 w0 h0, b4⟩
  | succ i ih =>
    intro h
    obtain ⟨h1, w, h2, h3, h4, h5, h6⟩ := ih (by omega)
    obtain ⟨a1, a2, a3⟩ := hT _ (Nat.zero_le _) (by omega) w h2
    obtain ⟨b1, b2, b3, b4, v, b5, b6⟩ := a3 h1
    have e : T (wlk c T (i + 1) 0) = some v := by rw [h5]; exact b5
    have hl := pos (wlk c T (i + 1) 0) v (by omega) e (by omega)
    obtain ⟨a1', a2', a3'⟩ := hT _ (Nat.zero_le _) (by omega) v e
    obtain ⟨c1, c2, c3, c4, -⟩ := a3' hl
    exact ⟨hl, v, e, by omega, c2, nxt (i + 1) v e, c4⟩
theorem op_cheapest {x : Int32} (h : RR σ) : E2 mX6_cheapest mX7_cheapest [.int x] σ := by
  obtain ⟨n, z, nx, H, hn, hz, ⟨m, p, q, hR⟩, hC, hM, hH⟩ := id h
  have hm6 := hR.2.1
  rcases br_o (x := x) (N := m) (by omega) with ⟨j, hj, rfl⟩ | hx
  · by_cases hok : flt (σ.1 31) n = (-1000000)
    · have ok := flt_ok (by omega) hok
      have hv : ∃ v : Int32, ∀ x y, Cel x y (wtab (σ.1 12) j (tw (σ.1 31) n) (lw (σ.1 31) n).length p (lw (σ.1 31) n).length 0) → x = v := by
        cases wtab (σ.1 12) j (tw (σ.1 31) n) (lw (σ.1 31) n).length p (lw (σ.1 31) n).length 0 with
        | none => exact ⟨_, fun x y h => h.1⟩
        | some w => exact ⟨_, fun x y h => h.1⟩
      obtain ⟨v, hv⟩ := hv
      refine E2.rd (v := v) h hM (fun K k => eX6_cheapest _ (by omega) (s_hmY (by omega) hR hj (br_nt one_ne (s_isFaulty (by omega) hn hC.2.2.2.1 (fun g => absurd hok g) (fun _ => br_t rfl (s_findWays (by omega) hR hn hC.2.2.2.1 ok hj (fun s f t => eX4_bestCost ⟨vp_in_nI (by omega) (by omega), ?_⟩))))))) (fun s hs K k => eX7_cheapest _ (by omega) (t_imY (by omega) hs.1 hR hj (br_nt one_ne (t_textFault (by omega) hn hs.2.1 (br_t (hs.eflt.trans hok) (t_composes (by omega) hs.1 hR hn hs.2.1 (flt_ok (by omega) (hs.eflt.trans hok)) hj (fun s f t => ⟨vp_in_nI (by omega) (by omega), ?_⟩)))))))
      · rw [cl (by omega), hv _ _ (t 0 (Nat.le_refl _) (Nat.zero_le _)).1]
        exact k s f
      · rw [hs.etw, hs.elw] at t
        rw [cl (by omega), hv _ _ (t 0 (Nat.le_refl _) (Nat.zero_le _)).1]
        exact k s f
    · exact E2.rd (v := (-1000003)) h hM (fun K k => eX6_cheapest _ (by omega) (s_hmY (by omega) hR hj (br_nt one_ne (s_isFaulty (by omega) hn hC.2.2.2.1 (fun g => br_f one_ne (k _ Fr.rf)) (fun g => absurd g hok))))) (fun s hs K k => eX7_cheapest _ (by omega) (t_imY (by omega) hs.1 hR hj (br_nt one_ne (t_textFault (by omega) hn hs.2.1 (br_f (fun e => hok (hs.eflt.symm.trans e)) (k _ Fr.rf))))))
  · exact E2.rd (v := (-1000001)) h hM (fun K k => eX6_cheapest _ (by omega) (s_hmN (by omega) hR hx (br_nf rfl (k _ Fr.rf)))) (fun s hs K k => eX7_cheapest _ (by omega) (t_imN (by omega) hs.1 hR hx (br_nf rfl (k _ Fr.rf))))
theorem op_piece {x y : Int32} (h : RR σ) : E2 mX6_piece mX7_piece [.int x, .int y] σ := by
  obtain ⟨n, z, nx, H, hn, hz, ⟨m, p, q, hR⟩, hC, hM, hH⟩ := id h
  have hm6 := hR.2.1
  have hp20 := hR.2.2.2.1
  rcases br_o (x := x) (N := m) (by omega) with ⟨j, hj, rfl⟩ | hx
  · by_cases hy : y < 0
    · exact E2.rd (v := (-1000002)) h hM (fun K k => eX6_piece _ _ (by omega) (s_hmY (by omega) hR hj (br_nt one_ne (br_f (Int32.not_le.mpr hy) (k _ Fr.rf))))) (fun s hs K k => eX7_piece _ _ (by omega) (t_imY (by omega) hs.1 hR hj (br_nt one_ne (br_f (Int32.not_le.mpr hy) (k _ Fr.rf)))))
    · obtain ⟨e, he, rfl⟩ := nI_of hy
      have h0e : 0 ≤ nI e := Int32.not_lt.mp hy
      by_cases hok : flt (σ.1 31) n = (-1000000)
      · have ok := flt_ok (by omega) hok
        have h10 := ok.2.2
        have hT := wtab_ok (u := tw (σ.1 31) n) (j := j) (la := (lw (σ.1 31) n).length) hR (lw (σ.1 31) n).length (Nat.le_refl _)
        rw [Nat.sub_self] at hT
        have hA : ∀ K : Int32 → SS → Prop, (∀ s, Fr PC FC σ s → TA (σ.1 12) s (wtab (σ.1 12) j (tw (σ.1 31) n) (lw (σ.1 31) n).length p (lw (σ.1 31) n).length) 0 (lw (σ.1 31) n).length → CTi mX4_pieceAt 6 [.ref 5, .int (nI e)] s K) → CTi mX6_piece 7 [.ref 0, .int (nI j), .int (nI e)] σ K := fun K k => eX6_piece _ _ (by omega) (s_hmY (by omega) hR hj (br_nt one_ne (br_t h0e (s_isFaulty (by omega) hn hC.2.2.2.1 (fun g => absurd hok g) (fun _ => br_t rfl (s_findWays (by omega) hR hn hC.2.2.2.1 ok hj (fun s f t => k s f t)))))))
        have hB : ∀ s, MS s (σ.1 12) (σ.1 31) n z H → ∀ K : Int32 → SS → Prop, (∀ t, Fr PM FM s t → TB t (wtab (σ.1 12) j (tw (σ.1 31) n) (lw (σ.1 31) n).length p (lw (σ.1 31) n).length) 0 (lw (σ.1 31) n).length → (vp_in (nI 0) 11) ∧ ((((t.1 42 (nI 0).toNatClampNeg) = (-1000000)) → (K (-1000000) t)) ∧ ((¬ (t.1 42 (nI 0).toNatClampNeg) = (-1000000)) → ((vp_in (nI 0) 11) ∧ (((nI e < (t.1 43 (nI 0).toNatClampNeg)) → (VV mX7_piece 7 s00 64 [some (.ref 11), some (.int (nI j)), some (.int (nI e)), some (.int (nI 0)), some (.int (nI 0))] [] t (Qi K))) ∧ ((¬ nI e < (t.1 43 (nI 0).toNatClampNeg)) → (K (-1000000) t))))))) → CTi mX7_piece 7 [.ref 11, .int (nI j), .int (nI e)] s K := fun s hs K k => eX7_piece _ _ (by omega) (t_imY (by omega) hs.1 hR hj (br_nt one_ne (br_t h0e (t_textFault (by omega) hn hs.2.1 (br_t (hs.eflt.trans hok) (t_composes (by omega) hs.1 hR hn hs.2.1 (flt_ok (by omega) (hs.eflt.trans hok)) hj (fun t f tb => k t f (by
          rw [hs.etw, hs.elw] at tb
          exact tb))))))))
        generalize hTe : wtab (σ.1 12) j (tw (σ.1 31) n) (lw (σ.1 31) n).length p (lw (σ.1 31) n).length = T at hT hA hB
        generalize hlae : (lw (σ.1 31) n).length = la at hT hA hB h10
        have none_case : (∀ w, T 0 = some w → ¬ e < w.2.1) → E2 mX6_piece mX7_piece [.int (nI j), .int (nI e)] σ := fun hno => by
          refine E2.rd (v := (-1000000)) h hM (fun K k => hA K (fun s f t => eX4_pieceAt _ (br_f (nI_pos (by omega)) ⟨vp_in_nI (by omega) (by omega), ?_⟩))) (fun s hs K k => hB s hs K (fun t f tb => ⟨vp_in_nI (by omega) (by omega), ?_⟩))
          · have ce := (t 0 (Nat.le_refl _) (Nat.zero_le _)).1
            rw [cl (by omega)]
            cases h0 : T 0 with
            | none =>
              rw [h0] at ce
              rw [ce.2]
              exact br_f (nnI (by omega) (by omega)) (k s f)
            | some w =>
              rw [h0] at ce
              have := (hT 0 (Nat.zero_le _) (Nat.zero_le _) w h0).2.1
              rw [ce.2]
              exact br_f (nnI (hno w h0) (by omega)) (k s f)
          · have ce := (tb 0 (Nat.le_refl _) (Nat.zero_le _)).1
            rw [cl (by omega)]
            cases h0 : T 0 with
            | none =>
              rw [h0] at ce
              rw [ce.1]
              exact br_t rfl (k t f)
            | some w =>
              rw [h0] at ce
              obtain ⟨a1, a2, -⟩ := hT 0 (Nat.zero_le _) (Nat.zero_le _) w h0
              rw [ce.1, ce.2]
              exact br_f (nI_neN (by omega)) ⟨vp_in_nI (by omega) (by omega), br_f (nnI (hno w h0) (by omega)) (k t f)⟩
        cases h0 : T 0 with
        | none => exact none_case (fun w hw => by rw [h0] at hw; cases hw)
        | some w0 =>
          by_cases he2 : e < w0.2.1
          · obtain ⟨a1, a2, -⟩ := hT 0 (Nat.zero_le _) (Nat.zero_le _) w0 h0
            have wk := wlk_ok hT h0
            obtain ⟨hl, w, hw, hw2, hw3, -, -⟩ := wk e he2
            refine E2.rd (v := nI w.2.2) h hM (fun K k => hA K (fun s f t => eX4_pieceAt _ (br_f (nI_pos (by omega)) ⟨vp_in_nI (by omega) (by omega), ?_⟩))) (fun s hs K k => hB s hs K (fun t f tb => ⟨vp_in_nI (by omega) (by omega), ?_⟩))
            · have ce := (t 0 (Nat.le_refl _) (Nat.zero_le _)).1
              rw [h0] at ce
              rw [cl (by omega), ce.2]
              refine br_t (nI_lt he2 (by omega)) ?_
              refine cup (I := fun i (_ : SS) => True) (G := fun i _ => VV mX4_pieceAt 6 s00 21 [some (.ref 5), some (.int (nI e)), some (.int (nI (wlk (σ.1 12) T i 0))), some (.int (nI i))] [] s (Qi K)) e ?_ ?_ 0 (Nat.zero_le _) s trivial
              · intro _ _
                refine bX4_pieceAt_21 _ _ _ (br_t (nI_le (Nat.le_refl _) (by omega)) ⟨vp_in_nI (by omega) (by omega), ?_⟩)
                rw [cl (by omega), ((t _ (Nat.zero_le _) (by omega)).2 hl w hw).1]
                exact k s f
              · intro i hi ih _ _
                obtain ⟨q1, v, q2, q3, q4, q5, q6⟩ := wk i (by omega)
                refine bX4_pieceAt_21 _ _ _ (br_f (nI_ge hi (by omega)) ⟨vp_in_nI (by omega) (by omega), ?_⟩)
                rw [cl (by omega), ((t _ (Nat.zero_le _) (by omega)).2 q1 v q2).2, nI_add, ← q5]
                exact ih s trivial
            · have ce := (tb 0 (Nat.le_refl _) (Nat.zero_le _)).1
              rw [h0] at ce
              rw [cl (by omega), ce.1, ce.2]
              refine br_f (nI_neN (by omega)) ⟨vp_in_nI (by omega) (by omega), br_t (nI_lt he2 (by omega)) ?_⟩
              have hct := hs.1.fr f rfl
              refine cup (I := fun i (_ : SS) => True) (G := fun i _ => VV mX7_piece 7 s00 64 [some (.ref 11), some (.int (nI j)), some (.int (nI e)), some (.int (nI (wlk (σ.1 12) T i 0))), some (.int (nI i))] [] t (Qi K)) e ?_ ?_ 0 (Nat.zero_le _) s trivial
              · intro _ _
                refine bX7_piece_64 _ _ _ _ (by omega) (br_t (nI_le (Nat.le_refl _) (by omega)) ⟨vp_in_nI (by omega) (by omega), ?_⟩)
                rw [cl (by omega), (tb _ (Nat.zero_le _) (by omega)).2 hl w hw]
                exact k t f
              · intro i hi ih _ _
                obtain ⟨q1, v, q2, q3, q4, q5, q6⟩ := wk i (by omega)
                refine bX7_piece_64 _ _ _ _ (by omega) (br_f (nI_ge hi (by omega)) ⟨vp_in_nI (by omega) (by omega), ?_⟩)
                rw [cl (by omega), (tb _ (Nat.zero_le _) (by omega)).2 q1 v q2]
                refine t_of hct (by omega) (by omega) ?_
                rw [show 22 + 16 * v.2.2 + 1 = 23 + 16 * v.2.2 by omega, (hR.len q4).1, nI_add, nI_add, ← q5]
                exact ih s trivial
          · exact none_case (fun w hw => by
              rw [h0] at hw
              cases hw
              exact he2)
      · exact E2.rd (v := (-1000003)) h hM (fun K k => eX6_piece _ _ (by omega) (s_hmY (by omega) hR hj (br_nt one_ne (br_t h0e (s_isFaulty (by omega) hn hC.2.2.2.1 (fun g => br_f one_ne (k _ Fr.rf)) (fun g => absurd g hok)))))) (fun s hs K k => eX7_piece _ _ (by omega) (t_imY (by omega) hs.1 hR hj (br_nt one_ne (br_t h0e (t_textFault (by omega) hn hs.2.1 (br_f (fun e => hok (hs.eflt.symm.trans e)) (k _ Fr.rf)))))))
  · exact E2.rd (v := (-1000001)) h hM (fun K k => eX6_piece _ _ (by omega) (s_hmN (by omega) hR hx (br_nf rfl (k _ Fr.rf)))) (fun s hs K k => eX7_piece _ _ (by omega) (t_imN (by omega) hs.1 hR hx (br_nf rfl (k _ Fr.rf))))
end OPC
