/-! A PHRASE IS ADDED -/
def wrd (f : Nat → Int32) (b : Nat) (u : Nat → Int32) (i : Nat) : Nat → Int32 := fun k => if b ≤ k ∧ k < b + i then u (k - b) else f k
theorem wrd_0 (f : Nat → Int32) (b : Nat) (u : Nat → Int32) : wrd f b u 0 = f := by
  funext k
  exact if_neg (by omega)
theorem wrd_s (f : Nat → Int32) (b : Nat) (u : Nat → Int32) (i : Nat) : upd (wrd f b u i) (b + i) (u i) = wrd f b u (i + 1) := by
  funext k
  unfold wrd
  by_cases e : k = b + i
  · rw [e, upd_at, if_pos (by omega), Nat.add_sub_cancel_left]
  · rw [upd_ne _ _ e]
    by_cases e2 : b ≤ k ∧ k < b + i
    · rw [if_pos e2, if_pos (by omega)]
    · rw [if_neg e2, if_neg (by omega)]
theorem wrd_ne {f : Nat → Int32} {b : Nat} {u : Nat → Int32} {i k : Nat} (h : k < b ∨ b + i ≤ k) : wrd f b u i k = f k := if_neg (by omega)
def phB (c : Nat → Int32) (p : Nat) (o t a : Int32) (la : Nat) : Nat → Int32 := upd (upd (upd (upd (upd (upd c (22 + 16 * p) o) (23 + 16 * p) (nI la)) (24 + 16 * p) t) (25 + 16 * p) a) (26 + 16 * p) (nI 1)) (27 + 16 * p) (nI 0)
def phr (c : Nat → Int32) (p : Nat) (o t a : Int32) (u : Nat → Int32) (la : Nat) : Nat → Int32 := wrd (phB (upd c 1 (nI (p + 1))) p o t a la) (28 + 16 * p) u la
theorem Row.ph {c c1 : Nat → Int32} {m p p' q : Nat} (h : Row c m p q) (hp : p ≤ p') (hp20 : p' ≤ 20) (h1 : c1 1 = nI p') (hl : ∀ k, k < 22 → k ≠ 1 → c1 k = c k) (hn : ∀ k, 342 ≤ k → k < 654 → c1 k = c k) (hph : ∀ j, j < p' → PhOK c1 m j) : Row c1 m p' q := by
  obtain ⟨g0, g1, g2, g3, g4, g5, g6, g7, g8, g9⟩ := h
  refine ⟨(hl _ (by omega) (by omega)).trans g0, g1, h1, hp20, (hl _ (by omega) (by omega)).trans g4, g5, hph, fun k hk => ?_, ?_, fun j hj => ?_⟩
  · obtain ⟨a1, ⟨o, o1, o2⟩, a3⟩ := g7 k hk
    unfold NtOK
    rw [hn _ (by omega) (by omega), hn _ (by omega) (by omega), hn _ (by omega) (by omega)]
    exact ⟨a1, ⟨o, by omega, o2⟩, a3⟩
  · rw [hl _ (by omega) (by omega)]
    exact g8
  · rw [hl _ (by omega) (by omega)]
    exact g9 j hj
theorem phr_lo {c : Nat → Int32} {p la k : Nat} {o t a : Int32} {u : Nat → Int32} (h : k < 22 + 16 * p) (h1 : k ≠ 1) : phr c p o t a u la k = c k := by
  unfold phr phB
  rw [wrd_ne (by omega), upd_ne _ _ (by omega), upd_ne _ _ (by omega), upd_ne _ _ (by omega), upd_ne _ _ (by omega), upd_ne _ _ (by omega), upd_ne _ _ (by omega), upd_ne _ _ (by omega)]
theorem phr_hi {c : Nat → Int32} {p la k : Nat} {o t a : Int32} {u : Nat → Int32} (hla : la ≤ 10) (h : 38 + 16 * p ≤ k) : phr c p o t a u la k = c k := by
  unfold phr phB
  rw [wrd_ne (by omega), upd_ne _ _ (by omega), upd_ne _ _ (by omega), upd_ne _ _ (by omega), upd_ne _ _ (by omega), upd_ne _ _ (by omega), upd_ne _ _ (by omega), upd_ne _ _ (by omega)]
theorem row_phr {c : Nat → Int32} {m p q la j : Nat} {t a : Int32} {u : Nat → Int32} (h : Row c m p q) (hp : p < 20) (hj : j < m) (ha : a = (-1000000) ∨ ∃ i, i < p ∧ a = nI i) (h1 : 1 ≤ la) (h2 : la ≤ 10) : Row (phr c p (nI j) t a u la) m (p + 1) q := by
  refine h.ph (by omega) (by omega) ?_ (fun k k1 k2 => phr_lo (by omega) k2) (fun k k1 k2 => phr_hi h2 (by omega)) (fun i hi => ?_)
  · unfold phr phB
    rw [wrd_ne (by omega), upd_ne _ _ (by omega), upd_ne _ _ (by omega), upd_ne _ _ (by omega), upd_ne _ _ (by omega), upd_ne _ _ (by omega), upd_ne _ _ (by omega), upd_at]
  · by_cases e : i = p
    · subst e
      unfold PhOK phr phB
      refine ⟨⟨j, hj, ?_⟩, ⟨la, h1, h2, ?_⟩, ?_, Or.inr ?_⟩
      · rw [wrd_ne (by omega), upd_ne _ _ (by omega), upd_ne _ _ (by omega), upd_ne _ _ (by omega), upd_ne _ _ (by omega), upd_ne _ _ (by omega), upd_at]
      · rw [wrd_ne (by omega), upd_ne _ _ (by omega), upd_ne _ _ (by omega), upd_ne _ _ (by omega), upd_ne _ _ (by omega), upd_at]
      · rw [wrd_ne (by omega), upd_ne _ _ (by omega), upd_ne _ _ (by omega), upd_at]
        exact ha
      · rw [wrd_ne (by omega), upd_ne _ _ (by omega), upd_at]
    · have g := h.2.2.2.2.2.2.1 i (by omega)
      unfold PhOK at g ⊢
      rw [phr_lo (by omega) (by omega), phr_lo (by omega) (by omega), phr_lo (by omega) (by omega), phr_lo (by omega) (by omega)]
      exact g
section OPP
variable {d : Nat} {σ : SS} {K : Int32 → SS → Prop} {Kv : SS → Prop} {c : Nat → Int32} {m p q n z : Nat}
theorem s_startPhrase {o t a : Int32} {la : Nat} {u : Nat → Int32} (hd : 1 ≤ d) (hp : σ.1 12 1 = nI p) (hp20 : p < 20) (hla : la ≤ 10) (h3 : σ.2.1 3 = nI la) (hu : ∀ i, i < la → σ.1 32 i = u i) (k : ∀ s, Fr (P1 12) F0f σ s → s.1 12 = phr (σ.1 12) p o t a u la → K (nI p) s) : CTi mX2_startPhrase d [.ref 1, .int o, .int t, .int a, .ref 4] σ K := by
  refine eX2_startPhrase _ _ _ Sen4 hd ⟨vp_in_nI (by omega) (by omega), vp_in_nI (by omega) (by omega), ?_⟩
  rw [cl (n := 1) (by omega), hp, nI_add]
  refine s_phraseCell (k := 0) ⟨vp_in_nI (by omega) (by omega), s_phraseCell (k := 1) ⟨vp_in_nI (by omega) (by omega), s_phraseCell (k := 2) ⟨vp_in_nI (by omega) (by omega), s_phraseCell (k := 3) ⟨vp_in_nI (by omega) (by omega), s_phraseCell (k := 4) ⟨vp_in_nI (by omega) (by omega), s_phraseCell (k := 5) ⟨vp_in_nI (by omega) (by omega), ?_⟩⟩⟩⟩⟩⟩
  rw [cl (by omega), cl (by omega), cl (by omega), cl (by omega), cl (by omega), cl (by omega), sA_f, sA_f, h3]
  rw [Nat.add_zero, show 22 + 16 * p + 1 = 23 + 16 * p by omega, show 22 + 16 * p + 2 = 24 + 16 * p by omega, show 22 + 16 * p + 3 = 25 + 16 * p by omega, show 22 + 16 * p + 4 = 26 + 16 * p by omega, show 22 + 16 * p + 5 = 27 + 16 * p by omega]
  refine cup (I := fun i s => Fr (P1 12) F0f σ s ∧ s.1 12 = wrd (phB (upd (σ.1 12) 1 (nI (p + 1))) p o t a la) (28 + 16 * p) u i) (G := fun i s => VV mX2_startPhrase d s00 86 [some (.ref 1), some (.int o), some (.int t), some (.int a), some (.ref 4), some (.int (nI p)), some (.int (nI i))] [] s (Qi K)) la ?_ ?_ 0 (Nat.zero_le _) _ ⟨(Fr.sA rfl).tr ((Fr.sA rfl).tr ((Fr.sA rfl).tr ((Fr.sA rfl).tr ((Fr.sA rfl).tr ((Fr.sA rfl).tr (Fr.sA rfl)))))), ?_⟩
  · intro s ⟨f, e⟩
    refine bX2_startPhrase_86 _ _ _ _ _ Sen4 hd ?_
    rw [f.2.1 3 rfl, h3]
    exact br_t (nI_le (Nat.le_refl _) (by omega)) (k s f e)
  · intro i hi ih s ⟨f, e⟩
    refine bX2_startPhrase_86 _ _ _ _ _ Sen4 hd ?_
    rw [f.2.1 3 rfl, h3, nI_add, nI_add]
    refine br_f (nI_ge hi (by omega)) (s_phraseCell ⟨vp_in_nI (by omega) (by omega), by rw [f.2.1 3 rfl, h3]; exact nI_ge hi (by omega), vp_in_nI (by omega) (by omega), ih _ ⟨f.tr (Fr.sA rfl), ?_⟩⟩)
    rw [cl (by omega), cl (by omega), sA_at, e, f.1 32 rfl, hu i hi, show 22 + 16 * p + (6 + i) = 28 + 16 * p + i by omega, wrd_s]
  · rw [wrd_0]
    simp only [sA_at]
    rfl
/-- the first checks -/
theorem s_ap1 {y v : Int32} {j : Nat} (hd : 2 ≤ d) (hR : Row (σ.1 12) m p q) (hj : j < m) (hv : v = (-1000000) ∨ ∃ a, a < p ∧ v = nI a) (k : VV mX6_addPhrase d s00 31 [some (.ref 0), some (.int (nI j)), some (.int y), some (.int v)] [] σ (Qi K)) : CTi mX6_addPhrase d [.ref 0, .int (nI j), .int y, .int v] σ K := by
  have hp20 := hR.2.2.2.1
  refine eX6_addPhrase _ _ _ (by omega) (s_hmY (by omega) hR hj (br_f one_ne ?_))
  rcases hv with rfl | ⟨a, ha, rfl⟩
  · exact br_t rfl k
  · exact br_f (nI_neN (by omega)) (s_hpY (by omega) hR ha (br_nt one_ne k))
theorem t_ap1 {y v : Int32} {j : Nat} (hd : 2 ≤ d) (hc : MC σ c) (hR : Row c m p q) (hj : j < m) (hv : v = (-1000000) ∨ ∃ a, a < p ∧ v = nI a) (k : VV mX7_addPhrase d s00 25 [some (.ref 11), some (.int (nI j)), some (.int y), some (.int v), none, none] [] σ (Qi K)) : CTi mX7_addPhrase d [.ref 11, .int (nI j), .int y, .int v] σ K := by
  have hp20 := hR.2.2.2.1
  refine eX7_addPhrase _ _ _ (by omega) (t_imY (by omega) hc hR hj (br_f one_ne ?_))
  rcases hv with rfl | ⟨a, ha, rfl⟩
  · exact br_t rfl k
  · exact br_f (nI_neN (by omega)) (t_ipY (by omega) hc hR ha (br_nt one_ne k))
theorem op_addPhrase {x y v : Int32} (h : RR σ) : E2 mX6_addPhrase mX7_addPhrase [.int x, .int y, .int v] σ := by
  obtain ⟨n, z, nx, H, hn, hz, ⟨m, p, q, hR⟩, hC, hM, hH⟩ := id h
  have hm6 := hR.2.1
  have hp20 := hR.2.2.2.1
  have hp := hR.2.2.1
  rcases br_o (x := x) (N := m) (by omega) with ⟨j, hj, rfl⟩ | hx
  · by_cases hv : v = (-1000000) ∨ ∃ a, a < p ∧ v = nI a
    · rcases br_o (x := y) (N := 1000) (by omega) with ⟨w, hw, rfl⟩ | hy
      · by_cases hok : flt (σ.1 31) n = (-1000000)
        · have ok := flt_ok (by omega) hok
          have hA3 : ∀ K : Int32 → SS → Prop, (((v = (-1000000)) → (VV mX6_addPhrase 7 s00 75 [some (.ref 0), some (.int (nI j)), some (.int (nI w)), some (.int v)] [] σ (Qi K))) ∧ ((¬ v = (-1000000)) → (CTi mX2_isLive 6 [.ref 1, .int v] σ (fun x3 s4 => ((¬ x3 = 0) → (VV mX6_addPhrase 7 s00 75 [some (.ref 0), some (.int (nI j)), some (.int (nI w)), some (.int v)] [] s4 (Qi K))) ∧ ((x3 = 0) → (K (-1000003) s4)))))) → CTi mX6_addPhrase 7 [.ref 0, .int (nI j), .int (nI w), .int v] σ K := fun K k => s_ap1 (by omega) hR hj hv (bX6_addPhrase_31 _ _ _ (e_y (by omega) (by omega) (bX6_addPhrase_45 _ _ _ (by omega) (s_isFaulty (by omega) hn hC.2.2.2.1 (fun g => absurd hok g) (fun _ => br_nf rfl k)))))
          have hB3 : ∀ s, MS s (σ.1 12) (σ.1 31) n z H → ∀ K : Int32 → SS → Prop, (((v = (-1000000)) → (VV mX7_addPhrase 7 s00 66 [some (.ref 11), some (.int (nI j)), some (.int (nI w)), some (.int v), none, none] [] s (Qi K))) ∧ ((¬ v = (-1000000)) → (CTi mX7_of 6 [.ref 11, .int v, .int (nI 4)] s (fun x5 s6 => ((¬ x5 = 0) → (VV mX7_addPhrase 7 s00 66 [some (.ref 11), some (.int (nI j)), some (.int (nI w)), some (.int v), none, none] [] s6 (Qi K))) ∧ ((x5 = 0) → (K (-1000003) s6)))))) → CTi mX7_addPhrase 7 [.ref 11, .int (nI j), .int (nI w), .int v] s K := fun s hs K k => t_ap1 (by omega) hs.1 hR hj hv (bX7_addPhrase_25 _ _ _ (by omega) (t_inY (by omega) (by omega) (by omega) (br_nt one_ne (t_textFault (by omega) hn hs.2.1 (br_nf (hs.eflt.trans hok) k)))))
          by_cases hl : v = (-1000000) ∨ ∃ a, a < p ∧ v = nI a ∧ σ.1 12 (26 + 16 * a) = nI 1
          · have hA4 : ∀ K : Int32 → SS → Prop, (VV mX6_addPhrase 7 s00 75 [some (.ref 0), some (.int (nI j)), some (.int (nI w)), some (.int v)] [] σ (Qi K)) → CTi mX6_addPhrase 7 [.ref 0, .int (nI j), .int (nI w), .int v] σ K := fun K k => hA3 K (by
              rcases hl with e | ⟨a, ha, e, el⟩
              · exact br_t e k
              · exact br_f (by rw [e]; exact nI_neN (by omega)) (by rw [e] at k ⊢; exact s_isLive (by omega) (by omega) (fun _ => br_nt one_ne k) (fun g => absurd el g)))
            have hB4 : ∀ s, MS s (σ.1 12) (σ.1 31) n z H → ∀ K : Int32 → SS → Prop, (VV mX7_addPhrase 7 s00 66 [some (.ref 11), some (.int (nI j)), some (.int (nI w)), some (.int v), none, none] [] s (Qi K)) → CTi mX7_addPhrase 7 [.ref 11, .int (nI j), .int (nI w), .int v] s K := fun s hs K k => hB3 s hs K (by
              rcases hl with e | ⟨a, ha, e, el⟩
              · exact br_t e k
              · exact br_f (by rw [e]; exact nI_neN (by omega)) (by
                  rw [e] at k ⊢
                  refine t_of hs.1 (by omega) (by omega) ?_
                  rw [show 22 + 16 * a + 4 = 26 + 16 * a by omega, el]
                  exact br_nt one_ne k))
            by_cases h20 : p < 20
            · refine E2.wr (v := nI p) (c1 := phr (σ.1 12) p (nI j) (nI w) v (tw (σ.1 31) n) (lw (σ.1 31) n).length) (nx := nx) hn hz ⟨m, p, q, hR⟩ hM hH ⟨m, p + 1, q, row_phr hR h20 hj hv ok.2.1 ok.2.2⟩ (fun K k => hA4 K (bX6_addPhrase_75 _ _ _ (by omega) (s_phrases ?_))) (fun s hs K k => hB4 s hs K (bX7_addPhrase_66 _ _ _ (by omega) ⟨vp_in_nI (by omega) (by omega), ?_⟩))
              · rw [hp]
                refine br_t (nI_lt h20 (by omega)) (s_keep (by omega) hz hC (fun s0 f cs => ?_))
                have e31 : s0.1 31 = σ.1 31 := f.1 31 rfl
                have e12 : s0.1 12 = σ.1 12 := f.1 12 rfl
                refine s_readText Sen4 (by omega) hn ((f.2.1 2 rfl).trans hC.2.2.2.1) (by rw [e31]; exact ok) (fun s2 f2 g1 g2 => ?_)
                rw [e31] at g1 g2
                have e12' : s2.1 12 = σ.1 12 := (f2.1 12 rfl).trans e12
                refine s_startPhrase (p := p) (la := (lw (σ.1 31) n).length) (u := tw (σ.1 31) n) (by omega) (by rw [e12']; exact hp) h20 ok.2.2 g1 g2 (fun s3 f3 e3 => k s0 s3 f cs ((f2.one (P := PQ) (F := FC) rfl rfl).tr f3.Q12) (fun t ht => ?_))
                rw [e3, e12']
              · have e1 : ∀ s, MC s (σ.1 12) → s.1 37 (nI 1).toNatClampNeg = nI p := fun s hs => by rw [cl (by omega), hs 1 (by omega)]; exact hp
                rw [e1 s hs.1]
                refine br_nt (nI_neq (by omega) (by omega) (by omega)) (t_records (by omega) hz hs (fun s2 f ms => ⟨vp_in_nI (by omega) (by omega), ?_⟩))
                refine t_setsText hn ms.2.1 (flt_ok (by omega) (ms.eflt.trans hok)) (fun s3 f3 g1 g2 => ?_)
                rw [ms.elw] at g1 g2
                rw [ms.etw] at g2
                have ms3 := ms.fr f3 rfl rfl rfl rfl
                rw [e1 s2 ms.1]
                simp only [sA_f, g1, pk_mul, nI_add]
                rw [cl (by omega), cl (by omega), cl (by omega), cl (by omega), cl (by omega), cl (by omega)]
                refine ⟨vp_in_nI (by omega) (by omega), vp_in_nI (by omega) (by omega), vp_in_nI (by omega) (by omega), vp_in_nI (by omega) (by omega), vp_in_nI (by omega) (by omega), vp_in_nI (by omega) (by omega), ?_⟩
                rw [Nat.add_zero, show 22 + 16 * p + 1 = 23 + 16 * p by omega, show 22 + 16 * p + 2 = 24 + 16 * p by omega, show 22 + 16 * p + 3 = 25 + 16 * p by omega, show 22 + 16 * p + 4 = 26 + 16 * p by omega, show 22 + 16 * p + 5 = 27 + 16 * p by omega]
                have h10 := ok.2.2
                refine cup (I := fun i t => FrB s t ∧ t.2.1 8 = nI (lw (σ.1 31) n).length ∧ t.1 38 = s3.1 38 ∧ MS t (wrd (phB (σ.1 12) p (nI j) (nI w) v (lw (σ.1 31) n).length) (28 + 16 * p) (tw (σ.1 31) n) i) (σ.1 31) n (min (z + 1) 4) (recH H z (σ.1 12))) (G := fun i t => VV mX7_addPhrase 7 s00 168 [some (.ref 11), some (.int (nI j)), some (.int (nI w)), some (.int v), some (.int (nI (22 + 16 * p))), some (.int (nI i))] [] t (Qi K)) (lw (σ.1 31) n).length ?_ ?_ 0 (Nat.zero_le _) _ ⟨(FrB.rec f).tr (((f3.o38.SM).MB).tr (z37.tr (z37.tr (z37.tr (z37.tr (z37.tr z37)))))), ?_, ?_, ?_⟩
                · intro t ⟨fb, t8, t38, mt⟩
                  refine bX7_addPhrase_168 _ _ _ _ _ ?_
                  rw [t8]
                  refine br_t (nI_le (Nat.le_refl _) (by omega)) ⟨vp_in_nI (by omega) (by omega), vp_in_nI (by omega) (by omega), vp_in_nI (by omega) (by omega), ?_⟩
                  have e1' : t.1 37 1 = nI p := by
                    rw [mt.1 1 (by omega), wrd_ne (by omega)]
                    unfold phB
                    rw [upd_ne _ _ (by omega), upd_ne _ _ (by omega), upd_ne _ _ (by omega), upd_ne _ _ (by omega), upd_ne _ _ (by omega), upd_ne _ _ (by omega)]
                    exact hp
                  rw [cl (by omega), sA_at, upd_at, e1', nI_add, pk_sub (by omega), Nat.add_sub_cancel]
                  refine k _ (fb.tr z37) ((mt.put (i := 1) (by omega)).row (fun k hk => ?_))
                  unfold phr wrd phB
                  simp only [upd]
                  repeat' split
                  all_goals first | rfl | omega
                · intro i hi ih t ⟨fb, t8, t38, mt⟩
                  refine bX7_addPhrase_168 _ _ _ _ _ ?_
                  rw [t8]
                  refine br_f (nI_ge hi (by omega)) ?_
                  simp (disch := omega) only [cl, nI_add, t38, g2 i hi]
                  refine ⟨vp_in_nI (by omega) (by omega), vp_in_nI (by omega) (by omega), ih _ ⟨fb.tr z37, t8, (sA_ne _ _ _ (by omega)).trans t38, ?_⟩⟩
                  have e := mt.put (i := 28 + 16 * p + i) (x := tw (σ.1 31) n i) (by omega)
                  rw [wrd_s] at e
                  rw [show 22 + 16 * p + 6 + i = 28 + 16 * p + i by omega]
                  exact e
                · exact g1
                · simp (disch := omega) only [sA_ne]
                · rw [wrd_0]
                  exact (((((ms3.put (by omega)).put (by omega)).put (by omega)).put (by omega)).put (by omega)).put (by omega)
            · have e20 : p = 20 := by omega
              subst e20
              refine E2.rd (v := (-1000004)) h hM (fun K k => hA4 K (bX6_addPhrase_75 _ _ _ (by omega) (s_phrases ?_))) (fun s hs K k => hB4 s hs K (bX7_addPhrase_66 _ _ _ (by omega) ⟨vp_in_nI (by omega) (by omega), ?_⟩))
              · rw [hp]
                exact br_f (by decide) (k _ Fr.rf)
              · rw [cl (by omega), hs.1 1 (by omega), hp]
                exact br_nf rfl (k _ Fr.rf)
          · have hl' : ∃ a, a < p ∧ v = nI a ∧ ¬ σ.1 12 (26 + 16 * a) = nI 1 := by
              rcases hv with e | ⟨a, ha, e⟩
              · exact absurd (Or.inl e) hl
              · exact ⟨a, ha, e, fun g => hl (Or.inr ⟨a, ha, e, g⟩)⟩
            obtain ⟨a, ha, e, el⟩ := hl'
            have nn : ¬ v = (-1000000) := by rw [e]; exact nI_neN (by omega)
            refine E2.rd (v := (-1000003)) h hM (fun K k => hA3 K (br_f nn ?_)) (fun s hs K k => hB3 s hs K (br_f nn ?_))
            · rw [e]
              exact s_isLive (by omega) (by omega) (fun g => absurd g el) (fun _ => br_nf rfl (k _ Fr.rf))
            · rw [e]
              refine t_of hs.1 (by omega) (by omega) ?_
              rw [show 22 + 16 * a + 4 = 26 + 16 * a by omega, (hR.live ha).resolve_right el]
              exact br_nf rfl (k _ Fr.rf)
        · exact E2.rd (v := (-1000003)) h hM (fun K k => s_ap1 (by omega) hR hj hv (bX6_addPhrase_31 _ _ _ (e_y (by omega) (by omega) (bX6_addPhrase_45 _ _ _ (by omega) (s_isFaulty (by omega) hn hC.2.2.2.1 (fun _ => br_nt one_ne (k _ Fr.rf)) (fun g => absurd g hok)))))) (fun s hs K k => t_ap1 (by omega) hs.1 hR hj hv (bX7_addPhrase_25 _ _ _ (by omega) (t_inY (by omega) (by omega) (by omega) (br_nt one_ne (t_textFault (by omega) hn hs.2.1 (br_nt (fun e => hok (hs.eflt.symm.trans e)) (k _ Fr.rf)))))))
      · exact E2.rd (v := (-1000002)) h hM (fun K k => s_ap1 (by omega) hR hj hv (bX6_addPhrase_31 _ _ _ (e_n (by omega) hy (k _ Fr.rf)))) (fun s hs K k => t_ap1 (by omega) hs.1 hR hj hv (bX7_addPhrase_25 _ _ _ (by omega) (t_inX (by omega) hy (br_nf rfl (k _ Fr.rf)))))
    · have nn : ¬ v = (-1000000) := fun e => hv (Or.inl e)
      have np : ∀ a, a < p → ¬ v = nI a := fun a ha e => hv (Or.inr ⟨a, ha, e⟩)
      exact E2.rd (v := (-1000001)) h hM (fun K k => eX6_addPhrase _ _ _ (by omega) (s_hmY (by omega) hR hj (br_f one_ne (br_f nn (s_hpN (by omega) hR np (br_nf rfl (k _ Fr.rf))))))) (fun s hs K k => eX7_addPhrase _ _ _ (by omega) (t_imY (by omega) hs.1 hR hj (br_f one_ne (br_f nn (t_ipN (by omega) hs.1 hR np (br_nf rfl (k _ Fr.rf)))))))
  · exact E2.rd (v := (-1000001)) h hM (fun K k => eX6_addPhrase _ _ _ (by omega) (s_hmN (by omega) hR hx (br_t rfl (k _ Fr.rf)))) (fun s hs K k => eX7_addPhrase _ _ _ (by omega) (t_imN (by omega) hs.1 hR hx (br_t rfl (k _ Fr.rf))))
end OPP
