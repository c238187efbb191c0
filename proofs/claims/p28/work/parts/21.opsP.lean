/-! A PHRASE IS ADDED -/
def wrd (f : Nat → Int32) (b : Nat) (u : Nat → Int32) (i : Nat) : Nat → Int32 := fun k => if b ≤ k ∧ k < b + i then u (k - b) else f k
theorem wrd_0 (f : Nat → Int32) (b : Nat) (u : Nat → Int32) : wrd f b u 0 = f := by
  funext k
  exact if_neg (by omega)
theorem wrd_s (f : Nat → Int32) (b : Nat) (u : Nat → Int32) (i : Nat) : upd (wrd f b u i) (b + i) (u i) = wrd f b u (i + 1) := by
  funext k
  unfold wrd
  by_cases e : k = b + i
  · rw [e, upd_at, if_pos (by omega), Nat.add_sub_cancel_left]
  · rw [upd_ne _ _ e]
    by_cases e2 : b ≤ k ∧ k < b + i
    · rw [if_pos e2, if_pos (by omega)]
    · rw [if_neg e2, if_neg (by omega)]
theorem wrd_ne {f : Nat → Int32} {b : Nat} {u : Nat → Int32} {i k : Nat} (h : k < b ∨ b + i ≤ k) : wrd f b u i k = f k := if_neg (by omega)
def phB (c : Nat → Int32) (p : Nat) (o t a : Int32) (la : Nat) : Nat → Int32 := upd (upd (upd (upd (upd (upd c (22 + 16 * p) o) (23 + 16 * p) (nI la)) (24 + 16 * p) t) (25 + 16 * p) a) (26 + 16 * p) (nI 1)) (27 + 16 * p) (nI 0)
def phr (c : Nat → Int32) (p : Nat) (o t a : Int32) (u : Nat → Int32) (la : Nat) : Nat → Int32 := wrd (phB (upd c 1 (nI (p + 1))) p o t a la) (28 + 16 * p) u la
theorem Row.ph {c c1 : Nat → Int32} {m p p' q : Nat} (h : Row c m p q) (hp : p ≤ p') (hp20 : p' ≤ 20) (h1 : c1 1 = nI p') (hl : ∀ k, k < 22 → k ≠ 1 → c1 k = c k) (hn : ∀ k, 342 ≤ k → k < 654 → c1 k = c k) (hph : ∀ j, j < p' → PhOK c1 m j) : Row c1 m p' q := by
  obtain ⟨g0, g1, g2, g3, g4, g5, g6, g7, g8, g9⟩ := h
  refine ⟨(hl _ (by omega) (by omega)).trans g0, g1, h1, hp20, (hl _ (by omega) (by omega)).trans g4, g5, hph, fun k hk => ?_, ?_, fun j hj => ?_⟩
  · obtain ⟨a1, ⟨o, o1, o2⟩, a3⟩ := g7 k hk
    unfold NtOK
    rw [hn _ (by omega) (by omega), hn _ (by omega) (by omega), hn _ (by omega) (by omega)]
    exact ⟨a1, ⟨o, by omega, o2⟩, a3⟩
  · rw [hl _ (by omega) (by omega)]
    exact g8
  · rw [hl _ (by omega) (by omega)]
    exact g9 j hj
theorem phr_lo {c : Nat → Int32} {p la k : Nat} {o t a : Int32} {u : Nat → Int32} (h : k < 22 + 16 * p) (h1 : k ≠ 1) : phr c p o t a u la k = c k := by
  unfold phr phB
  rw [wrd_ne (by omega), upd_ne _ _ (by omega), upd_ne _ _ (by omega), upd_ne _ _ (by omega), upd_ne _ _ (by omega), upd_ne _ _ (by omega), upd_ne _ _ (by omega), upd_ne _ _ (by omega)]
theorem phr_hi {c : Nat → Int32} {p la k : Nat} {o t a : Int32} {u : Nat → Int32} (hla : la ≤ 10) (h : 38 + 16 * p ≤ k) : phr c p o t a u la k = c k := by
  unfold phr phB
  rw [wrd_ne (by omega), upd_ne _ _ (by omega), upd_ne _ _ (by omega), upd_ne _ _ (by omega), upd_ne _ _ (by omega), upd_ne _ _ (by omega), upd_ne _ _ (by omega), upd_ne _ _ (by omega)]
theorem row_phr {c : Nat → Int32} {m p q la j : Nat} {t a : Int32} {u : Nat → Int32} (h : Row c m p q) (hp : p < 20) (hj : j < m) (ha : a = (-1000000) ∨ ∃ i, i < p ∧ a = nI i) (h1 : 1 ≤ la) (h2 : la ≤ 10) : Row (phr c p (nI j) t a u la) m (p + 1) q := by
  refine h.ph (by omega) (by omega) ?_ (fun k k1 k2 => phr_lo (by omega) k2) (fun k k1 k2 => phr_hi h2 (by omega)) (fun i hi => ?_)
  · unfold phr phB
    rw [wrd_ne (by omega), upd_ne _ _ (by omega), upd_ne _ _ (by omega), upd_ne _ _ (by omega), upd_ne _ _ (by omega), upd_ne _ _ (by omega), upd_ne _ _ (by omega), upd_at]
  · by_cases e : i = p
    · subst e
      unfold PhOK phr phB
      refine ⟨⟨j, hj, ?_⟩, ⟨la, h1, h2, ?_⟩, ?_, Or.inr ?_⟩
      · rw [wrd_ne (by omega), upd_ne _ _ (by omega), upd_ne _ _ (by omega), upd_ne _ _ (by omega), upd_ne _ _ (by omega), upd_ne _ _ (by omega), upd_at]
      · rw [wrd_ne (by omega), upd_ne _ _ (by omega), upd_ne _ _ (by omega), upd_ne _ _ (by omega), upd_ne _ _ (by omega), upd_at]
      · rw [wrd_ne (by omega), upd_ne _ _ (by omega), upd_ne _ _ (by omega), upd_at]
        exact ha
      · rw [wrd_ne (by omega), upd_ne _ _ (by omega), upd_at]
    · have g := h.2.2.2.2.2.2.1 i (by omega)
      unfold PhOK at g ⊢
      rw [phr_lo (by omega) (by omega), phr_lo (by omega) (by omega), phr_lo (by omega) (by omega), phr_lo (by omega) (by omega)]
      exact g
section OPP
variable {d : Nat} {σ : SS} {K : Int32 → SS → Prop} {Kv : SS → Prop} {c : Nat → Int32} {m p q n z : Nat}
theorem s_startPhrase {o t a : Int32} {la : Nat} {u : Nat → Int32} (hd : 1 ≤ d) (hp : σ.1 12 1 = nI p) (hp20 : p < 20) (hla : la ≤ 10) (h3 : σ.2.1 3 = nI la) (hu : ∀ i, i < la → σ.1 32 i = u i) (k : ∀ s, Fr (P1 12) F0f σ s → s.1 12 = phr (σ.1 12) p o t a u la → K (nI p) s) : CTi mX2_startPhrase d [.ref 1, .int o, .int t, .int a, .ref 4] σ K := by
  refine eX2_startPhrase _ _ _ Sen4 hd ⟨vp_in_nI (by omega) (by omega), vp_in_nI (by omega) (by omega), ?_⟩
  rw [cl (n := 1) (by omega), hp, nI_add]
  refine s_phraseCell (k := 0) ⟨vp_in_nI (by omega) (by omega), s_phraseCell (k := 1) ⟨vp_in_nI (by omega) (by omega), s_phraseCell (k := 2) ⟨vp_in_nI (by omega) (by omega), s_phraseCell (k := 3) ⟨vp_in_nI (by omega) (by omega), s_phraseCell (k := 4) ⟨vp_in_nI (by omega) (by omega), s_phraseCell (k := 5) ⟨vp_in_nI (by omega) (by omega), ?_⟩⟩⟩⟩⟩⟩
  rw [cl (by omega), cl (by omega), cl (by omega), cl (by omega), cl (by omega), cl (by omega), sA_f, sA_f, h3]
  rw [Nat.add_zero, show 22 + 16 * p + 1 = 23 + 16 * p by omega, show 22 + 16 * p + 2 = 24 + 16 * p by omega, show 22 + 16 * p + 3 = 25 + 16 * p by omega, show 22 + 16 * p + 4 = 26 + 16 * p by omega, show 22 + 16 * p + 5 = 27 + 16 * p by omega]
  refine cup (I := fun i s => Fr (P1 12) F0f σ s ∧ s.1 12 = wrd (phB (upd (σ.1 12) 1 (nI (p + 1))) p o t a la) (28 + 16 * p) u i) (G := fun i s => VV mX2_startPhrase d s00 86 [some (.ref 1), some (.int o), some (.int t), some (.int a), some (.ref 4), some (.int (nI p)), some (.int (nI i))] [] s (Qi K)) la ?_ ?_ 0 (Nat.zero_le _) _ ⟨(Fr.sA rfl).tr ((Fr.sA rfl).tr ((Fr.sA rfl).tr ((Fr.sA rfl).tr ((Fr.sA rfl).tr ((Fr.sA rfl).tr (Fr.sA rfl)))))), ?_⟩
  · intro s ⟨f, e⟩
    refine bX2_startPhrase_86 _ _ _ _ _ Sen4 hd ?_
    rw [f.2.1 3 rfl, h3]
    exact br_t (nI_le (Nat.le_refl _) (by omega)) (k s f e)
  · intro i hi ih s ⟨f, e⟩
    refine bX2_startPhrase_86 _ _ _ _ _ Sen4 hd ?_
    rw [f.2.1 3 rfl, h3, nI_add, nI_add]
    refine br_f (nI_ge hi (by omega)) (s_phraseCell ⟨vp_in_nI (by omega) (by omega), by rw [f.2.1 3 rfl, h3]; exact nI_ge hi (by omega), vp_in_nI (by omega) (by omega), ih _ ⟨f.tr (Fr.sA rfl), ?_⟩⟩)
    rw [cl (by omega), cl (by omega), sA_at, e, f.1 32 rfl, hu i hi, show 22 + 16 * p + (6 + i) = 28 + 16 * p + i by omega, wrd_s]
  · rw [wrd_0]
    simp only [sA_at]
    rfl
/-- the first checks -/
theorem s_ap1 {y v : Int32} {j : Nat} (hd : 2 ≤ d) (hR : Row (σ.1 12) m p q) (hj : j < m) (hv : v = (-1000000) ∨ ∃ a, a < p ∧ v = nI a) (k : VV mX6_addPhrase d s00 31 [some (.ref 0), some (.int (nI j)), some (.int y), some (.int v)] [] σ (Qi K)) : CTi mX6_addPhrase d [.ref 0, .int (nI j), .int y, .int v] σ K := by
  have hp20 := hR.2.2.2.1
  refine eX6_addPhrase _ _ _ (by omega) (s_hmY (by omega) hR hj (br_f one_ne ?_))
  rcases hv with rfl | ⟨a, ha, rfl⟩
  · exact br_t rfl k
  · exact br_f (nI_neN (by omega)) (s_hpY (by omega) hR ha (br_nt one_ne k))
end OPP
