/-! THE CLASS'S PUBLIC METHODS that write; the ways -/
section API2
variable {d : Nat} {σ : SS} {K : Int32 → SS → Prop} {Kl : Int64 → SS → Prop} {Kv : SS → Prop} {c b : Nat → Int32} {m p q n : Nat}
theorem p_addMember (hd : 6 ≤ d) (h : SX σ c b n) (hR : Row c m p q) (hm : m < 6) (k : ∀ s, SY s (upd (upd (upd c 0 (nI (m + 1))) (10 + 2 * m) (nI 40)) (11 + 2 * m) (nI 0)) b n c → K (nI m) s) : CTi mX6_addMember d [.ref 0] σ K := by
  obtain ⟨z, nx, H, hs⟩ := h
  obtain ⟨rfl, rfl, hn, hz, hC⟩ := id hs
  refine eX6_addMember (by omega) (s_members ?_)
  rw [hR.1]
  refine br_t (nI_lt hm (by omega)) (s_keep (by omega) hz hC (fun s0 f cs => s_startMember (m := m) (by omega) ?_ hm (k _ (hs.wr f cs (z12.tr (z12.tr z12)) ?_))))
  · rw [f.1 12 rfl]; exact hR.1
  · rw [sA_at, sA_at, sA_at, f.1 12 rfl]
theorem p_setPrice {j w : Nat} (hd : 6 ≤ d) (h : SX σ c b n) (hR : Row c m p q) (hj : j < m) (hw : w < 201) (k : ∀ v s, SY s (upd c (10 + 2 * j) (nI w)) b n c → K v s) : CTi mX6_setPrice d [.ref 0, .int (nI j), .int (nI w)] σ K := by
  obtain ⟨z, nx, H, hs⟩ := h
  obtain ⟨rfl, rfl, hn, hz, hC⟩ := id hs
  have hm6 := hR.2.1
  refine eX6_setPrice _ _ (by omega) (s_hmY (by omega) hR hj (br_nt one_ne (e_y (by omega) (by omega) (s_keep (by omega) hz hC (fun s0 f cs => s_priceOf (by omega) (by omega) (eX2_changePrice _ _ (by omega) (s_memberCell (k := 0) ⟨vp_in_nI (by omega) (by omega), ?_⟩)))))))
  rw [cl (by omega), Nat.add_zero]
  exact k _ _ (hs.wr f cs z12 (by rw [sA_at, f.1 12 rfl]))
theorem p_setPriceM {x y : Int32} (hd : 6 ≤ d) (h : RD σ c b n) (hR : Row c m p q) (hx : ∀ j, j < m → ¬ x = nI j) (k : K (-1000001) σ) : CTi mX6_setPrice d [.ref 0, .int x, .int y] σ K := by
  obtain ⟨rfl, -⟩ := h
  exact eX6_setPrice _ _ (by omega) (s_hmN (by omega) hR hx (br_nf rfl k))
theorem p_setPriceX {j : Nat} (hd : 6 ≤ d) (h : RD σ c b n) (hR : Row c m p q) (hj : j < m) (k : K (-1000002) σ) : CTi mX6_setPrice d [.ref 0, .int (nI j), .int (nI 201)] σ K := by
  obtain ⟨rfl, -⟩ := h
  exact eX6_setPrice _ _ (by omega) (s_hmY (by omega) hR hj (br_nt one_ne (e_n (N := 200) (by omega) (fun i hi => nI_neq (by omega) (by omega) (by omega)) k)))
theorem p_set {j : Nat} {y : Int32} (hd : 6 ≤ d) (h : SX σ c b n) (hR : Row c m p q) (hj : j < 5) (hlo : ¬ y < lst 100 j) (hhi : ¬ lst 101 j < y) (k : ∀ v s, SY s (upd c (5 + j) y) b n c → K v s) : CTi mX6_set d [.ref 0, .int (nI j), .int y] σ K := by
  obtain ⟨z, nx, H, hs⟩ := h
  obtain ⟨rfl, rfl, hn, hz, hC⟩ := id hs
  refine eX6_set _ _ (by omega) (c_y hj (by omega) ⟨vp_in_nI (by omega) (by omega), ?_⟩)
  rw [cl (by omega)]
  refine br_f hlo ⟨vp_in_nI (by omega) (by omega), br_t (Int32.not_lt.mp hhi) (s_keep (by omega) hz hC (fun s0 f cs => s_settingOf hj (eX2_changeSetting _ _ ?_)))⟩
  rw [nI_add, cl (by omega)]
  exact ⟨vp_in_nI (by omega) (by omega), k _ _ (hs.wr f cs z12 (by rw [sA_at, f.1 12 rfl]))⟩
theorem p_setX0 (hd : 6 ≤ d) (k : K (-1000002) σ) : CTi mX6_set d [.ref 0, .int (nI 0), .int (nI 0)] σ K := by
  refine eX6_set _ _ (by omega) (c_y (N := 5) (by omega) (by omega) ⟨vp_in_nI (by omega) (by omega), ?_⟩)
  rw [cl (by omega)]
  exact br_t (by decide) k
theorem p_setX5 {y : Int32} (hd : 6 ≤ d) (k : K (-1000001) σ) : CTi mX6_set d [.ref 0, .int (nI 5), .int y] σ K :=
  eX6_set _ _ (by omega) (c_n (N := 5) (by omega) (fun i hi => nI_neq (by omega) (by omega) (by omega)) k)
theorem p_pass {x t : Nat} (hd : 6 ≤ d) (h : SX σ c b n) (hx1 : 1 ≤ x) (hx : x ≤ 100) (ht : c 3 = nI t) (ht2 : t + x ≤ 10000) (k : ∀ v s, SY s (upd c 3 (nI (t + x))) b n c → K v s) : CTi mX6_pass d [.ref 0, .int (nI x)] σ K := by
  obtain ⟨z, nx, H, hs⟩ := h
  obtain ⟨rfl, rfl, hn, hz, hC⟩ := id hs
  refine eX6_pass _ (by omega) (br_f (nI_nlt hx1 (by omega)) (br_t (nI_le hx (by omega)) (s_tick ?_)))
  rw [ht, nI_add]
  refine br_t (nI_le ht2 (by omega)) (s_keep (by omega) hz hC (fun s0 f cs => eX2_moveTick _ ⟨vp_in_nI (by omega) (by omega), vp_in_nI (by omega) (by omega), ?_⟩))
  rw [cl (by omega), f.1 12 rfl, ht, nI_add]
  exact k _ _ (hs.wr f cs z12 (by rw [sA_at, f.1 12 rfl]))
theorem p_passX (hd : 6 ≤ d) (k : K (-1000002) σ) : CTi mX6_pass d [.ref 0, .int (nI 101)] σ K := eX6_pass _ (by omega) (br_f (by decide) (br_f (by decide) k))
theorem p_undo0 {z nx : Nat} {H : Nat → Nat → Int32} (hd : 6 ≤ d) (h : ST σ c b n z nx H) (hz : z = 0) (k : K (-1000003) σ) : CTi mX6_undo d [.ref 0] σ K := by
  subst hz
  exact eX6_undo (by omega) (br_nf h.2.2.2.2.2.2.1 k)
theorem p_undo {c0 : Nat → Int32} (hd : 6 ≤ d) (h : SY σ c b n c0) (hi : ∀ k, 654 ≤ k → c k = c0 k) (k : ∀ t s, t < 4 → SX s c0 b n → K (nI t) s) : CTi mX6_undo d [.ref 0] σ K := by
  obtain ⟨z, nx, H, ⟨rfl, rfl, hn, hz, hC⟩, hz1, hc0⟩ := h
  have zn : ¬ nI z = 0 := nI_neq (b := 0) (by omega) (by omega) (by omega)
  have hnx := hC.1
  refine eX6_undo (by omega) (br_nt (by rw [hC.2.2.1]; exact zn) (eX0_restoreInto (by omega) ?_))
  simp (disch := omega) only [sF_ne, sF_at, hC.2.1, hC.2.2.1, nI_add, pk_sub, pk_rem, cl]
  refine br_f (nI_ge (a := 0) (by omega) (by omega)) ⟨vp_in_nI (by omega) (by omega), s_copyFrom (by omega) (by omega) ?_⟩
  rw [sR_f, sF_at, sF_a, sF_a]
  refine k _ _ (by omega) ⟨z - 1, (nx + 4 - 1) % 4, H, ?_, ?_, hn, by omega, by omega, ?_, ?_, ?_, fun j hj t ht => ?_⟩
  · rw [sR_at]
    funext t
    by_cases ht : t < 654
    · rw [cpy_in ht, show (nx + 4 - 1) % 4 = (nx + 4 - z + (z - 1)) % 4 by omega, hC.2.2.2.2 (z - 1) (by omega) t ht]
      exact hc0 t ht
    · unfold va_cpy
      rw [if_neg (by omega)]
      exact hi t (by omega)
  · rw [sR_ne _ _ (by omega), sF_a, sF_a]
  · rw [sR_f, sF_ne _ _ (by omega), sF_at]
  · rw [sR_f, sF_at]
  · rw [sR_f, sF_ne _ _ (by omega), sF_ne _ _ (by omega)]
    exact hC.2.2.2.1
  · rw [sR_ne _ _ (by omega), sF_a, sF_a, show ((nx + 4 - 1) % 4 + 4 - (z - 1) + j) % 4 = (nx + 4 - z + j) % 4 by omega]
    exact hC.2.2.2.2 j (by omega) t ht
theorem p_retractX {o : Nat} (hd : 6 ≤ d) (h : RD σ c b n) (hR : Row c m p q) (ho : o < p) (hl : ¬ c (26 + 16 * o) = nI 1) (k : K (-1000003) σ) : CTi mX6_retract d [.ref 0, .int (nI o)] σ K := by
  obtain ⟨rfl, -⟩ := h
  have hp20 := hR.2.2.2.1
  exact eX6_retract _ (by omega) (s_hpY (by omega) hR ho (br_nt one_ne (s_isLive (by omega) (by omega) (fun g => absurd g hl) (fun _ => br_nf rfl k))))
theorem p_retract {o : Nat} (hd : 7 ≤ d) (h : SX σ c b n) (hR : Row c m p q) (ho : o < p) (hl : c (26 + 16 * o) = nI 1) (k : ∀ s, SY s (retR c m p q o) b n c → K (nI (cntP (Mk c o) p)) s) : CTi mX6_retract d [.ref 0, .int (nI o)] σ K := by
  obtain ⟨z, nx, H, hs⟩ := h
  obtain ⟨rfl, rfl, hn, hz, hC⟩ := id hs
  have hp20 := hR.2.2.2.1
  refine eX6_retract _ (by omega) (s_hpY (by omega) hR ho (br_nt one_ne (s_isLive (by omega) (by omega) (fun _ => br_nt one_ne (s_keep (by omega) hz hC (fun s0 f cs => ?_))) (fun g => absurd hl g))))
  have e12 : s0.1 12 = σ.1 12 := f.1 12 rfl
  refine s_markEndings (m := m) (p := p) (q := q) (by omega) (by rw [e12]; exact hR) ho (fun s1 f1 a1 => ?_)
  rw [e12] at a1
  have e12' : s1.1 12 = σ.1 12 := (f1.1 12 rfl).trans e12
  refine s_payBack (m := m) (p := p) (q := q) (o := o) (by omega) (by rw [e12']; exact hR) (by rw [e12']; exact a1) (fun s2 f2 e2 => ?_)
  rw [e12'] at e2
  have hu : ∀ k, k < q → usN (σ.1 12) k < m := fun k hk => (hR.us hk).2
  refine s_endMarked (c := σ.1 12) (o := o) (m := m) (p := p) (q := q) (by omega) hR (by rw [f2.1 13 rfl]; exact a1) ?_ (fun t h1 h2 => ?_) (fun s3 f3 e3 => ?_)
  · rw [e2, pb_out hR.2.1 q hu (by omega) (fun k hk => by omega)]
  · rw [e2, pb_out hR.2.1 q hu (by omega) (fun k hk => by omega)]
  · refine k s3 (hs.wr f cs (f1.CQ.tr (f2.Q12.tr f3.Q12)) ?_)
    rw [e3, e2]
    rfl
theorem p_wpbX {o : Nat} (hd : 6 ≤ d) (h : RD σ c b n) (hR : Row c m p q) (ho : o < p) (hl : ¬ c (26 + 16 * o) = nI 1) (k : K (-1000003) σ) : CTi mX6_wouldPayBack d [.ref 0, .int (nI o)] σ K := by
  obtain ⟨rfl, -⟩ := h
  have hp20 := hR.2.2.2.1
  exact eX6_wouldPayBack _ (by omega) (s_hpY (by omega) hR ho (br_nt one_ne (s_isLive (by omega) (by omega) (fun g => absurd g hl) (fun _ => br_nf rfl k))))
theorem p_wpb {o : Nat} (hd : 6 ≤ d) (h : RD σ c b n) (hR : Row c m p q) (ho : o < p) (hl : c (26 + 16 * o) = nI 1) (k : ∀ s, Fr PC FC σ s → K (sumP (Owd c o) (fun k => c (345 + 13 * k)) q) s) : CTi mX6_wouldPayBack d [.ref 0, .int (nI o)] σ K := by
  obtain ⟨rfl, -⟩ := h
  have hp20 := hR.2.2.2.1
  refine eX6_wouldPayBack _ (by omega) (s_hpY (by omega) hR ho (br_nt one_ne (s_isLive (by omega) (by omega) (fun _ => br_nt one_ne (s_markEndings (by omega) hR ho (fun s f a => ?_))) (fun g => absurd hl g))))
  have e12 : s.1 12 = σ.1 12 := f.1 12 rfl
  refine s_owedForMarked (m := m) (p := p) (q := q) (o := o) (by omega) (by rw [e12]; exact hR) (by rw [e12]; exact a) ?_
  rw [e12]
  exact k s f
theorem p_addPhrase {j w : Nat} {v : Int32} (hd : 7 ≤ d) (h : SX σ c b n) (hR : Row c m p q) (hj : j < m) (hw : w < 1000) (hok : flt b n = (-1000000)) (hv : v = (-1000000) ∨ ∃ a, a < p ∧ v = nI a ∧ c (26 + 16 * a) = nI 1) (hp : p < 20) (k : ∀ s, SY s (phr c p (nI j) (nI w) v (tw b n) (lw b n).length) b n c → K (nI p) s) : CTi mX6_addPhrase d [.ref 0, .int (nI j), .int (nI w), .int v] σ K := by
  obtain ⟨z, nx, H, hs⟩ := h
  obtain ⟨rfl, rfl, hn, hz, hC⟩ := id hs
  have hm6 := hR.2.1
  have ok := flt_ok (by omega) hok
  have go : VV mX6_addPhrase d s00 75 [some (.ref 0), some (.int (nI j)), some (.int (nI w)), some (.int v)] [] σ (Qi K) := by
    refine bX6_addPhrase_75 _ _ _ (by omega) (s_phrases ?_)
    rw [hR.2.2.1]
    refine br_t (nI_lt hp (by omega)) (s_keep (by omega) hz hC (fun s0 f cs => ?_))
    have e31 : s0.1 31 = σ.1 31 := f.1 31 rfl
    have e12 : s0.1 12 = σ.1 12 := f.1 12 rfl
    refine s_readText Sen4 (by omega) hn ((f.2.1 2 rfl).trans hC.2.2.2.1) (by rw [e31]; exact ok) (fun s2 f2 g1 g2 => ?_)
    rw [e31] at g1 g2
    have e12' : s2.1 12 = σ.1 12 := (f2.1 12 rfl).trans e12
    refine s_startPhrase (p := p) (la := (lw (σ.1 31) n).length) (u := tw (σ.1 31) n) (by omega) (by rw [e12']; exact hR.2.2.1) hp ok.2.2 g1 g2 (fun s3 f3 e3 => k s3 (hs.wr f cs ((f2.one (P := PQ) (F := FC) rfl rfl).tr f3.Q12) ?_))
    rw [e3, e12']
  refine s_ap1 (by omega) hR hj (hv.elim Or.inl (fun ⟨a, h1, h2, _⟩ => Or.inr ⟨a, h1, h2⟩)) (bX6_addPhrase_31 _ _ _ (e_y (by omega) (by omega) (bX6_addPhrase_45 _ _ _ (by omega) (s_isFaulty (by omega) hn hC.2.2.2.1 (fun g => absurd hok g) (fun _ => br_nf rfl ?_)))))
  rcases hv with e | ⟨a, ha, e, el⟩
  · exact br_t e go
  · refine br_f (by rw [e]; exact nI_neN (by omega)) ?_
    rw [e] at go ⊢
    exact s_isLive (by omega) (by omega) (fun _ => br_nt one_ne go) (fun g => absurd el g)
theorem p_addPhraseT (hd : 6 ≤ d) (h : RD σ c b n) (hR : Row c m p q) (hj : 0 < m) (k : K (-1000002) σ) : CTi mX6_addPhrase d [.ref 0, .int (nI 0), .int (nI 1000), .int (-1000000)] σ K := by
  obtain ⟨rfl, -⟩ := h
  exact s_ap1 (by omega) hR hj (Or.inl rfl) (bX6_addPhrase_31 _ _ _ (e_n (N := 999) (by omega) (fun i hi => nI_neq (by omega) (by omega) (by omega)) k))
theorem p_addPhraseP (hd : 6 ≤ d) (h : RD σ c b n) (hR : Row c m p q) (hj : 0 < m) (k : K (-1000001) σ) : CTi mX6_addPhrase d [.ref 0, .int (nI 0), .int (nI 0), .int (nI p)] σ K := by
  obtain ⟨rfl, -⟩ := h
  have hp20 := hR.2.2.2.1
  exact eX6_addPhrase _ _ _ (by omega) (s_hmY (by omega) hR hj (br_f one_ne (br_f (nI_neN (by omega)) (s_hpN (by omega) hR (fun a ha => nI_neq (by omega) (by omega) (by omega)) (br_nf rfl k)))))
theorem p_clearText (hd : 6 ≤ d) (h : SX σ c b n) (k : ∀ v s, SX s c b 0 → K v s) : CTi mX6_clearText d [.ref 0] σ K := by
  obtain ⟨z, nx, H, h1, h2, hn, hz, hC⟩ := h
  refine eX6_clearText (by omega) (eX3_empty ?_)
  exact k _ _ ⟨z, nx, H, h1, h2, by omega, hz, hC.1, hC.2.1, hC.2.2.1, rfl, hC.2.2.2.2⟩
theorem p_type {w : Nat} (hd : 6 ≤ d) (h : SX σ c b n) (hw : w < 256) (h40 : n < 40) (k : ∀ v s, SX s c (upd b n (nI w)) (n + 1) → K v s) : CTi mX6_type d [.ref 0, .int (nI w)] σ K := by
  obtain ⟨z, nx, H, rfl, rfl, hn, hz, hC⟩ := h
  refine eX6_type _ (by omega) (e_y (by omega) (by omega) ?_)
  rw [hC.2.2.2.1]
  refine br_t (nI_lt h40 (by omega)) (eX3_append _ ?_)
  rw [hC.2.2.2.1]
  refine br_f (nI_ge h40 (by omega)) ⟨vp_in_nI h40 (by omega), ?_⟩
  rw [cl (by omega), sA_f, hC.2.2.2.1, nI_add, sF_at]
  refine k _ _ ⟨z, nx, H, ?_, ?_, by omega, hz, hC.1, hC.2.1, hC.2.2.1, rfl, fun j hj t ht => ?_⟩
  · rw [sF_a, sA_ne _ _ _ (by omega)]
  · rw [sF_a, sA_at]
  · simp (disch := omega) only [sF_a, sA_ne]
    exact hC.2.2.2.2 j hj t ht
/-- the best way's cost -/
def wyC : Wy → Int32
  | none => (-1000000)
  | some w => nI w.1
theorem p_cheapest {j : Nat} (hd : 6 ≤ d) (h : RD σ c b n) (hR : Row c m p q) (hok : flt b n = (-1000000)) (hj : j < m) (k : ∀ s, Fr PC FC σ s → K (wyC (wtab c j (tw b n) (lw b n).length p (lw b n).length 0)) s) : CTi mX6_cheapest d [.ref 0, .int (nI j)] σ K := by
  obtain ⟨rfl, rfl, hn, hl⟩ := h
  have ok := flt_ok (by omega) hok
  refine eX6_cheapest _ (by omega) (s_hmY (by omega) hR hj (br_nt one_ne (s_isFaulty (by omega) hn hl (fun g => absurd hok g) (fun _ => br_t rfl (s_findWays (by omega) hR hn hl ok hj (fun s f t => eX4_bestCost ⟨vp_in_nI (by omega) (by omega), ?_⟩))))))
  have t0 := (t 0 (Nat.le_refl _) (Nat.zero_le _)).1
  have e : s.1 33 0 = wyC (wtab (σ.1 12) j (tw (σ.1 31) n) (lw (σ.1 31) n).length p (lw (σ.1 31) n).length 0) := by
    cases hw : wtab (σ.1 12) j (tw (σ.1 31) n) (lw (σ.1 31) n).length p (lw (σ.1 31) n).length 0 with
    | none => rw [hw] at t0; exact t0.1
    | some w => rw [hw] at t0; exact t0.1
  rw [cl (by omega), e]
  exact k s f
/-- the e-th piece of the best way, or none -/
theorem p_piece {j e : Nat} {T : Nat → Wy} {la : Nat} (hd : 7 ≤ d) (h : RD σ c b n) (hR : Row c m p q) (hok : flt b n = (-1000000)) (hj : j < m) (he : e < 2 ^ 31) (hla : (lw b n).length = la) (hT : wtab c j (tw b n) la p la = T)
    (k0 : (∀ w, T 0 = some w → ¬ e < w.2.1) → ∀ s, Fr PC FC σ s → K (-1000000) s) (k1 : ∀ w0 w, T 0 = some w0 → e < w0.2.1 → T (wlk c T e 0) = some w → ∀ s, Fr PC FC σ s → K (nI w.2.2) s) : CTi mX6_piece d [.ref 0, .int (nI j), .int (nI e)] σ K := by
  obtain ⟨rfl, rfl, hn, hl⟩ := h
  have hm6 := hR.2.1
  have hp20 := hR.2.2.2.1
  have h0e : 0 ≤ nI e := Int32.not_lt.mp (nI_pos he)
  have ok := flt_ok (by omega) hok
  have h10 := ok.2.2
  have hTo := wtab_ok (u := tw (σ.1 31) n) (j := j) (la := (lw (σ.1 31) n).length) hR (lw (σ.1 31) n).length (Nat.le_refl _)
  rw [Nat.sub_self, hla, hT] at hTo
  rw [hla] at h10
  refine eX6_piece _ _ (by omega) (s_hmY (by omega) hR hj (br_nt one_ne (br_t h0e (s_isFaulty (by omega) hn hl (fun g => absurd hok g) (fun _ => br_t rfl (s_findWays (by omega) hR hn hl ok hj (fun s f t => ?_)))))))
  rw [hla, hT] at t
  refine eX4_pieceAt _ (br_f (nI_pos (by omega)) ⟨vp_in_nI (by omega) (by omega), ?_⟩)
  have ce := (t 0 (Nat.le_refl _) (Nat.zero_le _)).1
  rw [cl (by omega)]
  cases h0 : T 0 with
  | none =>
    rw [h0] at ce
    rw [ce.2]
    exact br_f (nnI (by omega) (by omega)) (k0 (fun w hw => by rw [h0] at hw; cases hw) s f)
  | some w0 =>
    rw [h0] at ce
    obtain ⟨a1, a2, -⟩ := hTo 0 (Nat.zero_le _) (Nat.zero_le _) w0 h0
    rw [ce.2]
    by_cases he2 : e < w0.2.1
    · have wk := wlk_ok hTo h0
      obtain ⟨hl', w, hw, hw2, hw3, -, -⟩ := wk e he2
      refine br_t (nI_lt he2 (by omega)) ?_
      refine cup (I := fun i (_ : SS) => True) (G := fun i _ => VV mX4_pieceAt (d - 1) s00 21 [some (.ref 5), some (.int (nI e)), some (.int (nI (wlk (σ.1 12) T i 0))), some (.int (nI i))] [] s (Qi K)) e ?_ ?_ 0 (Nat.zero_le _) s trivial
      · intro _ _
        refine bX4_pieceAt_21 _ _ _ (br_t (nI_le (Nat.le_refl _) (by omega)) ⟨vp_in_nI (by omega) (by omega), ?_⟩)
        rw [cl (by omega), ((t _ (Nat.zero_le _) (by omega)).2 hl' w hw).1]
        exact k1 w0 w h0 he2 hw s f
      · intro i hi ih _ _
        obtain ⟨q1, v, q2, q3, q4, q5, q6⟩ := wk i (by omega)
        refine bX4_pieceAt_21 _ _ _ (br_f (nI_ge hi (by omega)) ⟨vp_in_nI (by omega) (by omega), ?_⟩)
        rw [cl (by omega), ((t _ (Nat.zero_le _) (by omega)).2 q1 v q2).2, nI_add, ← q5]
        exact ih s trivial
    · exact br_f (nnI he2 (by omega)) (k0 (fun w hw => by rw [h0] at hw; cases hw; exact he2) s f)
end API2
