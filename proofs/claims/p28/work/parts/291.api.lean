/-! THE CLASS'S PUBLIC METHODS, as the law calls them -/
/-- what a call reads: the row, the text -/
def RD (σ : SS) (c b : Nat → Int32) (n : Nat) : Prop := σ.1 12 = c ∧ σ.1 31 = b ∧ n ≤ 40 ∧ σ.2.1 2 = nI n
/-- and the kept rows -/
def ST (σ : SS) (c b : Nat → Int32) (n z nx : Nat) (H : Nat → Nat → Int32) : Prop := σ.1 12 = c ∧ σ.1 31 = b ∧ n ≤ 40 ∧ z ≤ 4 ∧ CS σ n z nx H
def SX (σ : SS) (c b : Nat → Int32) (n : Nat) : Prop := ∃ z nx H, ST σ c b n z nx H
/-- the last kept row is c0 -/
def SY (σ : SS) (c b : Nat → Int32) (n : Nat) (c0 : Nat → Int32) : Prop := ∃ z nx H, ST σ c b n z nx H ∧ 1 ≤ z ∧ ∀ k, k < 654 → H (z - 1) k = c0 k
theorem RD.C {σ s : SS} {c b : Nat → Int32} {n : Nat} (h : RD σ c b n) (f : Fr PC FC σ s) : RD s c b n := ⟨(f.1 12 rfl).trans h.1, (f.1 31 rfl).trans h.2.1, h.2.2.1, (f.2.1 2 rfl).trans h.2.2.2⟩
theorem ST.C {σ s : SS} {c b : Nat → Int32} {n z nx : Nat} {H : Nat → Nat → Int32} (h : ST σ c b n z nx H) (f : Fr PC FC σ s) : ST s c b n z nx H := ⟨(f.1 12 rfl).trans h.1, (f.1 31 rfl).trans h.2.1, h.2.2.1, h.2.2.2.1, CS.C h.2.2.2.2 f⟩
theorem SX.C {σ s : SS} {c b : Nat → Int32} {n : Nat} (h : SX σ c b n) (f : Fr PC FC σ s) : SX s c b n := by
  obtain ⟨z, nx, H, h⟩ := h
  exact ⟨z, nx, H, h.C f⟩
theorem SY.C {σ s : SS} {c b c0 : Nat → Int32} {n : Nat} (h : SY σ c b n c0) (f : Fr PC FC σ s) : SY s c b n c0 := by
  obtain ⟨z, nx, H, h, h2⟩ := h
  exact ⟨z, nx, H, h.C f, h2⟩
theorem SY.X {σ : SS} {c b c0 : Nat → Int32} {n : Nat} (h : SY σ c b n c0) : SX σ c b n := by
  obtain ⟨z, nx, H, h, h2⟩ := h
  exact ⟨z, nx, H, h⟩
theorem SX.rd {σ : SS} {c b : Nat → Int32} {n : Nat} (h : SX σ c b n) : RD σ c b n := by
  obtain ⟨z, nx, H, h1, h2, h3, h4, h5⟩ := h
  exact ⟨h1, h2, h3, h5.2.2.2.1⟩
theorem SY.rd {σ : SS} {c b c0 : Nat → Int32} {n : Nat} (h : SY σ c b n c0) : RD σ c b n := h.X.rd
theorem recH_top {H : Nat → Nat → Int32} {z : Nat} {c : Nat → Int32} (hz : z ≤ 4) : recH H z c (min (z + 1) 4 - 1) = c := by
  unfold recH
  by_cases h4 : z < 4
  · rw [if_pos h4, if_neg (by omega)]
  · rw [if_neg h4, if_neg (by omega)]
theorem ST.wr {σ s0 s : SS} {c b c1 : Nat → Int32} {n z nx : Nat} {H : Nat → Nat → Int32} (h : ST σ c b n z nx H) (fk : Fr PK FK σ s0) (cs : CS s0 n (min (z + 1) 4) ((nx + 1) % 4) (recH H z c)) (f : Fr PQ FC s0 s) (e : s.1 12 = c1) : SY s c1 b n c :=
  ⟨_, _, _, ⟨e, (f.1 31 rfl).trans ((fk.1 31 rfl).trans h.2.1), h.2.2.1, by omega, CS.Q cs f⟩, by omega, fun k _ => by rw [recH_top h.2.2.2.1]⟩
section API
variable {d : Nat} {σ : SS} {K : Int32 → SS → Prop} {Kl : Int64 → SS → Prop} {Kv : SS → Prop} {c b : Nat → Int32} {m p q n : Nat}
theorem s_low {v : Int32} {N : Nat} (hN : 1 ≤ N) (hN2 : N < 2 ^ 31) (k : ∀ r, r < N → K (nI r) σ) : CTi mL_low d [.int v, .int (nI N)] σ K := by
  obtain ⟨j, hj, e⟩ := pk_andE v (m := 2147483647) 31 (by decide)
  refine eL_low _ _ ⟨nI_ne0 (by omega) hN2, ?_⟩
  rw [e, pk_rem hj (by omega) hN2]
  exact k _ (Nat.mod_lt _ (by omega))
theorem p_count {w : Nat} (hd : 6 ≤ d) (h : RD σ c b n) (hR : Row c m p q) (hw : w < 13) (k : ∀ s, Fr PC FC σ s → K (cprop c p q w) s) : CTi mX6_count d [.ref 0, .int (nI w)] σ K := by
  obtain ⟨rfl, -⟩ := h
  exact eX6_count _ (by omega) (c_y (N := 14) (by omega) (by omega) (br_nt (nI_neq (by omega) (by omega) (by omega)) (s_countOf (by omega) hR hw (fun s f => k s f.LC))))
theorem p_count14 (hd : 6 ≤ d) (k : K (-1000002) σ) : CTi mX6_count d [.ref 0, .int (nI 14)] σ K :=
  eX6_count _ (by omega) (c_n (N := 14) (by omega) (fun j hj => nI_neq (by omega) (by omega) (by omega)) k)
theorem p_member {j w : Nat} (hd : 6 ≤ d) (h : RD σ c b n) (hR : Row c m p q) (hj : j < m) (hw : w < 5) (k : K (mprop c p q j w) σ) : CTi mX6_member d [.ref 0, .int (nI j), .int (nI w)] σ K := by
  obtain ⟨rfl, -⟩ := h
  have hm6 := hR.2.1
  exact eX6_member _ _ (by omega) (s_hmY (by omega) hR hj (br_nt one_ne (c_y hw (by omega) (s_memberProperty (by omega) hR (by omega) hw k))))
theorem p_phrase {j w : Nat} (hd : 6 ≤ d) (h : RD σ c b n) (hR : Row c m p q) (hj : j < p) (hw : w < 7) (k : ∀ s, Fr PC FC σ s → K (pprop c p j w) s) : CTi mX6_phrase d [.ref 0, .int (nI j), .int (nI w)] σ K := by
  obtain ⟨rfl, -⟩ := h
  exact eX6_phrase _ _ (by omega) (s_hpY (by omega) hR hj (br_nt one_ne (c_y hw (by omega) (s_phraseProperty (by omega) hR hj hw (fun s f => k s f.LC)))))
theorem p_wordX (hd : 6 ≤ d) (h : RD σ c b n) (hR : Row c m p q) (hj : 0 < p) (k : K (-1000002) σ) : CTi mX6_word d [.ref 0, .int (nI 0), .int (-1)] σ K := by
  obtain ⟨rfl, -⟩ := h
  exact eX6_word _ _ (by omega) (s_hpY (by omega) hR hj (br_nt one_ne (br_f (by decide) k)))
theorem p_score {j i : Nat} (hd : 6 ≤ d) (h : RD σ c b n) (hR : Row c m p q) (hj : j < p) (hi : i < p) (k : ∀ s, Fr PC FC σ s → K (nI (scr (phw c j) (lnN c j) (phw c i) (lnN c i))) s) : CTi mX6_score d [.ref 0, .int (nI j), .int (nI i)] σ K := by
  obtain ⟨rfl, -⟩ := h
  have hp20 := hR.2.2.2.1
  obtain ⟨hl, hl1, hl2⟩ := hR.len hj
  obtain ⟨gl, gl1, gl2⟩ := hR.len hi
  exact eX6_score _ _ (by omega) (s_hpY (by omega) hR hj (br_f one_ne (s_hpY (by omega) hR hi (br_nt one_ne (s_likenessOf (by omega) hl1 hl2 gl2 (by omega) (by omega) hl gl (fun s f => k s f.LC))))))
theorem p_note {j w : Nat} (hd : 6 ≤ d) (h : RD σ c b n) (hR : Row c m p q) (hj : j < q) (hw : w < 13) (k : K (c (342 + 13 * j + w)) σ) : CTi mX6_note d [.ref 0, .int (nI j), .int (nI w)] σ K := by
  obtain ⟨rfl, -⟩ := h
  have hq24 := hR.2.2.2.2.2.1
  exact eX6_note _ _ (by omega) (s_hnY (by omega) hR hj (br_nt one_ne (c_y hw (by omega) (s_noteProperty (by omega) (by omega) hw k))))
theorem p_textFault (hd : 6 ≤ d) (h : RD σ c b n) (k : K (flt b n) σ) : CTi mX6_textFault d [.ref 0] σ K := by
  obtain ⟨-, rfl, hn, hl⟩ := h
  exact eX6_textFault (by omega) (s_fault (by omega) hn hl k)
theorem p_matchX (hd : 6 ≤ d) (h : RD σ c b n) (hno : ¬ flt b n = (-1000000)) (k : K (-1000003) σ) : CTi mX6_match d [.ref 0] σ K := by
  obtain ⟨-, rfl, hn, hl⟩ := h
  exact eX6_match (by omega) (s_isFaulty (by omega) hn hl (fun g => br_f one_ne k) (fun g => absurd g hno))
theorem p_match {th : Nat} (hd : 6 ≤ d) (h : RD σ c b n) (hR : Row c m p q) (hok : flt b n = (-1000000)) (hth : c 5 = nI th) (hth2 : th ≤ 100) (k : ∀ s, Fr PC FC σ s → K (fmN (fm c th (tsc b n c) p)) s) : CTi mX6_match d [.ref 0] σ K := by
  obtain ⟨rfl, rfl, hn, hl⟩ := h
  exact eX6_match (by omega) (s_isFaulty (by omega) hn hl (fun g => absurd hok g) (fun _ => br_t rfl (s_findMatch (by omega) hR hn hl (flt_ok (by omega) hok) hth hth2 (fun s f _ _ => k s f))))
theorem p_alike {j : Nat} (hd : 6 ≤ d) (h : RD σ c b n) (hR : Row c m p q) (hok : flt b n = (-1000000)) (hj : j < p) (k : ∀ s, Fr PC FC σ s → K (nI (tsc b n c j)) s) : CTi mX6_alike d [.ref 0, .int (nI j)] σ K := by
  obtain ⟨rfl, rfl, hn, hl⟩ := h
  have hp20 := hR.2.2.2.1
  obtain ⟨hl1, hl2, hl3⟩ := hR.len hj
  have ok := flt_ok (by omega) hok
  refine eX6_alike _ (by omega) (s_hpY (by omega) hR hj (br_nt one_ne (s_isFaulty (by omega) hn hl (fun g => absurd hok g) (fun _ => br_t rfl (s_readText Sen4 (by omega) hn hl ok (fun s f g1 g2 => ?_))))))
  have e12 : s.1 12 = σ.1 12 := f.1 12 rfl
  refine s_likenessTo Sen4 (by omega) (by omega) ok.2.1 ok.2.2 hl3 (by omega) g1 g2 (by rw [e12]; exact hl1) (fun s2 f2 => ?_)
  rw [e12]
  exact k s2 ((f.one rfl rfl).tr f2.LC)
theorem p_digest (hd : 6 ≤ d) (h : RD σ c b n) (hR : Row c m p q) (k : ∀ s, Fr PC FC σ s → Kl (dgA c m p q) s) : CTl mX6_digest d [.ref 0] σ Kl := by
  obtain ⟨rfl, -⟩ := h
  exact s_digest hd hR k
/-- the fee that is foretold -/
noncomputable def feeO (c b : Nat → Int32) (n j : Nat) : Option (Nat × Nat) → Int32
  | none => (-1000000)
  | some w => feeV c j w.1 (tsc b n c w.1)
theorem p_feeX {x : Int32} (hd : 6 ≤ d) (h : RD σ c b n) (hR : Row c m p q) (hx : ∀ j, j < m → ¬ x = nI j) (k : K (-1000001) σ) : CTi mX6_fee d [.ref 0, .int x] σ K := by
  obtain ⟨rfl, -⟩ := h
  exact eX6_fee _ (by omega) (s_hmN (by omega) hR hx (br_nf rfl k))
theorem p_fee {th j : Nat} (hd : 6 ≤ d) (h : RD σ c b n) (hR : Row c m p q) (hok : flt b n = (-1000000)) (hth : c 5 = nI th) (hth2 : th ≤ 100) (hj : j < m) (k : ∀ s, Fr PC FC σ s → K (feeO c b n j (fm c th (tsc b n c) p)) s) : CTi mX6_fee d [.ref 0, .int (nI j)] σ K := by
  obtain ⟨rfl, rfl, hn, hl⟩ := h
  have hm6 := hR.2.1
  have hp20 := hR.2.2.2.1
  have ok := flt_ok (by omega) hok
  have inv := fm_inv (c := σ.1 12) (th := th) (sc := tsc (σ.1 31) n (σ.1 12)) p
  refine eX6_fee _ (by omega) (s_hmY (by omega) hR hj (br_nt one_ne (s_isFaulty (by omega) hn hl (fun g => absurd hok g) (fun _ => br_t rfl (s_findMatch (by omega) hR hn hl ok hth hth2 (fun s f g1 g2 => ?_))))))
  generalize fm (σ.1 12) th (tsc (σ.1 31) n (σ.1 12)) p = o at inv k ⊢
  cases o with
  | none => exact br_nf rfl (k s f)
  | some w =>
    obtain ⟨i1, i2, i3, i4⟩ := inv w rfl
    have e12 : s.1 12 = σ.1 12 := f.1 12 rfl
    have hR' : Row (s.1 12) m p q := by rw [e12]; exact hR
    refine br_nt (nI_neN (by omega)) (s_matchFee (n := n) (by omega) hR' hj i1 ok.2.1 ok.2.2 g1 g2 (fun s2 f2 => s_feeV (by omega) (by rw [f2.1 12 rfl]; exact hR') hj i1 ?_))
    rw [f2.1 12 rfl, e12]
    exact k s2 (f.tr f2.LC)
theorem p_useX {x : Int32} (hd : 6 ≤ d) (h : RD σ c b n) (hR : Row c m p q) (hx : ∀ j, j < m → ¬ x = nI j) (k : K (-1000001) σ) : CTi mX6_use d [.ref 0, .int x] σ K := by
  obtain ⟨rfl, -⟩ := h
  exact eX6_use _ (by omega) (s_hmN (by omega) hR hx (br_nf rfl k))
theorem p_use {th j : Nat} (hd : 7 ≤ d) (h : SX σ c b n) (hR : Row c m p q) (hok : flt b n = (-1000000)) (hth : c 5 = nI th) (hth2 : th ≤ 100) (hj : j < m) (hq : q < 24)
    (k0 : fm c th (tsc b n c) p = none → ∀ s, SY s c b n c → K (-1000000) s) (k1 : ∀ w, fm c th (tsc b n c) p = some w → ∀ s, SY s (useR c m q j w.1 (tsc b n c w.1) (feeV c j w.1 (tsc b n c w.1))) b n c → K (nI q) s) : CTi mX6_use d [.ref 0, .int (nI j)] σ K := by
  obtain ⟨z, nx, H, hs⟩ := h
  obtain ⟨rfl, rfl, hn, hz, hC⟩ := id hs
  have hm6 := hR.2.1
  have hp20 := hR.2.2.2.1
  have ok := flt_ok (by omega) hok
  have inv := fm_inv (c := σ.1 12) (th := th) (sc := tsc (σ.1 31) n (σ.1 12)) p
  refine eX6_use _ (by omega) (s_hmY (by omega) hR hj (br_nt one_ne (s_isFaulty (by omega) hn hC.2.2.2.1 (fun g => absurd hok g) (fun _ => br_t rfl (s_notes ?_)))))
  rw [hR.2.2.2.2.1]
  refine br_t (nI_lt hq (by omega)) (s_keep (by omega) hz hC (fun s0 f cs => ?_))
  have e12 : s0.1 12 = σ.1 12 := f.1 12 rfl
  have e31 : s0.1 31 = σ.1 31 := f.1 31 rfl
  refine s_findMatch (n := n) (th := th) (m := m) (p := p) (q := q) (by omega) (by rw [e12]; exact hR) hn ((f.2.1 2 rfl).trans hC.2.2.2.1) (by rw [e31]; exact ok) (by rw [e12]; exact hth) hth2 (fun s f2 g1 g2 => ?_)
  rw [e31] at g1 g2
  rw [e31, e12]
  generalize ho : fm (σ.1 12) th (tsc (σ.1 31) n (σ.1 12)) p = o at inv k0 k1
  have e12s : s.1 12 = σ.1 12 := (f2.1 12 rfl).trans e12
  cases o with
  | none => exact br_nf rfl (k0 rfl s (hs.wr f cs f2.CQ e12s))
  | some w =>
    obtain ⟨i1, i2, i3, i4⟩ := inv w rfl
    have hR' : Row (s.1 12) m p q := by rw [e12s]; exact hR
    refine br_nt (nI_neN (by omega)) (s_matchFee (n := n) (by omega) hR' hj i1 ok.2.1 ok.2.2 g1 g2 (fun s2 f3 => ?_))
    rw [e12s]
    have e12' : s2.1 12 = σ.1 12 := (f3.1 12 rfl).trans e12s
    refine s_startNote (m := m) (p := p) (by omega) (by rw [e12']; exact hR) hq hj i1 (fun s3 f4 e3 => k1 w rfl s3 (hs.wr f cs (f2.CQ.tr (f3.LC.CQ.tr f4.Q12)) ?_))
    rw [e3, e12']
    rfl
end API
