/-! THE LAW'S START: members, settings, phrases -/
section LAWC
variable {sc : Scr} {σ : SS} {K : Int32 → SS → Prop} {c b : Nat → Int32} {m p n i : Nat} {v2 v6 : Int32}
theorem ph_1 {la P : Nat} {o t v : Int32} {u : Nat → Int32} : pprop (phr c p o t v u la) P p 1 = nI la := by
  show phr c p o t v u la (22 + 16 * p + 1) = _
  rw [phr_n (by omega), show 22 + 16 * p + 1 = 23 + 16 * p by omega]
  unfold phB
  rw [upd_ne _ _ (by omega), upd_ne _ _ (by omega), upd_ne _ _ (by omega), upd_ne _ _ (by omega), upd_at]
theorem ph_3 {la P : Nat} {o t v : Int32} {u : Nat → Int32} : pprop (phr c p o t v u la) P p 3 = v := by
  show phr c p o t v u la (22 + 16 * p + 3) = _
  rw [phr_n (by omega), show 22 + 16 * p + 3 = 25 + 16 * p by omega]
  unfold phB
  rw [upd_ne _ _ (by omega), upd_ne _ _ (by omega), upd_at]
theorem ph_al {o t v : Int32} (h1 : 1 ≤ (lw b n).length) (h10 : (lw b n).length ≤ 10) : tsc b n (phr c p o t v (tw b n) (lw b n).length) p = 100 := by
  have el : lnN (phr c p o t v (tw b n) (lw b n).length) p = (lw b n).length := by
    unfold lnN
    rw [show phr c p o t v (tw b n) (lw b n).length (23 + 16 * p) = nI (lw b n).length by
      have e := ph_1 (c := c) (p := p) (P := 0) (la := (lw b n).length) (o := o) (t := t) (v := v) (u := tw b n)
      have e : phr c p o t v (tw b n) (lw b n).length (22 + 16 * p + 1) = nI (lw b n).length := e
      rw [show 22 + 16 * p + 1 = 23 + 16 * p by omega] at e
      exact e, cl (by omega)]
  unfold tsc
  rw [el]
  refine (scr_100 h1).mpr ⟨rfl, fun k hk => ?_⟩
  show tw b n k = phr c p o t v (tw b n) (lw b n).length (28 + 16 * p + k)
  unfold phr wrd
  rw [if_pos (by omega), Nat.add_sub_cancel_left]
/-- a phrase is added: the law's checks of it -/
theorem law_added {v : Int32} {j t : Nat} (hs : SX σ c b n) (hK : KK c m i) (hm6 : m ≤ 6) (hi : i < 20) (hj : j < m) (ht : t < 3) (hok : flt b n = (-1000000)) (hla : (lw b n).length = n) (hv : v = (-1000000) ∨ ∃ a, a < i ∧ v = nI a)
    {K1 : Int32 → SS → Prop} {K2 : Int32 → SS → Prop} {K3 : Int32 → SS → Prop} {K4 : Int32 → SS → Prop}
    (k1 : ∀ s, CTi mX6_phrase (8 - 1) [.ref 0, .int (nI i), .int (nI 1)] s K2 → K1 (nI i) s) (k2 : ∀ s, CTi mX6_alike (8 - 1) [.ref 0, .int (nI i)] s K3 → K2 (nI n) s) (k3 : ∀ s, CTi mX6_phrase (8 - 1) [.ref 0, .int (nI i), .int (nI 3)] s K4 → K3 (nI 100) s) (k4 : ∀ s c1, SX s c1 b n → KK c1 m (i + 1) → K4 v s) : CTi mX6_addPhrase (8 - 1) [.ref 0, .int (nI j), .int (nI t), .int v] σ K1 := by
  have ok := flt_ok (by have := hs.rd.2.2.1; omega) hok
  have hR := hK.1
  refine p_addPhrase (by omega) hs hR hj (by omega) hok (hv.elim Or.inl (fun ⟨a, h1, h2⟩ => Or.inr ⟨a, h1, h2, (hK.2.2.2.2.2.2 a h1).1⟩)) hi (fun s1 h1 => ?_)
  have hK1 := hK.phrase (t := nI t) (v := v) (u := tw b n) hi hj hv ok.2.1 ok.2.2
  refine k1 s1 (p_phrase (w := 1) (by omega) h1.rd hK1.1 (by omega) (by omega) (fun s2 f2 => ?_))
  rw [ph_1, hla]
  refine k2 s2 (p_alike (by omega) (h1.C f2).rd (q := 0) hK1.1 hok (by omega) (fun s3 f3 => ?_))
  rw [ph_al ok.2.1 ok.2.2]
  refine k3 s3 (p_phrase (w := 3) (by omega) ((h1.C f2).C f3).rd hK1.1 (by omega) (by omega) (fun s4 f4 => ?_))
  rw [ph_3]
  exact k4 s4 _ (((h1.C f2).C f3).C f4).X hK1
theorem law280 (hs : SX σ c b n) (hK : KK c m i) (hm : 1 ≤ m) (hi : i < 20) (hok : flt b n = (-1000000)) (hla : (lw b n).length = n) (k : ∀ s c1, SX s c1 b n → KK c1 m (i + 1) → VV mL_law 8 sc 212 [some (.ref 102), some (.ref 0), some (.int v2), some (.int (nI m)), some (.int (nI p)), some (.int (nI (i + 1))), none, none, none, none, none, none, none, none, none, none, none, none, none, none] [] s (Qi K)) : VV mL_law 8 sc 280 [some (.ref 102), some (.ref 0), some (.int v2), some (.int (nI m)), some (.int (nI p)), some (.int (nI i)), some (.int v6), some (.int (nI n)), none, none, none, none, none, none, none, none, none, none, none, none] [] σ (Qi K) := by
  have hm6 := hK.1.2.1
  refine bL_law_280 _ _ _ _ _ _ (by omega) (s_low hm (by omega) (fun j hj => s_low (by omega) (by omega) (fun t ht => ?_)))
  refine law_added hs hK hm6 hi hj ht hok hla (Or.inl rfl) (fun s h => br_nf rfl h) (fun s h => br_nf rfl h) (fun s h => br_nf rfl h) (fun s c1 h1 h2 => br_t rfl ?_)
  rw [nI_add]
  exact k s c1 h1 h2
theorem law212 (hL : sc.1 < 2 ^ 31) (hs : SX σ c b n) (hK : KK c m 0) (hm : 1 ≤ m) (hp : 1 ≤ p) (hp2 : p ≤ 12) (k : ∀ s, K (nI 1) s) : VV mL_law 8 sc 212 [some (.ref 102), some (.ref 0), some (.int v2), some (.int (nI m)), some (.int (nI p)), some (.int (nI 0)), none, none, none, none, none, none, none, none, none, none, none, none, none, none] [] σ (Qi K) := by
  have hm6 := hK.1.2.1
  refine cup (I := fun i s => ∃ c1 b1 n1, SX s c1 b1 n1 ∧ KK c1 m i) (G := fun i s => VV mL_law 8 sc 212 [some (.ref 102), some (.ref 0), some (.int v2), some (.int (nI m)), some (.int (nI p)), some (.int (nI i)), none, none, none, none, none, none, none, none, none, none, none, none, none, none] [] s (Qi K)) p ?_ ?_ 0 (Nat.zero_le _) σ ⟨c, b, n, hs, hK⟩
  · intro s ⟨c1, b1, n1, h1, hK1⟩
    exact bL_law_212 _ _ _ _ (by omega) (br_t (nI_le (Nat.le_refl _) (by omega)) (s_fits (by omega) h1.rd hK1.jj.1 (fun s1 f1 => br_nt one_ne (law368 hL (h1.C f1) hK1.jj hm hp k))))
  · intro i hi ih s ⟨c1, b1, n1, h1, hK1⟩
    refine bL_law_212 _ _ _ _ (by omega) (br_f (nI_ge hi (by omega)) ⟨⟨hL, by rw [nI_add]; exact nI_pos (by omega)⟩, fun y => s_low (by omega) (by omega) (fun r hr => ⟨⟨hL, by rw [nI_add]; exact nI_pos (by omega)⟩, fun z => ?_⟩)⟩)
    rw [nI_add 1 r]
    refine s_sentence (by omega) h1 (by omega) (by omega) (fun b2 s2 h2 hok hla => ?_)
    have none : ∀ s, SX s c1 b2 (1 + r) → VV mL_law 8 sc 280 [some (.ref 102), some (.ref 0), some (.int v2), some (.int (nI m)), some (.int (nI p)), some (.int (nI i)), some (.int y), some (.int (nI (1 + r))), none, none, none, none, none, none, none, none, none, none, none, none] [] s (Qi K) := fun s h => law280 h hK1 hm (by omega) hok hla (fun s c3 h3 h4 => ih s ⟨c3, b2, _, h3, h4⟩)
    refine ⟨fun _ => none s2 h2, fun hi0 => ⟨fun _ => none s2 h2, fun _ => ?_⟩⟩
    have i1 : 1 ≤ i := by
      rcases Nat.eq_zero_or_pos i with e | e
      · subst e
        exact absurd (by decide) hi0
      · exact e
    refine s_low i1 (by omega) (fun a ha => s_low hm (by omega) (fun j hj => s_low (by omega) (by omega) (fun t ht => ?_)))
    refine law_added h2 hK1 hm6 (by omega) hj ht hok hla (Or.inr ⟨a, ha, rfl⟩) (fun s h => br_nf rfl h) (fun s h => br_nf rfl h) (fun s h => br_nf rfl h) (fun s c3 h3 h4 => br_t rfl ?_)
    rw [nI_add]
    exact ih s ⟨c3, b2, _, h3, h4⟩
theorem law80 (hL : sc.1 < 2 ^ 31) (hs : SX σ c b n) (hK : KK c 0 0) (hm : 1 ≤ m) (hm6 : m ≤ 6) (k : ∀ s, K (nI 1) s) : VV mL_law 8 sc 80 [some (.ref 102), some (.ref 0), some (.int v2), some (.int (nI m)), some (.int (nI 0)), none, none, none, none, none, none, none, none, none, none, none, none, none, none, none] [] σ (Qi K) := by
  refine cup (I := fun i s => ∃ c1, SX s c1 b n ∧ KK c1 i 0) (G := fun i s => VV mL_law 8 sc 80 [some (.ref 102), some (.ref 0), some (.int v2), some (.int (nI m)), some (.int (nI i)), none, none, none, none, none, none, none, none, none, none, none, none, none, none, none] [] s (Qi K)) m ?_ ?_ 0 (Nat.zero_le _) σ ⟨c, hs, hK⟩
  · intro s ⟨c1, h1, hK1⟩
    refine bL_law_80 _ _ _ (by omega) (br_t (nI_le (Nat.le_refl _) (by omega)) (s_low (by omega) (by omega) (fun r0 hr0 => ?_)))
    rw [nI_add]
    refine p_set (by omega) h1 hK1.1 (by omega) (nI_nlt (a := 1 + r0) (b := 1) (by omega) (by omega)) (nI_nlt (a := 100) (b := 1 + r0) (by omega) (by omega)) (fun _ s2 h2 => s_low (by omega) (by omega) (fun r1 hr1 => ?_))
    have hK2 := hK1.setting (j := 0) (w := 1 + r0) (by omega) (by omega) (fun _ => by omega)
    refine p_set (by omega) h2.X hK2.1 (by omega) (nI_nlt (a := r1) (b := 0) (by omega) (by omega)) (nI_nlt (a := 50) (b := r1) (by omega) (by omega)) (fun _ s3 h3 => s_low (by omega) (by omega) (fun r2 hr2 => ?_))
    have hK3 := hK2.setting (j := 1) (w := r1) (by omega) (by omega) (fun h => by omega)
    refine p_set (by omega) h3.X hK3.1 (by omega) (nI_nlt (a := r2) (b := 0) (by omega) (by omega)) (nI_nlt (a := 80) (b := r2) (by omega) (by omega)) (fun _ s4 h4 => s_low (by omega) (by omega) (fun r3 hr3 => ?_))
    have hK4 := hK3.setting (j := 2) (w := r2) (by omega) (by omega) (fun h => by omega)
    refine p_set (by omega) h4.X hK4.1 (by omega) (nI_nlt (a := r3) (b := 0) (by omega) (by omega)) (nI_nlt (a := 100) (b := r3) (by omega) (by omega)) (fun _ s5 h5 => s_low (by omega) (by omega) (fun r4 hr4 => ?_))
    have hK5 := hK4.setting (j := 3) (w := r3) (by omega) (by omega) (fun h => by omega)
    rw [nI_add]
    refine p_set (by omega) h5.X hK5.1 (by omega) (nI_nlt (a := 1 + r4) (b := 1) (by omega) (by omega)) (nI_nlt (a := 100) (b := 1 + r4) (by omega) (by omega)) (fun _ s6 h6 => s_low (by omega) (by omega) (fun r5 hr5 => ?_))
    have hK6 := hK5.setting (j := 4) (w := 1 + r4) (by omega) (by omega) (fun h => by omega)
    rw [nI_add]
    exact law212 hL h6.X hK6 hm (by omega) (by omega) k
  · intro i hi ih s ⟨c1, h1, hK1⟩
    refine bL_law_80 _ _ _ (by omega) (br_f (nI_ge hi (by omega)) (p_addMember (by omega) h1 hK1.1 (by omega) (fun s2 h2 => s_low (by omega) (by omega) (fun r hr => ?_))))
    have hK2 := hK1.member (by omega)
    refine p_setPrice (by omega) h2.X hK2.1 (by omega) hr (fun _ s3 h3 => ?_)
    rw [nI_add]
    exact ih s3 ⟨_, h3.X, hK2.price (by omega) (by omega)⟩
theorem law8 {nx : Nat} {H : Nat → Nat → Int32} (hL : sc.1 < 2 ^ 31) (h : ST σ c b 0 0 nx H) (hK : KK c 0 0) (k : ∀ s, K (nI 1) s) : VV mL_law 8 sc 8 [some (.ref 102), some (.ref 0), none, none, none, none, none, none, none, none, none, none, none, none, none, none, none, none, none, none] [] σ (Qi K) := by
  have hx : SX σ c b 0 := ⟨_, _, _, h⟩
  have hR := hK.1
  have e0 : flt b 0 = nI 0 := by
    unfold flt fltA
    rw [if_pos rfl]
  have ne : ¬ flt b 0 = (-1000000) := by
    rw [e0]
    decide
  refine bL_law_8 (by omega) (s_fits (by omega) hx.rd hK.jj.1 (fun s1 f1 => br_f one_ne (p_matchX (by omega) (hx.C f1).rd ne (br_nf rfl (p_feeX (by omega) (hx.C f1).rd hR (fun j hj => absurd hj (by omega)) (br_nf rfl (p_useX (by omega) (hx.C f1).rd hR (fun j hj => absurd hj (by omega)) (br_nf rfl (p_textFault (by omega) (hx.C f1).rd (br_nf e0 (p_undo0 (by omega) (h.C f1) rfl (br_t rfl ⟨⟨hL, by decide⟩, fun y => s_low (by omega) (by omega) (fun r hr => ?_)⟩))))))))))))
  rw [nI_add]
  exact law80 hL (hx.C f1) hK (by omega) (by omega) k
end LAWC
