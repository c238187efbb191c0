/-! SPECS: what is agreed; both sides -/
theorem cntP_pos {P : Nat → Prop} {x : Nat} : ∀ n, x < n → P x → 0 < cntP P n := by
  intro n
  induction n with
  | zero => intro h _; omega
  | succ n ih =>
    intro h hx
    rcases Nat.lt_or_ge x n with q | q
    · have := ih q hx
      rcases Classical.em (P n) with z | z
      · rw [cntP_t z]; omega
      · rw [cntP_f z]; omega
    · rw [show x = n by omega] at hx
      rw [cntP_t hx]
      omega
theorem cntP_ex {P : Nat → Prop} : ∀ n, 0 < cntP P n → ∃ x, x < n ∧ P x := by
  intro n
  induction n with
  | zero => intro h; exact absurd h (by show ¬ 0 < 0; omega)
  | succ n ih =>
    intro h
    rcases Classical.em (P n) with z | z
    · exact ⟨n, by omega, z⟩
    · rw [cntP_f z] at h
      obtain ⟨x, h1, h2⟩ := ih h
      exact ⟨x, by omega, h2⟩
theorem cntP_add {P Q : Nat → Prop} {o : Nat} : ∀ n, o < n → ¬ P o → (∀ x, x < n → (Q x ↔ P x ∨ x = o)) → cntP Q n = cntP P n + 1 := by
  intro n
  induction n with
  | zero => intro h; omega
  | succ n ih =>
    intro h hP hQ
    rcases Nat.lt_or_ge o n with q | q
    · have h1 := ih q hP (fun x hx => hQ x (by omega))
      have h2 := hQ n (by omega)
      rcases Classical.em (P n) with z | z
      · rw [cntP_t z, cntP_t (h2.mpr (Or.inl z)), h1]
      · rw [cntP_f z, cntP_f (fun y => (h2.mp y).elim z (fun e => by omega)), h1]
    · have e : o = n := by omega
      subst e
      rw [cntP_f hP, cntP_t ((hQ o (by omega)).mpr (Or.inr rfl))]
      rw [cntP_congr (P := Q) (Q := P) (fun x hx => ?_)]
      have := hQ x (by omega)
      exact ⟨fun y => (this.mp y).resolve_right (by omega), fun y => this.mpr (Or.inl y)⟩
def Opt (T : Nat → Prop) (tg : Nat → Int32) (g : Nat → Nat) (i : Nat) (best : Int32) (most : Nat) : Prop :=
  ((∀ k, k < i → ¬ T k) ∧ best = (-1000000) ∧ most = 0) ∨ ((∃ k, k < i ∧ T k ∧ tg k = best ∧ g k = most) ∧ ∀ k, k < i → T k → g k < most ∨ (g k = most ∧ best ≤ tg k))
theorem Opt.uniq {T T' : Nat → Prop} {tg : Nat → Int32} {g : Nat → Nat} {i : Nat} {b b' : Int32} {n n' : Nat} (h : Opt T tg g i b n) (h' : Opt T' tg g i b' n') (f : ∀ k, k < i → T k → ∃ j, j < i ∧ T' j ∧ tg j = tg k ∧ g j = g k) (f' : ∀ k, k < i → T' k → ∃ j, j < i ∧ T j ∧ tg j = tg k ∧ g j = g k) : b = b' := by
  rcases h with ⟨h1, h2, -⟩ | ⟨⟨k, k1, k2, k3, k4⟩, h2⟩
  · rcases h' with ⟨g1, g2, -⟩ | ⟨⟨k, k1, k2, -⟩, -⟩
    · rw [h2, g2]
    · obtain ⟨j, j1, j2, -⟩ := f' k k1 k2
      exact absurd j2 (h1 j j1)
  · rcases h' with ⟨g1, g2, -⟩ | ⟨⟨k', l1, l2, l3, l4⟩, g2⟩
    · obtain ⟨j, j1, j2, -⟩ := f k k1 k2
      exact absurd j2 (g1 j j1)
    · obtain ⟨j, j1, j2, j3, j4⟩ := f k k1 k2
      obtain ⟨j', m1, m2, m3, m4⟩ := f' k' l1 l2
      have a := g2 j j1 j2
      have a' := h2 j' m1 m2
      rw [j4, k4, j3, k3] at a
      rw [m4, l4, m3, l3] at a'
      have e1 : n = n' := by
        rcases a with a | a <;> rcases a' with a' | a' <;> omega
      have c1 : b' ≤ b := by
        rcases a with a | a
        · omega
        · exact a.2
      have c2 : b ≤ b' := by
        rcases a' with a | a
        · omega
        · exact a.2
      exact Int32.le_antisymm c2 c1
/-- one more candidate -/
theorem Opt.skip {T : Nat → Prop} {tg : Nat → Int32} {g : Nat → Nat} {i : Nat} {b : Int32} {n : Nat} (h : Opt T tg g i b n) (hn : ¬ T i) : Opt T tg g (i + 1) b n := by
  rcases h with ⟨h1, h2⟩ | ⟨⟨k, k1, k2⟩, h2⟩
  · refine Or.inl ⟨fun k hk => ?_, h2⟩
    rcases Nat.lt_or_ge k i with q | q
    · exact h1 k q
    · rw [show k = i by omega]; exact hn
  · refine Or.inr ⟨⟨k, by omega, k2⟩, fun k hk hT => ?_⟩
    rcases Nat.lt_or_ge k i with q | q
    · exact h2 k q hT
    · rw [show k = i by omega] at hT
      exact absurd hT hn
theorem Opt.stay {T : Nat → Prop} {tg : Nat → Int32} {g : Nat → Nat} {i : Nat} {b : Int32} {n : Nat} (h : Opt T tg g i b n) (hg : 0 < g i) (hw : g i < n ∨ (g i = n ∧ b ≤ tg i)) : Opt T tg g (i + 1) b n := by
  rcases h with ⟨h1, h2, h3⟩ | ⟨⟨k, k1, k2⟩, h2⟩
  · omega
  · refine Or.inr ⟨⟨k, by omega, k2⟩, fun k hk hT => ?_⟩
    rcases Nat.lt_or_ge k i with q | q
    · exact h2 k q hT
    · rw [show k = i by omega]
      exact hw
theorem Opt.take {T : Nat → Prop} {tg : Nat → Int32} {g : Nat → Nat} {i : Nat} {b : Int32} {n : Nat} (h : Opt T tg g i b n) (hT : T i) (hw : n < g i ∨ (g i = n ∧ tg i < b)) : Opt T tg g (i + 1) (tg i) (g i) := by
  refine Or.inr ⟨⟨i, by omega, hT, rfl, rfl⟩, fun k hk hk2 => ?_⟩
  rcases Nat.lt_or_ge k i with q | q
  · rcases h with ⟨h1, h2, h3⟩ | ⟨-, h2⟩
    · exact absurd hk2 (h1 k q)
    · rcases h2 k q hk2 with a | a
      · rcases hw with w | w
        · exact Or.inl (by omega)
        · exact Or.inl (by omega)
      · rcases hw with w | w
        · exact Or.inl (by omega)
        · exact Or.inr ⟨by omega, Int32.le_of_lt (Int32.lt_of_lt_of_le w.2 a.2)⟩
  · rw [show k = i by omega]
    exact Or.inr ⟨rfl, Int32.le_refl _⟩
def tgt (c : Nat → Int32) (k : Nat) : Int32 := c (24 + 16 * k)
noncomputable def gtg (c : Nat → Int32) (m p : Nat) (u : Nat → Int32) (la k : Nat) : Nat := gvs c m p (tgt c k) u la
theorem gvs_le (c : Nat → Int32) (m p : Nat) (t : Int32) (u : Nat → Int32) (la : Nat) : gvs c m p t u la ≤ m := cntP_le _ _
/-- sets of members as numbers -/
theorem bit_get : ∀ S : Fin 64, ∀ o : Fin 6, (nI S.val >>> (nI o.val &&& 31)) &&& nI 1 = nI (S.val / 2 ^ o.val % 2) := by decide +kernel
theorem bit_put : ∀ S : Fin 64, ∀ o : Fin 6, nI S.val ||| (nI 1 <<< (nI o.val &&& 31)) = nI (S.val ||| 2 ^ o.val) := by decide +kernel
theorem bit_lt : ∀ S : Fin 64, ∀ o : Fin 6, S.val ||| 2 ^ o.val < 64 := by decide +kernel
theorem bit_upd : ∀ S : Fin 64, ∀ o o' : Fin 6, (S.val ||| 2 ^ o.val) / 2 ^ o'.val % 2 = if o'.val = o.val then 1 else S.val / 2 ^ o'.val % 2 := by decide +kernel
theorem or0 (x : Int32) : x ||| nI 0 = x := Int32.or_zero
section SPG
variable {d : Nat} {σ : SS} {K : Int32 → SS → Prop} {Kv : SS → Prop} {c : Nat → Int32} {m p q : Nat}
theorem Row.gtg_pos {k la : Nat} {u : Nat → Int32} (hR : Row c m p q) (hk : k < p) (h : LA c k u la) : 0 < gtg c m p u la k := by
  obtain ⟨o1, o2⟩ := hR.own hk
  exact cntP_pos m o2 ⟨k, hk, o1, rfl, h⟩
theorem gtg_ex {k la : Nat} {u : Nat → Int32} (h : 0 < gtg c m p u la k) : ∃ j, j < p ∧ LA c j u la ∧ tgt c j = tgt c k ∧ gtg c m p u la j = gtg c m p u la k := by
  obtain ⟨x, -, j, h1, h2, h3, h4⟩ := cntP_ex m h
  have e : tgt c j = tgt c k := h3
  exact ⟨j, h1, h4, e, by unfold gtg; rw [e]⟩
theorem agree_uniq {la : Nat} {u : Nat → Int32} {b b' : Int32} {n n' : Nat} (hR : Row c m p q) (h : Opt (fun k => LA c k u la) (tgt c) (gtg c m p u la) p b n) (h' : Opt (fun k => 0 < gtg c m p u la k) (tgt c) (gtg c m p u la) p b' n') : b = b' :=
  h.uniq h' (fun k hk hL => ⟨k, hk, hR.gtg_pos hk hL, rfl, rfl⟩) (fun k _ hg => gtg_ex hg)
theorem s_agreed {n : Nat} (hd : 6 ≤ d) (hR : Row (σ.1 12) m p q) (hn : n ≤ 40) (hl : σ.2.1 2 = nI n) (hbad : ¬ flt (σ.1 31) n = (-1000000) → K (-1000003) σ) (k : flt (σ.1 31) n = (-1000000) → TxtOK (σ.1 31) n → ∀ s b x, Fr PC FC σ s → Opt (fun k => LA (σ.1 12) k (tw (σ.1 31) n) (lw (σ.1 31) n).length) (tgt (σ.1 12)) (gtg (σ.1 12) m p (tw (σ.1 31) n) (lw (σ.1 31) n).length) p b x → K b s) : CTi mX6_agreed d [.ref 0] σ K := by
  obtain ⟨-, hm6, hp, hp20, -⟩ := id hR
  refine eX6_agreed (by omega) (s_isFaulty (by omega) hn hl (fun hf => br_f one_ne (hbad hf)) (fun hf => ?_))
  have hok := flt_ok (by omega) hf
  have k := k hf hok
  have h10 := hok.2.2
  refine br_t rfl (s_readText Sen4 (by omega) hn hl hok (fun s0 h0 hf0 hw0 => ?_))
  have e0 := h0.1 12 rfl
  refine cup (I := fun i (_ : SS) => True) (G := fun i _ => ∀ b x, Opt (fun k => LA (σ.1 12) k (tw (σ.1 31) n) (lw (σ.1 31) n).length) (tgt (σ.1 12)) (gtg (σ.1 12) m p (tw (σ.1 31) n) (lw (σ.1 31) n).length) i b x → x < 2 ^ 31 → VV mX6_agreed d s00 31 [some (.ref 0), some (.int b), some (.int (nI x)), some (.int (nI i)), none, none] [] s0 (Qi K)) p ?_ ?_ 0 (Nat.zero_le _) s0 trivial (-1000000) 0 (Or.inl ⟨fun k hk => absurd hk (by omega), rfl, rfl⟩) (by omega)
  · intro _ _ b x ho _
    refine bX6_agreed_31 _ _ _ (by omega) (s_phrases ?_)
    rw [e0, hp]
    exact br_t (nI_le (Nat.le_refl _) (by omega)) (k s0 b x (h0.one rfl rfl) ho)
  · intro i hi ih _ _ b x ho hx
    have ih := ih s0 trivial
    obtain ⟨l1, l2, l3⟩ := hR.len hi
    refine bX6_agreed_31 _ _ _ (by omega) (s_phrases ?_)
    rw [e0, hp, nI_add]
    refine br_f (nI_ge hi (by omega)) (s_isLiveAs (la := (lw (σ.1 31) n).length) (u := tw (σ.1 31) n) Sen4 (by omega) (by omega) h10 l3 hf0 hw0 (by rw [e0]; exact l1) (fun hL => br_f one_ne (s_targetOf (by omega) (by omega) ?_)) (fun hL => br_t rfl ?_))
    · rw [e0] at hL
      rw [e0]
      refine s_giversOf (m := m) (p := p) (q := q) (la := (lw (σ.1 31) n).length) (u := tw (σ.1 31) n) Sen4 (by omega) (by rw [e0]; exact hR) h10 hf0 hw0 ?_
      rw [e0]
      have gp := hR.gtg_pos hi hL
      have gl := gvs_le (σ.1 12) m p (tgt (σ.1 12) i) (tw (σ.1 31) n) (lw (σ.1 31) n).length
      have e1 : gvs (σ.1 12) m p (σ.1 12 (24 + 16 * i)) (tw (σ.1 31) n) (lw (σ.1 31) n).length = gtg (σ.1 12) m p (tw (σ.1 31) n) (lw (σ.1 31) n).length i := rfl
      have gl2 : gtg (σ.1 12) m p (tw (σ.1 31) n) (lw (σ.1 31) n).length i ≤ m := gl
      rw [e1]
      refine ⟨fun q => ?_, fun q => ⟨fun q2 => ?_, fun q2 => ⟨fun q3 => ?_, fun q3 => ?_⟩⟩⟩
      · have := (nI_ltI hx (by omega)).mp q
        exact ih _ _ (ho.take hL (Or.inl this)) (by omega)
      · have h1 : ¬ x < gtg (σ.1 12) m p (tw (σ.1 31) n) (lw (σ.1 31) n).length i := fun z => q ((nI_ltI hx (by omega)).mpr z)
        have h2 : ¬ gtg (σ.1 12) m p (tw (σ.1 31) n) (lw (σ.1 31) n).length i = x := fun z => q2 (congrArg nI z)
        exact ih _ _ (ho.stay gp (Or.inl (by omega))) hx
      · have h2 := nI_inj (by omega) hx q2
        exact ih _ _ (ho.stay gp (Or.inr ⟨h2, q3⟩)) hx
      · have h2 := nI_inj (by omega) hx q2
        exact ih _ _ (ho.take hL (Or.inr ⟨h2, nlt_ge.mp q3⟩)) (by omega)
    · rw [e0] at hL
      exact ih _ _ (ho.skip hL) hx
theorem t_gives {j n : Nat} {t : Int32} (hd : 3 ≤ d) (hc : MC σ c) (hR : Row c m p q) (hj : j < p) (hn : n ≤ 40) (hl : σ.2.1 10 = nI n) (hok : TxtOK (σ.1 45) n) (h1 : ∀ s, Fr PS FM σ s → c (24 + 16 * j) = t → LA c j (tw (σ.1 45) n) (lw (σ.1 45) n).length → K (nI 1) s) (h0 : ∀ s, Fr PS FM σ s → ¬ (c (24 + 16 * j) = t ∧ LA c j (tw (σ.1 45) n) (lw (σ.1 45) n).length) → K (nI 0) s) : CTi mX7_gives d [.ref 11, .int (nI j), .int t] σ K := by
  obtain ⟨-, hm6, hp, hp20, -⟩ := id hR
  obtain ⟨l1, l2, l3⟩ := hR.len hj
  refine eX7_gives _ _ (by omega) (t_of (k := 4) hc (by omega) (by omega) ?_)
  rw [show 22 + 16 * j + 4 = 26 + 16 * j by omega]
  refine ⟨fun z => h0 σ Fr.rf (fun y => z y.2.1), fun z1 => t_of (k := 2) hc (by omega) (by omega) ?_⟩
  rw [show 22 + 16 * j + 2 = 24 + 16 * j by omega]
  refine ⟨fun z => h0 σ Fr.rf (fun y => z y.1), fun z2 => t_textScore (by omega) hc (by omega) hn hl hok l3 l1 (fun s hs => ?_)⟩
  have hle := scr_le (tw (σ.1 45) n) (lw (σ.1 45) n).length (phw c j) (lnN c j)
  have h10 := hok.2.2
  refine ⟨fun z => h0 s hs (fun y => z ?_), fun z => ?_⟩
  · obtain ⟨-, -, g2, g3⟩ := y
    rw [l1] at g2
    rw [scr_100 hok.2.1 |>.mpr ⟨(nI_inj (by omega) (by omega) g2).symm, fun k hk => (g3 k hk).symm⟩]
  · have := (scr_100 hok.2.1).mp (nI_inj (by omega) (by omega) z)
    exact h1 s hs z2 ⟨z1, by rw [l1, this.1], fun i hi => (this.2 i hi).symm⟩
theorem t_agreed {n : Nat} (hd : 5 ≤ d) (hc : MC σ c) (hR : Row c m p q) (hn : n ≤ 40) (hl : σ.2.1 10 = nI n) (hbad : ¬ flt (σ.1 45) n = (-1000000) → K (-1000003) σ) (k : flt (σ.1 45) n = (-1000000) → TxtOK (σ.1 45) n → ∀ s b x, Fr PS FM σ s → Opt (fun k => 0 < gtg c m p (tw (σ.1 45) n) (lw (σ.1 45) n).length k) (tgt c) (gtg c m p (tw (σ.1 45) n) (lw (σ.1 45) n).length) p b x → K b s) : CTi mX7_agreed d [.ref 11] σ K := by
  obtain ⟨-, hm6, hp, hp20, -⟩ := id hR
  refine eX7_agreed (by omega) (t_textFault (by omega) hn hl ⟨fun hf => ?_, fun hf => hbad hf⟩)
  have hok := flt_ok (by omega) hf
  have k := k hf hok
  generalize hu : tw (σ.1 45) n = u at k
  generalize hla : (lw (σ.1 45) n).length = la at k
  refine cup (I := fun i s => Fr PS FM σ s) (G := fun i s => ∀ b x, Opt (fun k => 0 < gtg c m p u la k) (tgt c) (gtg c m p u la) i b x → x < 2 ^ 31 → VV mX7_agreed d s00 19 [some (.ref 11), some (.int b), some (.int (nI x)), some (.int (nI i)), none, none, none, none, none] [] s (Qi K)) p ?_ ?_ 0 (Nat.zero_le _) σ Fr.rf (-1000000) 0 (Or.inl ⟨fun k hk => absurd hk (by omega), rfl, rfl⟩) (by omega)
  · intro s hs b x ho _
    refine bX7_agreed_19 _ _ _ (by omega) ⟨vp_in_nI (by omega) (by omega), ?_⟩
    rw [cl (by omega), (hc.fr hs rfl) 1 (by omega), hp]
    exact br_t (nI_le (Nat.le_refl _) (by omega)) (k s b x hs ho)
  · intro i hi ih s hs b x ho hx
    refine bX7_agreed_19 _ _ _ (by omega) ⟨vp_in_nI (by omega) (by omega), ?_⟩
    rw [cl (by omega), (hc.fr hs rfl) 1 (by omega), hp]
    refine br_f (nI_ge hi (by omega)) (t_of (k := 2) (hc.fr hs rfl) (by omega) (by omega) ?_)
    rw [show 22 + 16 * i + 2 = 24 + 16 * i by omega]
    show VV mX7_agreed d s00 46 [some (.ref 11), some (.int b), some (.int (nI x)), some (.int (nI i)), some (.int (tgt c i)), some (.int (nI 0)), some (.int (nI 0)), some (.int (nI 0)), none] [] s (Qi K)
    refine cup (I := fun j s => Fr PS FM σ s) (G := fun j s => ∀ S y, S < 64 → (∀ o, o < 6 → (S / 2 ^ o % 2 = 1 ↔ Gv c j o (tgt c i) u la)) → y = gvs c m j (tgt c i) u la → VV mX7_agreed d s00 46 [some (.ref 11), some (.int b), some (.int (nI x)), some (.int (nI i)), some (.int (tgt c i)), some (.int (nI S)), some (.int (nI y)), some (.int (nI j)), none] [] s (Qi K)) p ?_ ?_ 0 (Nat.zero_le _) s hs 0 0 (by omega) (fun o ho => ⟨fun z => by simp at z, fun ⟨k, hk, _⟩ => absurd hk (by omega)⟩) ?_
    · intro s hs S y _ _ hy
      have gl := gvs_le c m p (tgt c i) u la
      have ih := ih s hs
      have ey : y = gtg c m p u la i := hy
      have nx : ∀ b' x' S', Opt (fun k => 0 < gtg c m p u la k) (tgt c) (gtg c m p u la) (i + 1) b' x' → x' < 2 ^ 31 → VV mX7_agreed d s00 163 [some (.ref 11), some (.int b'), some (.int (nI x')), some (.int (nI i)), some (.int (tgt c i)), some (.int (nI S')), some (.int (nI y)), some (.int (nI p)), none] [] s (Qi K) := fun b' x' S' ho' hx' => by
        refine bX7_agreed_163 _ _ _ _ _ _ _ ?_
        rw [nI_add]
        exact ih b' x' ho' hx'
      refine bX7_agreed_46 _ _ _ _ _ _ _ (by omega) ⟨vp_in_nI (by omega) (by omega), ?_⟩
      rw [cl (by omega), (hc.fr hs rfl) 1 (by omega), hp]
      refine br_t (nI_le (Nat.le_refl _) (by omega)) ⟨fun q => ?_, fun q => ⟨fun q2 => ?_, fun q2 => ⟨fun q3 => ?_, fun q3 => ⟨fun q4 => ?_, fun q4 => ?_⟩⟩⟩⟩
      · have h1 := (nI_ltI hx (by omega)).mp q
        rw [ey] at h1 nx ⊢
        exact nx _ _ _ (ho.take (by show 0 < gtg c m p u la i; omega) (Or.inl h1)) (by omega)
      · have h1 : ¬ x < y := fun z => q ((nI_ltI hx (by omega)).mpr z)
        have h2 : ¬ y = x := fun z => q2 (congrArg nI z)
        rcases Nat.eq_zero_or_pos y with z | z
        · exact nx _ _ _ (ho.skip (by show ¬ 0 < gtg c m p u la i; omega)) hx
        · exact nx _ _ _ (ho.stay (by omega) (Or.inl (by omega))) hx
      · have h2 : ¬ 0 < y := fun z => nI_nle z (by omega) q3
        exact nx _ _ _ (ho.skip (by show ¬ 0 < gtg c m p u la i; omega)) hx
      · have h1 := nI_inj (by omega) hx q2
        have h2 : 0 < y := by
          rcases Nat.eq_zero_or_pos y with z | z
          · rw [z] at q3
            exact absurd (by decide) q3
          · exact z
        exact nx _ _ _ (ho.stay (by omega) (Or.inr ⟨by omega, q4⟩)) hx
      · have h1 := nI_inj (by omega) hx q2
        have h2 : 0 < y := by
          rcases Nat.eq_zero_or_pos y with z | z
          · rw [z] at q3
            exact absurd (by decide) q3
          · exact z
        rw [ey] at nx h1 h2 ⊢
        exact nx _ _ _ (ho.take h2 (Or.inr ⟨h1, nlt_ge.mp q4⟩)) (by omega)
    · intro j hj ihj s hs S y hS hbits hy
      obtain ⟨o1, o2⟩ := hR.own hj
      refine bX7_agreed_46 _ _ _ _ _ _ _ (by omega) ⟨vp_in_nI (by omega) (by omega), ?_⟩
      rw [cl (by omega), (hc.fr hs rfl) 1 (by omega), hp]
      refine br_f (nI_ge hj (by omega)) (t_gives (n := n) (by omega) (hc.fr hs rfl) hR hj hn (by rw [hs.2.1 10 rfl]; exact hl) (by rw [hs.1 45 rfl]; exact hok) (fun s2 hs2 ht hL => br_f one_ne (t_of (k := 0) (hc.fr (hs.tr hs2) rfl) (by omega) (by omega) ?_)) (fun s2 hs2 hn2 => br_t rfl ?_))
      · rw [hs.1 45 rfl, hu, hla] at hL
        have hs3 := hs.tr hs2
        have ihj := ihj s2 hs3
        rw [Nat.add_zero, o1]
        have hgv : Gv c (j + 1) (owN c j) (tgt c i) u la := ⟨j, by omega, o1, ht, hL⟩
        have hmon : ∀ o, o < 6 → (Gv c (j + 1) o (tgt c i) u la ↔ Gv c j o (tgt c i) u la ∨ o = owN c j) := fun o ho6 => by
          constructor
          · rintro ⟨k, k1, k2, k3⟩
            rcases Nat.lt_or_ge k j with z | z
            · exact Or.inl ⟨k, z, k2, k3⟩
            · rw [show k = j by omega, o1] at k2
              exact Or.inr (nI_inj (by omega) (by omega) k2).symm
          · rintro (⟨k, k1, k2⟩ | rfl)
            · exact ⟨k, by omega, k2⟩
            · exact hgv
        have eg := bit_get ⟨S, hS⟩ ⟨owN c j, by omega⟩
        show ((¬ ((nI S >>> (nI (owN c j) &&& 31)) &&& (nI 1)) = 0) → _) ∧ _
        rw [eg]
        refine ⟨fun z => ?_, fun z => ?_⟩
        · -- already counted
          have b1 : S / 2 ^ owN c j % 2 = 1 := by
            rcases Nat.mod_two_eq_zero_or_one (S / 2 ^ owN c j) with w | w
            · exact absurd (by show nI (S / 2 ^ owN c j % 2) = 0; rw [w]; rfl) z
            · exact w
          have hold := (hbits (owN c j) (by omega)).mp b1
          refine bX7_agreed_90 _ _ _ _ _ _ _ _ (by omega) (br_t rfl (br_t rfl (bX7_agreed_128 _ _ _ _ _ _ _ _ ?_)))
          rw [or0, add0, nI_add]
          refine ihj S y hS (fun o ho => (hbits o ho).trans ⟨fun w => (hmon o ho).mpr (Or.inl w), fun w => ((hmon o ho).mp w).elim id (fun e => by rw [e]; exact hold)⟩) ?_
          rw [hy]
          exact cntP_congr (fun o ho => ⟨fun w => (hmon o (by omega)).mpr (Or.inl w), fun w => ((hmon o (by omega)).mp w).elim id (fun e => by rw [e]; exact hold)⟩)
        · have b0 : ¬ S / 2 ^ owN c j % 2 = 1 := fun w => by
            have z : nI (S / 2 ^ owN c j % 2) = 0 := z
            rw [w] at z
            exact one_ne z
          have hnew : ¬ Gv c j (owN c j) (tgt c i) u la := fun w => b0 ((hbits (owN c j) (by omega)).mpr w)
          have ep := bit_put ⟨S, hS⟩ ⟨owN c j, by omega⟩
          refine bX7_agreed_90 _ _ _ _ _ _ _ _ (by omega) (br_f one_ne (t_of (k := 0) (hc.fr hs3 rfl) (by omega) (by omega) ?_))
          rw [Nat.add_zero, o1]
          refine br_f one_ne (bX7_agreed_128 _ _ _ _ _ _ _ _ ?_)
          have ep : nI S ||| (nI 1 <<< (nI (owN c j) &&& 31)) = nI (S ||| 2 ^ owN c j) := ep
          rw [ep, nI_add, nI_add]
          refine ihj _ _ (bit_lt ⟨S, hS⟩ ⟨owN c j, by omega⟩) (fun o ho => ?_) ?_
          · have eu := bit_upd ⟨S, hS⟩ ⟨owN c j, by omega⟩ ⟨o, ho⟩
            have eu : (S ||| 2 ^ owN c j) / 2 ^ o % 2 = if o = owN c j then 1 else S / 2 ^ o % 2 := eu
            rw [eu, hmon o ho]
            by_cases w : o = owN c j
            · rw [if_pos w]
              exact ⟨fun _ => Or.inr w, fun _ => rfl⟩
            · rw [if_neg w, hbits o ho]
              exact ⟨Or.inl, fun v => v.resolve_right w⟩
          · rw [hy]
            exact (cntP_add m o2 hnew (fun o ho => hmon o (by omega))).symm
      · rw [hs.1 45 rfl, hu, hla] at hn2
        have hs3 := hs.tr hs2
        have hmon : ∀ o, Gv c (j + 1) o (tgt c i) u la ↔ Gv c j o (tgt c i) u la := fun o => by
          constructor
          · rintro ⟨k, k1, k2, k3, k4⟩
            rcases Nat.lt_or_ge k j with z | z
            · exact ⟨k, z, k2, k3, k4⟩
            · rw [show k = j by omega] at k3 k4
              exact absurd ⟨k3, k4⟩ hn2
          · rintro ⟨k, k1, k2⟩
            exact ⟨k, by omega, k2⟩
        refine bX7_agreed_90 _ _ _ _ _ _ _ _ (by omega) (br_t rfl (br_t rfl (bX7_agreed_128 _ _ _ _ _ _ _ _ ?_)))
        rw [or0, add0, nI_add]
        refine ihj s2 hs3 S y hS (fun o ho => (hbits o ho).trans (hmon o).symm) ?_
        rw [hy]
        exact cntP_congr (fun o ho => (hmon o).symm)
    · have : ∀ n, cntP (fun o => Gv c 0 o (tgt c i) u la) n = 0 := fun n => by
        rcases Nat.eq_zero_or_pos (cntP (fun o => Gv c 0 o (tgt c i) u la) n) with z | z
        · exact z
        · obtain ⟨x, -, k, hk, -⟩ := cntP_ex n z
          exact absurd hk (by omega)
      exact (this m).symm
end SPG
