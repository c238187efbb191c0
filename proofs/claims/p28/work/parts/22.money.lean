/-! MONEY: the split of a fee, the moves of a note -/
def spl (c : Nat → Int32) (b : Nat) : Nat → Nat → Int32 → (Nat → Int32) → Nat → Int32
  | 0, _, _, f => f
  | k + 1, i, r, f => if c (25 + 16 * i) = (-1000000) then upd f (b + owN c i) (f (b + owN c i) + (r - nI 0)) else spl c b k (c (25 + 16 * i)).toNatClampNeg (r * c 7 / nI 100) (upd f (b + owN c i) (f (b + owN c i) + (r - r * c 7 / nI 100)))
theorem spl_n {c f : Nat → Int32} {b k i : Nat} {r : Int32} (h : c (25 + 16 * i) = (-1000000)) : spl c b (k + 1) i r f = upd f (b + owN c i) (f (b + owN c i) + (r - nI 0)) := if_pos h
theorem spl_p {c f : Nat → Int32} {b k i : Nat} {r : Int32} (h : ¬ c (25 + 16 * i) = (-1000000)) : spl c b (k + 1) i r f = spl c b k (c (25 + 16 * i)).toNatClampNeg (r * c 7 / nI 100) (upd f (b + owN c i) (f (b + owN c i) + (r - r * c 7 / nI 100))) := if_neg h
theorem spl_cell {c : Nat → Int32} {b t : Nat} : ∀ k i r f f', f t = f' t → spl c b k i r f t = spl c b k i r f' t := by
  intro k
  induction k with
  | zero => intro i r f f' h; exact h
  | succ k ih =>
    intro i r f f' h
    have key : ∀ x, upd f (b + owN c i) (f (b + owN c i) + x) t = upd f' (b + owN c i) (f' (b + owN c i) + x) t := fun x => by
      by_cases e : t = b + owN c i
      · rw [e, upd_at, upd_at, ← e, h]
      · rw [upd_ne _ _ e, upd_ne _ _ e, h]
    by_cases hn : c (25 + 16 * i) = (-1000000)
    · rw [spl_n hn, spl_n hn]
      exact key _
    · rw [spl_p hn, spl_p hn]
      exact ih _ _ _ _ (key _)
theorem spl_out {c : Nat → Int32} {m p q b t : Nat} (hR : Row c m p q) (ht : t < b ∨ b + 6 ≤ t) : ∀ k i r f, i < p → spl c b k i r f t = f t := by
  have hm6 := hR.2.1
  intro k
  induction k with
  | zero => intro i r f _; rfl
  | succ k ih =>
    intro i r f hi
    have ho := (hR.own hi).2
    by_cases hn : c (25 + 16 * i) = (-1000000)
    · rw [spl_n hn, upd_ne _ _ (by omega)]
    · rw [spl_p hn]
      obtain ⟨a, ha, e⟩ := (hR.par hi).resolve_left hn
      have hp20 := hR.2.2.2.1
      rw [e, cl (by omega), ih _ _ _ (by omega), upd_ne _ _ (by omega)]
def mvl (f g : Nat → Int32) : Nat → Nat → Int32
  | 0 => f
  | i + 1 => upd (mvl f g i) (11 + 2 * i) (f (11 + 2 * i) + g i)
theorem mvl_ne {f g : Nat → Int32} {k : Nat} : ∀ i, (∀ t, t < i → k ≠ 11 + 2 * t) → mvl f g i k = f k := by
  intro i
  induction i with
  | zero => intro _; rfl
  | succ i ih =>
    intro h
    show upd (mvl f g i) (11 + 2 * i) _ k = f k
    rw [upd_ne _ _ (h i (by omega)), ih (fun t ht => h t (by omega))]
theorem mvl_cell {f f' g g' : Nat → Int32} {k m : Nat} (h : f k = f' k) (hg : ∀ t, t < m → g t = g' t) : ∀ i, i ≤ m → mvl f g i k = mvl f' g' i k := by
  intro i
  induction i with
  | zero => intro _; exact h
  | succ i ih =>
    intro hi
    show upd (mvl f g i) (11 + 2 * i) (f (11 + 2 * i) + g i) k = upd (mvl f' g' i) (11 + 2 * i) (f' (11 + 2 * i) + g' i) k
    by_cases e : k = 11 + 2 * i
    · rw [e, upd_at, upd_at, ← e, h, hg i (by omega)]
    · rw [upd_ne _ _ e, upd_ne _ _ e]
      exact ih (by omega)
/-- the moves of a note at b, of user j, in direction s -/
def mvm (f : Nat → Int32) (b j : Nat) (s : Int32) (m : Nat) : Nat → Int32 := mvl (upd (upd f (11 + 2 * j) (f (11 + 2 * j) - s * f (b + 3))) 4 (f 4 + s * f (b + 6))) (fun t => s * f (b + 7 + t)) m
theorem mvm_cell {f f' : Nat → Int32} {b j m k : Nat} {s : Int32} (h : f k = f' k) (h3 : f (b + 3) = f' (b + 3)) (h6 : f (b + 6) = f' (b + 6)) (hg : ∀ t, t < m → f (b + 7 + t) = f' (b + 7 + t)) : mvm f b j s m k = mvm f' b j s m k := by
  unfold mvm
  refine mvl_cell ?_ (fun t ht => by rw [hg t ht]) m (Nat.le_refl _)
  rw [h3, h6]
  by_cases e4 : k = 4
  · rw [← e4, upd_at, upd_at, h]
  · rw [upd_ne _ _ e4, upd_ne _ _ e4]
    by_cases e : k = 11 + 2 * j
    · rw [← e, upd_at, upd_at, h]
    · rw [upd_ne _ _ e, upd_ne _ _ e, h]
theorem mvm_out {f : Nat → Int32} {b j m k : Nat} {s : Int32} (hm : m ≤ 6) (hj : j < m) (h : 22 ≤ k ∨ k < 4 ∨ 4 < k ∧ k < 11 ∨ ∃ t, k = 10 + 2 * t) : mvm f b j s m k = f k := by
  unfold mvm
  have h' : k ≠ 4 ∧ ∀ t, t < m → k ≠ 11 + 2 * t := by
    rcases h with h | h | h | ⟨t, rfl⟩
    · exact ⟨by omega, fun t ht => by omega⟩
    · exact ⟨by omega, fun t ht => by omega⟩
    · exact ⟨by omega, fun t ht => by omega⟩
    · exact ⟨by omega, fun s hs => by omega⟩
  rw [mvl_ne _ h'.2, upd_ne _ _ h'.1, upd_ne _ _ (h'.2 j hj)]
section MON
variable {d : Nat} {σ : SS} {K : Int32 → SS → Prop} {Kv : SS → Prop} {c : Nat → Int32} {m p q n z : Nat}
theorem s_moveMoney {e j : Nat} {sg : Int32} (hd : 2 ≤ d) (hm : σ.1 12 0 = nI m) (hm6 : m ≤ 6) (he : e < 24) (hj : j < m) (hu : σ.1 12 (342 + 13 * e) = nI j) (k : ∀ s, Fr (P1 12) F0f σ s → s.1 12 = mvm (σ.1 12) (342 + 13 * e) j sg m → Kv s) : CTv mX2_moveMoney d [.ref 1, .int (nI e), .int sg] σ Kv := by
  refine eX2_moveMoney _ _ (by omega) (s_noteProperty (k := 0) (by omega) (by omega) (by omega) ?_)
  rw [Nat.add_zero, hu]
  refine s_memberCell (k := 1) (s_noteProperty (k := 3) (by omega) (by omega) (by omega) ⟨vp_in_nI (by omega) (by omega), s_noteProperty (k := 6) (by omega) (by omega) (by omega) ⟨vp_in_nI (by omega) (by omega), ?_⟩⟩)
  rw [cl (n := 4) (by omega), cl (by omega), show 10 + 2 * j + 1 = 11 + 2 * j by omega, Int32.neg_mul, ← Int32.sub_eq_add_neg, sA_at, upd_ne _ _ (show 4 ≠ 11 + 2 * j by omega), upd_ne _ _ (show 342 + 13 * e + 6 ≠ 11 + 2 * j by omega)]
  generalize hf : upd (upd (σ.1 12) (11 + 2 * j) (σ.1 12 (11 + 2 * j) - sg * σ.1 12 (342 + 13 * e + 3))) 4 (σ.1 12 4 + sg * σ.1 12 (342 + 13 * e + 6)) = f2
  have f2n : ∀ k, 342 ≤ k → f2 k = σ.1 12 k := fun k hk => by
    rw [← hf, upd_ne _ _ (by omega), upd_ne _ _ (by omega)]
  refine cup (I := fun i s => Fr (P1 12) F0f σ s ∧ s.1 12 = mvl f2 (fun t => sg * σ.1 12 (342 + 13 * e + 7 + t)) i) (G := fun i s => VV mX2_moveMoney d s00 39 [some (.ref 1), some (.int (nI e)), some (.int sg), some (.int (nI i))] [] s (Qv Kv)) m ?_ ?_ 0 (Nat.zero_le _) _ ⟨(Fr.sA rfl).tr (Fr.sA rfl), ?_⟩
  · intro s ⟨f, e1⟩
    refine bX2_moveMoney_39 _ _ _ (by omega) (s_members ?_)
    have e0 : s.1 12 0 = nI m := by
      rw [e1, mvl_ne _ (fun t ht => by omega), ← hf, upd_ne _ _ (by omega), upd_ne _ _ (by omega)]
      exact hm
    rw [e0]
    refine br_t (nI_le (Nat.le_refl _) (by omega)) (k s f ?_)
    rw [e1]
    unfold mvm
    rw [hf]
  · intro i hi ih s ⟨f, e1⟩
    refine bX2_moveMoney_39 _ _ _ (by omega) (s_members ?_)
    have e0 : s.1 12 0 = nI m := by
      rw [e1, mvl_ne _ (fun t ht => by omega), ← hf, upd_ne _ _ (by omega), upd_ne _ _ (by omega)]
      exact hm
    rw [e0]
    refine br_f (nI_ge hi (by omega)) (s_memberCell (k := 1) ?_)
    rw [nI_add, nI_add, cl (by omega), show 10 + 2 * i + 1 = 11 + 2 * i by omega]
    refine s_noteProperty (by omega) (by omega) (by omega) ⟨vp_in_nI (by omega) (by omega), ih _ ⟨f.tr (Fr.sA rfl), ?_⟩⟩
    rw [sA_at, e1, mvl_ne (k := 11 + 2 * i) _ (fun t ht => by omega), mvl_ne (k := 342 + 13 * e + (7 + i)) _ (fun t ht => by omega), f2n (342 + 13 * e + (7 + i)) (by omega), show 342 + 13 * e + (7 + i) = 342 + 13 * e + 7 + i by omega]
    rfl
  · show (sA _ 12 4 _).1 12 = mvl f2 _ 0
    rw [sA_at, sA_at]
    exact hf
theorem s_split74 {v2 : Int32} (hd : 2 ≤ d) (hR : Row c m p q) (hq : q < 24) : ∀ fuel i r f (t : SS) v5, i < fuel → i < p → v5 + i < 20 → Fr (P1 12) F0f σ t → t.1 12 = f → (∀ k, k < 342 → k ≠ 2 → f k = c k) → (∀ t', Fr (P1 12) F0f σ t' → t'.1 12 = spl c (349 + 13 * q) fuel i r f → Kv t') → VV mX2_splitFee d s00 74 [some (.ref 1), some (.int (nI q)), some (.int v2), some (.int r), some (.int (nI i)), some (.int (nI v5)), none, none] [] t (Qv Kv) := by
  have hp20 := hR.2.2.2.1
  have hm6 := hR.2.1
  intro fuel
  induction fuel with
  | zero => intro i r f t v5 h; omega
  | succ fuel ih =>
    intro i r f t v5 hif hi hv ft et hf k
    obtain ⟨ho, ho2⟩ := hR.own hi
    refine bX2_splitFee_74 _ _ _ _ _ (by omega) (br_f (nI_ge (by omega) (by omega)) (br_f (nI_neN (by omega)) (s_parentOf (by omega) (by omega) ?_)))
    rw [et, hf _ (by omega) (by omega)]
    by_cases hn : c (25 + 16 * i) = (-1000000)
    · refine br_nf hn (s_ownerOf (by omega) (by omega) ?_)
      rw [et, hf _ (by omega) (by omega), ho, nI_add, hn]
      refine s_noteCell ⟨vp_in_nI (by omega) (by omega), ?_⟩
      have fin : Kv (sA t 12 (349 + 13 * q + owN c i) (f (349 + 13 * q + owN c i) + (r - nI 0))) := by
        refine k _ (ft.tr (Fr.sA rfl)) ?_
        rw [sA_at, et, spl_n hn]
      rw [cl (by omega), et, show 342 + 13 * q + (7 + owN c i) = 349 + 13 * q + owN c i by omega]
      exact bX2_splitFee_74 _ _ _ _ _ (by omega) ⟨fun _ => fin, fun _ => br_t rfl fin⟩
    · obtain ⟨a, ha, e⟩ := (hR.par hi).resolve_left hn
      refine br_nt hn (s_settingOf (k := 2) (by omega) (s_ownerOf (by omega) (by omega) ?_))
      rw [et, hf _ (by omega) (by omega), hf (5 + 2) (by omega) (by omega), ho, nI_add]
      refine s_noteCell ⟨vp_in_nI (by omega) (by omega), ?_⟩
      rw [cl (by omega), et, show 342 + 13 * q + (7 + owN c i) = 349 + 13 * q + owN c i by omega, e, nI_add]
      refine ih a _ _ _ (v5 + 1) (by omega) (by omega) (by omega) (ft.tr (Fr.sA rfl)) rfl (fun k k1 k2 => ?_) (fun t' f' e' => k t' f' ?_)
      · rw [sA_at, upd_ne _ _ (by omega), et]
        exact hf k k1 k2
      · rw [e', spl_p hn, sA_at, e, cl (by omega), et]
end MON
