/-! SPECS of the reference: counting and telling -/
theorem add0 (x : Int32) : x + nI 0 = x := Int32.add_zero x
section SPN
variable {d : Nat} {σ : SS} {K : Int32 → SS → Prop} {Kv : SS → Prop} {c : Nat → Int32} {m p q : Nat}
theorem t_textFault {n : Nat} (hd : 1 ≤ d) (hn : n ≤ 40) (hl : σ.2.1 10 = nI n) (k : K (flt (σ.1 45) n) σ) : CTi mX7_textFault d [.ref 11] σ K := by
  have key : ∀ r i t, i + r = n → t ≤ 10 → K (fltA (σ.1 45) n r i t) σ → VV mX7_textFault d s00 4 [some (.ref 11), some (.int (nI t)), some (.int (nI i)), none] [] σ (Qi K) := by
    intro r
    induction r with
    | zero =>
      intro i t hi ht h
      refine bX7_textFault_4 _ _ (by omega) ?_
      rw [hl]
      unfold fltA at h
      refine br_t (nI_le (by omega) (by omega)) ?_
      by_cases h0 : t = 0
      · rw [if_pos h0] at h
        subst h0
        exact br_nf rfl h
      · rw [if_neg h0] at h
        exact br_nt (nI_ne0 (by omega) (by omega)) h
    | succ r ih =>
      intro i t hi ht h
      refine bX7_textFault_4 _ _ (by omega) ?_
      rw [hl, cl (by omega)]
      unfold fltA at h
      have ihn := ih (i + 1)
      rw [add0, nI_add, nI_add]
      refine br_f (nI_ge (by omega) (by omega)) ⟨vp_in_nI (by omega) (by omega), t_in (fun h97 h122 => ?_) (fun hn97 => ?_)⟩
      · rw [if_pos ⟨h97, h122⟩] at h
        refine br_f one_ne ?_
        by_cases h10 : t < 10
        · rw [if_pos h10] at h
          exact br_f (nI_nlt (by omega) (by omega)) (br_nt one_ne (ihn (t + 1) (by omega) (by omega) h))
        · rw [if_neg h10] at h
          exact br_t (nI_lt (by omega) (by omega)) h
      · rw [if_neg (fun z => hn97.elim z.1 z.2)] at h
        refine br_t rfl (br_f (nI_nlt (by omega) (by omega)) (br_nf rfl ⟨vp_in_nI (by omega) (by omega), ?_⟩))
        by_cases h32 : σ.1 45 i = nI 32
        · rw [if_pos h32] at h
          exact br_t h32 (ihn t (by omega) ht h)
        · rw [if_neg h32] at h
          exact br_f h32 h
  exact eX7_textFault (key n 0 0 (by omega) (by omega) k)
theorem t_live (hd : 1 ≤ d) (hc : MC σ c) (hR : Row c m p q) (k : K (nI (vLive c p)) σ) : CTi mX7_live d [.ref 11] σ K := by
  obtain ⟨-, hm6, hp, hp20, -⟩ := id hR
  refine eX7_live ?_
  refine cup (I := fun i (_ : SS) => True) (G := fun i _ => VV mX7_live d s00 4 [some (.ref 11), some (.int (nI (vLive c i))), some (.int (nI i))] [] σ (Qi K)) p ?_ ?_ 0 (Nat.zero_le _) σ trivial
  · intro _ _
    refine bX7_live_4 _ _ hd ⟨vp_in_nI (by omega) (by omega), ?_⟩
    rw [cl (by omega), hc 1 (by omega), hp]
    exact br_t (nI_le (Nat.le_refl _) (by omega)) k
  · intro i hi ih _ _
    have ih := ih σ trivial
    refine bX7_live_4 _ _ hd ⟨vp_in_nI (by omega) (by omega), ?_⟩
    rw [cl (by omega), hc 1 (by omega), hp, nI_add]
    refine br_f (nI_ge hi (by omega)) (t_of (k := 4) hc (by omega) (by omega) ?_)
    rw [show 22 + 16 * i + 4 = 26 + 16 * i by omega]
    unfold vLive at ih ⊢
    rcases hR.live hi with e | e
    · rw [cntP_f (P := fun j => c (26 + 16 * j) = nI 1) (by rw [e]; decide)] at ih
      rw [e, add0]
      exact ih
    · rw [cntP_t (P := fun j => c (26 + 16 * j) = nI 1) e] at ih
      rw [e, nI_add]
      exact ih
theorem Row.paid {j : Nat} (h : Row c m p q) (hj : j < q) : c (347 + 13 * j) = nI 0 ∨ c (347 + 13 * j) = nI 1 := (h.2.2.2.2.2.2.2.1 j hj).2.2
theorem t_paidBack (hd : 1 ≤ d) (hc : MC σ c) (hR : Row c m p q) (k : K (nI (vPaid c q)) σ) : CTi mX7_paidBack d [.ref 11] σ K := by
  obtain ⟨-, hm6, hp, hp20, hq, hq24, -⟩ := id hR
  refine eX7_paidBack ?_
  refine cup (I := fun i (_ : SS) => True) (G := fun i _ => VV mX7_paidBack d s00 4 [some (.ref 11), some (.int (nI (vPaid c i))), some (.int (nI i))] [] σ (Qi K)) q ?_ ?_ 0 (Nat.zero_le _) σ trivial
  · intro _ _
    refine bX7_paidBack_4 _ _ hd ⟨vp_in_nI (by omega) (by omega), ?_⟩
    rw [cl (by omega), hc 2 (by omega), hq]
    exact br_t (nI_le (Nat.le_refl _) (by omega)) k
  · intro i hi ih _ _
    have ih := ih σ trivial
    refine bX7_paidBack_4 _ _ hd ⟨vp_in_nI (by omega) (by omega), ?_⟩
    rw [cl (by omega), hc 2 (by omega), hq, nI_add]
    refine br_f (nI_ge hi (by omega)) (t_ofNote (k := 5) hc (by omega) (by omega) ?_)
    rw [show 342 + 13 * i + 5 = 347 + 13 * i by omega]
    unfold vPaid at ih ⊢
    rcases hR.paid hi with e | e
    · rw [cntP_f (P := fun j => c (347 + 13 * j) = nI 1) (by rw [e]; decide)] at ih
      rw [e, add0]
      exact ih
    · rw [cntP_t (P := fun j => c (347 + 13 * j) = nI 1) e] at ih
      rw [e, nI_add]
      exact ih
theorem t_areInConflict {a b la lb : Nat} (hd : 3 ≤ d) (hc : MC σ c) (ha : a < 20) (hb : b < 20) (h1l : 1 ≤ la) (hla : la ≤ 10) (hlb : lb ≤ 10) (hlen : c (23 + 16 * a) = nI la) (hlen2 : c (23 + 16 * b) = nI lb) (h1 : ∀ s, Fr PS FM σ s → c (26 + 16 * a) = nI 1 → Cf c a la b → K (nI 1) s) (h0 : ∀ s, Fr PS FM σ s → ¬ (c (26 + 16 * a) = nI 1 ∧ Cf c a la b) → K (nI 0) s) : CTi mX7_areInConflict d [.ref 11, .int (nI a), .int (nI b)] σ K := by
  refine eX7_areInConflict _ _ (by omega) ⟨fun e => ?_, fun ne => t_of (k := 4) hc ha (by omega) ?_⟩
  · have e := nI_inj (by omega) (by omega) e
    subst e
    exact h0 σ Fr.rf (fun z => z.2.2 rfl)
  · rw [show 22 + 16 * a + 4 = 26 + 16 * a by omega]
    refine ⟨fun z => h0 σ Fr.rf (fun y => z y.1), fun l1 => t_of (k := 4) hc hb (by omega) ?_⟩
    rw [show 22 + 16 * b + 4 = 26 + 16 * b by omega]
    refine ⟨fun z => h0 σ Fr.rf (fun y => z y.2.1.1), fun l2 => t_of (k := 2) hc ha (by omega) (t_of (k := 2) hc hb (by omega) ?_)⟩
    rw [show 22 + 16 * a + 2 = 24 + 16 * a by omega, show 22 + 16 * b + 2 = 24 + 16 * b by omega]
    refine ⟨fun z => h0 σ Fr.rf (fun y => y.2.2 z.symm), fun nt => t_scoreOf (by omega) hc ha hb h1l hla hlb hlen hlen2 (fun s hs => ?_)⟩
    have hle := scr_le (phw c a) la (phw c b) lb
    refine ⟨fun z => h0 s hs (fun y => z ?_), fun z => h1 s hs l1 ⟨⟨l2, ?_, ?_⟩, fun w => nt w.symm⟩⟩
    · obtain ⟨-, ⟨-, g2, g3⟩, -⟩ := y
      rw [hlen2] at g2
      rw [scr_100 h1l |>.mpr ⟨(nI_inj (by omega) (by omega) g2).symm, fun k hk => (g3 k hk).symm⟩]
    · have := (scr_100 h1l).mp (nI_inj (by omega) (by omega) z)
      rw [hlen2, this.1]
    · have := (scr_100 h1l).mp (nI_inj (by omega) (by omega) z)
      exact fun i hi => (this.2 i hi).symm
theorem t_conflicts {j : Nat} (hd : 4 ≤ d) (hc : MC σ c) (hR : Row c m p q) (hj : j < p) (k : ∀ s, Fr PS FM σ s → K (nI (cfl c p j (lnN c j))) s) : CTi mX7_conflicts d [.ref 11, .int (nI j)] σ K := by
  obtain ⟨-, hm6, hp, hp20, -⟩ := id hR
  obtain ⟨e1, e2, e3⟩ := hR.len hj
  refine eX7_conflicts _ ?_
  refine cup (I := fun i s => Fr PS FM σ s) (G := fun i s => ∀ n, n = (@ite Nat (c (26 + 16 * j) = nI 1) (Classical.propDecidable _) (cntP (Cf c j (lnN c j)) i) 0) → VV mX7_conflicts d s00 4 [some (.ref 11), some (.int (nI j)), some (.int (nI n)), some (.int (nI i))] [] s (Qi K)) p ?_ ?_ 0 (Nat.zero_le _) σ Fr.rf 0 ?_
  · intro s hs n hn
    refine bX7_conflicts_4 _ _ _ (by omega) ⟨vp_in_nI (by omega) (by omega), ?_⟩
    rw [cl (by omega), (hc.fr hs rfl) 1 (by omega), hp, hn]
    exact br_t (nI_le (Nat.le_refl _) (by omega)) (k s hs)
  · intro i hi ih s hs n hn
    obtain ⟨f1, f2, f3⟩ := hR.len hi
    refine bX7_conflicts_4 _ _ _ (by omega) ⟨vp_in_nI (by omega) (by omega), ?_⟩
    rw [cl (by omega), (hc.fr hs rfl) 1 (by omega), hp, add0, nI_add, nI_add]
    refine br_f (nI_ge hi (by omega)) (t_areInConflict (la := lnN c j) (lb := lnN c i) (by omega) (hc.fr hs rfl) (by omega) (by omega) e2 e3 f3 e1 f1 (fun s2 hs2 hl hcf => br_f one_ne ?_) (fun s2 hs2 hn2 => br_t rfl ?_))
    · refine ih s2 (hs.tr hs2) _ ?_
      rw [hn, if_pos hl, if_pos hl, cntP_t hcf]
    · refine ih s2 (hs.tr hs2) _ ?_
      rw [hn]
      rcases Classical.em (c (26 + 16 * j) = nI 1) with hl | hl
      · rw [if_pos hl, if_pos hl, cntP_f (fun z => hn2 ⟨hl, z⟩)]
      · rw [if_neg hl, if_neg hl]
  · rcases Classical.em (c (26 + 16 * j) = nI 1) with hl | hl
    · rw [if_pos hl]
      rfl
    · rw [if_neg hl]
theorem t_conflicts0 {j : Nat} (hd : 4 ≤ d) (hc : MC σ c) (hR : Row c m p q) (hj : j < p) (k : ∀ s, Fr PS FM σ s → K (nI (cfl c p j (lnN c j))) s) : CTi mX7_conflicts d [.ref 11, .int (nI j)] σ K := t_conflicts hd hc hR hj k
theorem t_allConflicts (hd : 5 ≤ d) (hc : MC σ c) (hR : Row c m p q) (k : ∀ s, Fr PS FM σ s → K (nI (vCfs c p / 2)) s) : CTi mX7_allConflicts d [.ref 11] σ K := by
  obtain ⟨-, hm6, hp, hp20, -⟩ := id hR
  have hb : ∀ n, n ≤ p → sumN (fun j => cfl c p j (lnN c j)) n ≤ n * 20 := fun n hn => sumN_le n (fun k _ => Nat.le_trans (cfl_le _ _ _ _) hp20)
  refine eX7_allConflicts ?_
  refine cup (I := fun i s => Fr PS FM σ s) (G := fun i s => VV mX7_allConflicts d s00 4 [some (.ref 11), some (.int (nI (sumN (fun j => cfl c p j (lnN c j)) i))), some (.int (nI i))] [] s (Qi K)) p ?_ ?_ 0 (Nat.zero_le _) σ Fr.rf
  · intro s hs
    have hbp := hb p (Nat.le_refl _)
    refine bX7_allConflicts_4 _ _ (by omega) ⟨vp_in_nI (by omega) (by omega), ?_⟩
    rw [cl (by omega), (hc.fr hs rfl) 1 (by omega), hp, pk_div (by omega) (by omega) (by omega)]
    exact br_t (nI_le (Nat.le_refl _) (by omega)) (k s hs)
  · intro i hi ih s hs
    refine bX7_allConflicts_4 _ _ (by omega) ⟨vp_in_nI (by omega) (by omega), ?_⟩
    rw [cl (by omega), (hc.fr hs rfl) 1 (by omega), hp, nI_add]
    refine br_f (nI_ge hi (by omega)) (t_conflicts (by omega) (hc.fr hs rfl) hR hi (fun s2 hs2 => ?_))
    rw [nI_add]
    exact ih s2 (hs.tr hs2)
theorem t_counted {w : Nat} (hd : 6 ≤ d) (hc : MC σ c) (hR : Row c m p q) (hw : w < 13) (k : ∀ s, Fr PS FM σ s → K (cprop c p q w) s) : CTi mX7_counted d [.ref 11, .int (nI w)] σ K := by
  have kk := k σ Fr.rf
  refine eX7_counted _ (by omega) ⟨fun g2 => ⟨fun n2 => ⟨fun n3 => ⟨fun n4 => ⟨fun n5 => ⟨fun n6 => ⟨fun n7 => ⟨fun n13 => ?_, fun e => ?_⟩, fun e => ?_⟩, fun e => ?_⟩, fun e => ?_⟩, fun e => ?_⟩, fun e => ?_⟩, fun e => ?_⟩, fun l2 => ?_⟩
  · have h2 := (nI_leI (by omega) (by omega)).mp g2
    have ne : ∀ k, ¬ nI w = nI k → w ≠ k := fun k h e => h (by rw [e])
    have h3 := ne 2 n2
    have h4 := ne 3 n3
    have h5 := ne 4 n4
    have h6 := ne 5 n5
    have h7 := ne 6 n6
    have h8 := ne 7 n7
    unfold cprop at kk
    rw [if_neg (by omega), if_neg (by omega), if_neg (by omega), if_neg (by omega), if_neg (by omega), if_neg (by omega), if_neg (by omega)] at kk
    rw [nI_add, pk_sub (by omega), cl (by omega), hc _ (by omega), show 5 + w - 8 = 5 + (w - 8) by omega]
    exact ⟨vp_in_nI (by omega) (by omega), kk⟩
  · exact absurd (nI_inj (by omega) (by omega) e) (by omega)
  · have e := nI_inj (by omega) (by omega) e
    subst e
    exact t_allConflicts (by omega) hc hR k
  · have e := nI_inj (by omega) (by omega) e
    subst e
    rw [cl (by omega), hc _ (by omega)]
    exact ⟨vp_in_nI (by omega) (by omega), kk⟩
  · have e := nI_inj (by omega) (by omega) e
    subst e
    rw [cl (by omega), hc _ (by omega)]
    exact ⟨vp_in_nI (by omega) (by omega), kk⟩
  · have e := nI_inj (by omega) (by omega) e
    subst e
    exact t_paidBack (by omega) hc hR kk
  · have e := nI_inj (by omega) (by omega) e
    subst e
    rw [cl (by omega), hc _ (by omega)]
    exact ⟨vp_in_nI (by omega) (by omega), kk⟩
  · have e := nI_inj (by omega) (by omega) e
    subst e
    exact t_live (by omega) hc hR kk
  · have h2 : ¬ 2 ≤ w := fun z => l2 ((nI_leI (by omega) (by omega)).mpr z)
    unfold cprop at kk
    rw [if_pos (by omega)] at kk
    rw [cl (by omega), hc _ (by omega)]
    exact ⟨vp_in_nI (by omega) (by omega), kk⟩
theorem t_memberNow {x w : Nat} (hd : 1 ≤ d) (hc : MC σ c) (hR : Row c m p q) (hx : x < 6) (hw : w < 5) (k : K (mprop c p q x w) σ) : CTi mX7_memberNow d [.ref 11, .int (nI x), .int (nI w)] σ K := by
  obtain ⟨-, hm6, hp, hp20, hq, hq24, -⟩ := id hR
  unfold mprop at k
  refine eX7_memberNow _ _ ⟨fun g2 => ?_, fun l2 => ?_⟩
  · have h2 := (nI_leI (by omega) (by omega)).mp g2
    rw [if_neg (by omega)] at k
    by_cases w2 : w = 2
    · subst w2
      refine cup (I := fun i (_ : SS) => True) (G := fun i _ => VV mX7_memberNow d s00 24 [some (.ref 11), some (.int (nI x)), some (.int (nI 2)), some (.int (nI (vOwn c i x))), some (.int (nI i))] [] σ (Qi K)) p ?_ ?_ 0 (Nat.zero_le _) σ trivial
      · intro _ _
        refine bX7_memberNow_24 _ _ _ _ hd ⟨vp_in_nI (by omega) (by omega), ?_⟩
        rw [cl (by omega), hc 1 (by omega), hp]
        refine br_t (nI_le (Nat.le_refl _) (by omega)) (bX7_memberNow_74 _ _ _ _ hd ⟨vp_in_nI (by omega) (by omega), ?_⟩)
        rw [cl (by omega), hc 2 (by omega), hq]
        exact ⟨fun _ => k, fun _ => br_t (nI_le (Nat.le_refl _) (by omega)) k⟩
      · intro i hi ih _ _
        have ih := ih σ trivial
        obtain ⟨o1, o2⟩ := hR.own hi
        refine bX7_memberNow_24 _ _ _ _ hd ⟨vp_in_nI (by omega) (by omega), ?_⟩
        rw [cl (by omega), hc 1 (by omega), hp, add0, nI_add]
        refine br_f (nI_ge hi (by omega)) (br_nf rfl (t_of (k := 0) hc (by omega) (by omega) ?_))
        rw [Nat.add_zero]
        unfold vOwn at ih ⊢
        refine ⟨fun no => ?_, fun eo => t_of (k := 4) hc (by omega) (by omega) ?_⟩
        · rw [cntP_f (P := fun j => c (26 + 16 * j) = nI 1 ∧ c (22 + 16 * j) = nI x) (fun z => no z.2)] at ih
          exact ih
        · rw [show 22 + 16 * i + 4 = 26 + 16 * i by omega]
          rcases hR.live hi with e | e
          · rw [cntP_f (P := fun j => c (26 + 16 * j) = nI 1 ∧ c (22 + 16 * j) = nI x) (fun z => by rw [e] at z; exact absurd z.1 (by decide))] at ih
            rw [e, add0]
            exact ih
          · rw [cntP_t (P := fun j => c (26 + 16 * j) = nI 1 ∧ c (22 + 16 * j) = nI x) ⟨e, eo⟩] at ih
            rw [e, nI_add]
            exact ih
    · rw [if_neg w2] at k
      refine bX7_memberNow_24 _ _ _ _ hd ⟨vp_in_nI (by omega) (by omega), ?_⟩
      have go : VV mX7_memberNow d s00 74 [some (.ref 11), some (.int (nI x)), some (.int (nI w)), some (.int (nI 0)), some (.int (nI 0))] [] σ (Qi K) := by
        by_cases w3 : w = 3
        · subst w3
          refine cup (I := fun i (_ : SS) => True) (G := fun i _ => VV mX7_memberNow d s00 74 [some (.ref 11), some (.int (nI x)), some (.int (nI 3)), some (.int (nI (vUse c i x))), some (.int (nI i))] [] σ (Qi K)) q ?_ ?_ 0 (Nat.zero_le _) σ trivial
          · intro _ _
            refine bX7_memberNow_74 _ _ _ _ hd ⟨vp_in_nI (by omega) (by omega), ?_⟩
            rw [cl (by omega), hc 2 (by omega), hq]
            exact br_t (nI_le (Nat.le_refl _) (by omega)) k
          · intro i hi ih _ _
            have ih := ih σ trivial
            refine bX7_memberNow_74 _ _ _ _ hd ⟨vp_in_nI (by omega) (by omega), ?_⟩
            rw [cl (by omega), hc 2 (by omega), hq, add0, nI_add, nI_add]
            unfold vUse at ih ⊢
            refine br_f (nI_ge hi (by omega)) (br_f (nI_ge (by omega) (by omega)) (br_nf rfl (t_ofNote (k := 0) hc (by omega) (by omega) ⟨fun e => ?_, fun e => ?_⟩)))
            · rw [cntP_f (P := fun k => c (342 + 13 * k) = nI x) e] at ih
              exact ih
            · rw [cntP_t (P := fun k => c (342 + 13 * k) = nI x) e] at ih
              rw [nI_add]
              exact ih
        · have w4 : w = 4 := by omega
          subst w4
          refine cup (I := fun i (_ : SS) => True) (G := fun i _ => VV mX7_memberNow d s00 74 [some (.ref 11), some (.int (nI x)), some (.int (nI 4)), some (.int (vGot c i x)), some (.int (nI i))] [] σ (Qi K)) q ?_ ?_ 0 (Nat.zero_le _) σ trivial
          · intro _ _
            refine bX7_memberNow_74 _ _ _ _ hd ⟨vp_in_nI (by omega) (by omega), ?_⟩
            rw [cl (by omega), hc 2 (by omega), hq]
            exact br_t (nI_le (Nat.le_refl _) (by omega)) k
          · intro i hi ih _ _
            have ih := ih σ trivial
            refine bX7_memberNow_74 _ _ _ _ hd ⟨vp_in_nI (by omega) (by omega), ?_⟩
            rw [cl (by omega), hc 2 (by omega), hq, add0, nI_add, nI_add]
            unfold vGot at ih ⊢
            refine br_f (nI_ge hi (by omega)) (br_f (nI_ge (by omega) (by omega)) (br_nt (by decide) (t_ofNote (k := 5) hc (by omega) (by omega) ?_)))
            rw [show 342 + 13 * i + 5 = 347 + 13 * i by omega]
            refine ⟨fun e => ?_, fun e => t_ofNote hc (by omega) (by omega) ?_⟩
            · have e1 : c (347 + 13 * i) = nI 1 := (hR.paid hi).resolve_left e
              rw [sumP_f (P := fun k => ¬ c (347 + 13 * k) = nI 1) (fun z => z e1)] at ih
              exact ih
            · rw [sumP_t (P := fun k => ¬ c (347 + 13 * k) = nI 1) (by rw [e]; decide)] at ih
              exact ih
      exact ⟨fun _ => go, fun _ => br_nt (nI_neq (by omega) (by omega) w2) go⟩
  · have h2 : ¬ 2 ≤ w := fun z => l2 ((nI_leI (by omega) (by omega)).mpr z)
    rw [if_pos (by omega)] at k
    rw [pk_mul, nI_add, nI_add, cl (by omega), hc _ (by omega)]
    exact ⟨vp_in_nI (by omega) (by omega), k⟩
end SPN
