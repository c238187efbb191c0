/-! DIGEST -/
def fd (f : Nat → Int32) : Nat → Int64 → Int64
  | 0, h => h
  | i + 1, h => (31) * fd f i h + (f i).toInt64
def fd2 (g : Nat → Int64 → Int64) : Nat → Int64 → Int64
  | 0, h => h
  | i + 1, h => g i (fd2 g i h)
noncomputable def dgM (c : Nat → Int32) (p q j : Nat) (h : Int64) : Int64 := fd (fun w => mprop c p q j w) 5 h
noncomputable def dgP (c : Nat → Int32) (p j : Nat) (h : Int64) : Int64 := fd (fun i => c (28 + 16 * j + i)) (lnN c j) (fd (fun w => pprop c p j w) 7 h)
def dgN (c : Nat → Int32) (j : Nat) (h : Int64) : Int64 := fd (fun w => c (342 + 13 * j + w)) 13 h
noncomputable def dgA (c : Nat → Int32) (m p q : Nat) : Int64 := fd2 (dgN c) q (fd2 (dgP c p) p (fd2 (dgM c p q) m (fd (fun w => cprop c p q w) 13 61)))
theorem Fr.hh {σ s : SS} {h h' : Int64} (f : Fr PM FM (sH σ h) s) : Fr PM FM (sH σ h') (sH s h') := ⟨f.1, f.2.1, rfl⟩
section OPD
variable {d : Nat} {σ : SS} {K : Int64 → SS → Prop} {Kv : SS → Prop} {c : Nat → Int32} {m p q : Nat}
theorem s_hashPhrase {j : Nat} {h : Int64} (hd : 5 ≤ d) (hR : Row (σ.1 12) m p q) (hj : j < p) (k : ∀ s, Fr PC FC σ s → K (dgP (σ.1 12) p j h) s) : CTl mX6_hashPhrase d [.ref 0, .long h, .int (nI j)] σ K := by
  have hp20 := hR.2.2.2.1
  obtain ⟨l1, l2, l3⟩ := hR.len hj
  refine eX6_hashPhrase _ _ ?_
  refine cup (I := fun i s => Fr PC FC σ s) (G := fun i s => VV mX6_hashPhrase d s00 6 [some (.ref 0), some (.long h), none, some (.int (nI j)), some (.long (fd (fun w => pprop (σ.1 12) p j w) i h)), none, some (.int (nI i))] [] s (Ql K)) 7 ?_ ?_ 0 (Nat.zero_le _) σ Fr.rf
  · intro s f
    refine bX6_hashPhrase_6 _ _ _ _ (by omega) (br_t (nI_le (Nat.le_refl _) (by omega)) ?_)
    refine cup (I := fun i s => Fr PC FC σ s) (G := fun i s => VV mX6_hashPhrase d s00 42 [some (.ref 0), some (.long h), none, some (.int (nI j)), some (.long (fd (fun i => σ.1 12 (28 + 16 * j + i)) i (fd (fun w => pprop (σ.1 12) p j w) 7 h))), none, some (.int (nI i))] [] s (Ql K)) (lnN (σ.1 12) j) ?_ ?_ 0 (Nat.zero_le _) s f
    · intro s f
      refine bX6_hashPhrase_42 _ _ _ _ (by omega) (s_lengthOf (by omega) (by omega) ?_)
      rw [f.1 12 rfl, l1]
      exact br_t (nI_le (Nat.le_refl _) (by omega)) (k s f)
    · intro i hi ih s f
      refine bX6_hashPhrase_42 _ _ _ _ (by omega) (s_lengthOf (by omega) (by omega) ?_)
      rw [f.1 12 rfl, l1, nI_add]
      refine br_f (nI_ge hi (by omega)) (s_wordOf (by omega) (by omega) (by omega) ?_)
      rw [f.1 12 rfl]
      exact ih s f
  · intro i hi ih s f
    refine bX6_hashPhrase_6 _ _ _ _ (by omega) (br_f (nI_ge hi (by omega)) ?_)
    rw [nI_add]
    refine s_phraseProperty (m := m) (p := p) (q := q) (by omega) (by rw [f.1 12 rfl]; exact hR) hj hi (fun t ft => ?_)
    rw [f.1 12 rfl]
    exact ih t (f.tr ft.LC)
theorem s_digest (hd : 6 ≤ d) (hR : Row (σ.1 12) m p q) (k : ∀ s, Fr PC FC σ s → K (dgA (σ.1 12) m p q) s) : CTl mX6_digest d [.ref 0] σ K := by
  obtain ⟨hm, hm6, hp, hp20, hq, hq24, -⟩ := id hR
  refine eX6_digest ?_
  refine cup (I := fun i s => Fr PC FC σ s) (G := fun i s => VV mX6_digest d s00 6 [some (.ref 0), some (.long (fd (fun w => cprop (σ.1 12) p q w) i 61)), none, some (.int (nI i)), none] [] s (Ql K)) 13 ?_ ?_ 0 (Nat.zero_le _) σ Fr.rf
  · intro s f
    refine bX6_digest_6 _ _ (by omega) (br_t (nI_le (Nat.le_refl _) (by omega)) ?_)
    refine cup (I := fun i s => Fr PC FC σ s) (G := fun i s => VV mX6_digest d s00 36 [some (.ref 0), some (.long (fd2 (dgM (σ.1 12) p q) i (fd (fun w => cprop (σ.1 12) p q w) 13 61))), none, some (.int (nI i)), none] [] s (Ql K)) m ?_ ?_ 0 (Nat.zero_le _) s f
    · intro s f
      refine bX6_digest_36 _ _ (by omega) (s_members ?_)
      rw [f.1 12 rfl, hm]
      refine br_t (nI_le (Nat.le_refl _) (by omega)) ?_
      refine cup (I := fun i s => Fr PC FC σ s) (G := fun i s => VV mX6_digest d s00 88 [some (.ref 0), some (.long (fd2 (dgP (σ.1 12) p) i (fd2 (dgM (σ.1 12) p q) m (fd (fun w => cprop (σ.1 12) p q w) 13 61)))), none, some (.int (nI i)), none] [] s (Ql K)) p ?_ ?_ 0 (Nat.zero_le _) s f
      · intro s f
        refine bX6_digest_88 _ _ (by omega) (s_phrases ?_)
        rw [f.1 12 rfl, hp]
        refine br_t (nI_le (Nat.le_refl _) (by omega)) ?_
        refine cup (I := fun i s => Fr PC FC σ s) (G := fun i s => VV mX6_digest d s00 114 [some (.ref 0), some (.long (fd2 (dgN (σ.1 12)) i (fd2 (dgP (σ.1 12) p) p (fd2 (dgM (σ.1 12) p q) m (fd (fun w => cprop (σ.1 12) p q w) 13 61))))), none, some (.int (nI i)), none] [] s (Ql K)) q ?_ ?_ 0 (Nat.zero_le _) s f
        · intro s f
          refine bX6_digest_114 _ _ (by omega) (s_notes ?_)
          rw [f.1 12 rfl, hq]
          exact br_t (nI_le (Nat.le_refl _) (by omega)) (k s f)
        · intro i hi ih s f
          refine bX6_digest_114 _ _ (by omega) (s_notes ?_)
          rw [f.1 12 rfl, hq]
          refine br_f (nI_ge hi (by omega)) ?_
          refine cup (I := fun w s => Fr PC FC σ s) (G := fun w s => VV mX6_digest d s00 128 [some (.ref 0), some (.long (fd (fun w => σ.1 12 (342 + 13 * i + w)) w (fd2 (dgN (σ.1 12)) i (fd2 (dgP (σ.1 12) p) p (fd2 (dgM (σ.1 12) p q) m (fd (fun w => cprop (σ.1 12) p q w) 13 61)))))), none, some (.int (nI i)), some (.int (nI w))] [] s (Ql K)) 13 ?_ ?_ 0 (Nat.zero_le _) s f
          · intro s f
            refine bX6_digest_128 _ _ _ (by omega) (br_t (nI_le (Nat.le_refl _) (by omega)) ?_)
            rw [nI_add]
            exact ih s f
          · intro w hw iw s f
            refine bX6_digest_128 _ _ _ (by omega) (br_f (nI_ge hw (by omega)) (s_noteProperty (by omega) (by omega) hw ?_))
            rw [f.1 12 rfl, nI_add]
            exact iw s f
      · intro i hi ih s f
        refine bX6_digest_88 _ _ (by omega) (s_phrases ?_)
        rw [f.1 12 rfl, hp, nI_add]
        refine br_f (nI_ge hi (by omega)) (s_hashPhrase (m := m) (p := p) (q := q) (by omega) (by rw [f.1 12 rfl]; exact hR) hi (fun t ft => ?_))
        rw [f.1 12 rfl]
        exact ih t (f.tr ft)
    · intro i hi ih s f
      refine bX6_digest_36 _ _ (by omega) (s_members ?_)
      rw [f.1 12 rfl, hm]
      refine br_f (nI_ge hi (by omega)) ?_
      refine cup (I := fun w s => Fr PC FC σ s) (G := fun w s => VV mX6_digest d s00 50 [some (.ref 0), some (.long (fd (fun w => mprop (σ.1 12) p q i w) w (fd2 (dgM (σ.1 12) p q) i (fd (fun w => cprop (σ.1 12) p q w) 13 61)))), none, some (.int (nI i)), some (.int (nI w))] [] s (Ql K)) 5 ?_ ?_ 0 (Nat.zero_le _) s f
      · intro s f
        refine bX6_digest_50 _ _ _ (by omega) (br_t (nI_le (Nat.le_refl _) (by omega)) ?_)
        rw [nI_add]
        exact ih s f
      · intro w hw iw s f
        refine bX6_digest_50 _ _ _ (by omega) (br_f (nI_ge hw (by omega)) (s_memberProperty (m := m) (p := p) (q := q) (by omega) (by rw [f.1 12 rfl]; exact hR) (by omega) hw ?_))
        rw [f.1 12 rfl, nI_add]
        exact iw s f
  · intro i hi ih s f
    refine bX6_digest_6 _ _ (by omega) (br_f (nI_ge hi (by omega)) ?_)
    rw [nI_add]
    refine s_countOf (m := m) (p := p) (q := q) (by omega) (by rw [f.1 12 rfl]; exact hR) hi (fun t ft => ?_)
    rw [f.1 12 rfl]
    exact ih t (f.tr ft.LC)
/-- the reference adds a value to its hash -/
theorem t_adds {s : SS} {h : Int64} {x : Int32} (f : Fr PM FM (sH σ h) s) (k : ∀ t, Fr PM FM (sH σ ((31) * h + x.toInt64)) t → Kv t) : CTv mX7_adds d [.ref 11, .long x.toInt64] s Kv := by
  refine eX7_adds _ (k _ ?_)
  have e : s.2.2 = h := f.2.2
  rw [e]
  exact f.hh
theorem MC.hh {s : SS} {h : Int64} (hc : MC σ c) (f : Fr PM FM (sH σ h) s) : MC s c := MC.fr (σ := sH σ h) hc f rfl
theorem t_digest (hd : 7 ≤ d) (hc : MC σ c) (hR : Row c m p q) (k : ∀ s, Fr PM FM (sH σ (dgA c m p q)) s → K (dgA c m p q) s) : CTl mX7_digest d [.ref 11] σ K := by
  obtain ⟨hm, hm6, hp, hp20, hq, hq24, -⟩ := id hR
  refine eX7_digest ?_
  refine cup (I := fun i s => Fr PM FM (sH σ (fd (fun w => cprop c p q w) i 61)) s) (G := fun i s => VV mX7_digest d s00 9 [some (.ref 11), some (.int (nI i)), none] [] s (Ql K)) 13 ?_ ?_ 0 (Nat.zero_le _) _ Fr.rf
  · intro s f
    refine bX7_digest_9 _ (by omega) (br_t (nI_le (Nat.le_refl _) (by omega)) ?_)
    refine cup (I := fun i s => Fr PM FM (sH σ (fd2 (dgM c p q) i (fd (fun w => cprop c p q w) 13 61))) s) (G := fun i s => VV mX7_digest d s00 33 [some (.ref 11), some (.int (nI i)), none] [] s (Ql K)) m ?_ ?_ 0 (Nat.zero_le _) s f
    · intro s f
      refine bX7_digest_33 _ ⟨vp_in_nI (by omega) (by omega), ?_⟩
      rw [cl (n := 0) (by omega), (hc.hh f) 0 (by omega), hm]
      refine br_t (nI_le (Nat.le_refl _) (by omega)) ?_
      refine cup (I := fun i s => Fr PM FM (sH σ (fd2 (dgP c p) i (fd2 (dgM c p q) m (fd (fun w => cprop c p q w) 13 61)))) s) (G := fun i s => VV mX7_digest d s00 75 [some (.ref 11), some (.int (nI i)), none] [] s (Ql K)) p ?_ ?_ 0 (Nat.zero_le _) s f
      · intro s f
        refine bX7_digest_75 _ ⟨vp_in_nI (by omega) (by omega), ?_⟩
        rw [cl (n := 1) (by omega), (hc.hh f) 1 (by omega), hp]
        refine br_t (nI_le (Nat.le_refl _) (by omega)) ?_
        refine cup (I := fun i s => Fr PM FM (sH σ (fd2 (dgN c) i (fd2 (dgP c p) p (fd2 (dgM c p q) m (fd (fun w => cprop c p q w) 13 61))))) s) (G := fun i s => VV mX7_digest d s00 150 [some (.ref 11), some (.int (nI i)), none] [] s (Ql K)) q ?_ ?_ 0 (Nat.zero_le _) s f
        · intro s f
          refine bX7_digest_150 _ ⟨vp_in_nI (by omega) (by omega), ?_⟩
          rw [cl (n := 2) (by omega), (hc.hh f) 2 (by omega), hq, show s.2.2 = _ from f.2.2]
          exact br_t (nI_le (Nat.le_refl _) (by omega)) (k s f)
        · intro i hi ih s f
          refine bX7_digest_150 _ ⟨vp_in_nI (by omega) (by omega), ?_⟩
          rw [cl (n := 2) (by omega), (hc.hh f) 2 (by omega), hq]
          refine br_f (nI_ge hi (by omega)) ?_
          refine cup (I := fun w s => Fr PM FM (sH σ (fd (fun w => c (342 + 13 * i + w)) w (fd2 (dgN c) i (fd2 (dgP c p) p (fd2 (dgM c p q) m (fd (fun w => cprop c p q w) 13 61)))))) s) (G := fun w s => VV mX7_digest d s00 162 [some (.ref 11), some (.int (nI i)), some (.int (nI w))] [] s (Ql K)) 13 ?_ ?_ 0 (Nat.zero_le _) s f
          · intro s f
            refine bX7_digest_162 _ _ (by omega) (br_t (nI_le (Nat.le_refl _) (by omega)) ?_)
            rw [nI_add]
            exact ih s f
          · intro w hw iw s f
            refine bX7_digest_162 _ _ (by omega) (br_f (nI_ge hw (by omega)) (t_ofNote (hc.hh f) (by omega) hw (t_adds f (fun t ft => ?_))))
            rw [nI_add]
            exact iw t ft
      · intro i hi ih s f
        obtain ⟨l1, l2, l3⟩ := hR.len hi
        refine bX7_digest_75 _ ⟨vp_in_nI (by omega) (by omega), ?_⟩
        rw [cl (n := 1) (by omega), (hc.hh f) 1 (by omega), hp]
        refine br_f (nI_ge hi (by omega)) ?_
        refine cup (I := fun w s => Fr PM FM (sH σ (fd (fun w => pprop c p i w) w (fd2 (dgP c p) i (fd2 (dgM c p q) m (fd (fun w => cprop c p q w) 13 61))))) s) (G := fun w s => VV mX7_digest d s00 87 [some (.ref 11), some (.int (nI i)), some (.int (nI w))] [] s (Ql K)) 7 ?_ ?_ 0 (Nat.zero_le _) s f
        · intro s f
          refine bX7_digest_87 _ _ (by omega) (br_t (nI_le (Nat.le_refl _) (by omega)) ?_)
          refine cup (I := fun w s => Fr PM FM (sH σ (fd (fun w => c (28 + 16 * i + w)) w (fd (fun w => pprop c p i w) 7 (fd2 (dgP c p) i (fd2 (dgM c p q) m (fd (fun w => cprop c p q w) 13 61)))))) s) (G := fun w s => VV mX7_digest d s00 112 [some (.ref 11), some (.int (nI i)), some (.int (nI w))] [] s (Ql K)) (lnN c i) ?_ ?_ 0 (Nat.zero_le _) s f
          · intro s f
            refine bX7_digest_112 _ _ (by omega) (t_of (hc.hh f) (by omega) (by omega) ?_)
            rw [show 22 + 16 * i + 1 = 23 + 16 * i by omega, l1, nI_add]
            exact br_t (nI_le (Nat.le_refl _) (by omega)) (ih s f)
          · intro w hw iw s f
            refine bX7_digest_112 _ _ (by omega) (t_of (hc.hh f) (by omega) (by omega) ?_)
            rw [show 22 + 16 * i + 1 = 23 + 16 * i by omega, l1, nI_add, nI_add]
            refine br_f (nI_ge hw (by omega)) (t_of (hc.hh f) (by omega) (by omega) ?_)
            rw [show 22 + 16 * i + (6 + w) = 28 + 16 * i + w by omega]
            exact t_adds f (fun t ft => by rw [nI_add]; exact iw t ft)
        · intro w hw iw s f
          refine bX7_digest_87 _ _ (by omega) (br_f (nI_ge hw (by omega)) (t_phraseV (by omega) (hc.hh f) hR hi hw (fun t ft => t_adds (f.tr ft) (fun t2 f2 => ?_))))
          rw [nI_add]
          exact iw t2 f2
    · intro i hi ih s f
      refine bX7_digest_33 _ ⟨vp_in_nI (by omega) (by omega), ?_⟩
      rw [cl (n := 0) (by omega), (hc.hh f) 0 (by omega), hm]
      refine br_f (nI_ge hi (by omega)) ?_
      refine cup (I := fun w s => Fr PM FM (sH σ (fd (fun w => mprop c p q i w) w (fd2 (dgM c p q) i (fd (fun w => cprop c p q w) 13 61)))) s) (G := fun w s => VV mX7_digest d s00 45 [some (.ref 11), some (.int (nI i)), some (.int (nI w))] [] s (Ql K)) 5 ?_ ?_ 0 (Nat.zero_le _) s f
      · intro s f
        refine bX7_digest_45 _ _ (by omega) (br_t (nI_le (Nat.le_refl _) (by omega)) ?_)
        rw [nI_add]
        exact ih s f
      · intro w hw iw s f
        refine bX7_digest_45 _ _ (by omega) (br_f (nI_ge hw (by omega)) (t_memberNow (by omega) (hc.hh f) hR (by omega) hw (t_adds f (fun t2 f2 => ?_))))
        rw [nI_add]
        exact iw t2 f2
  · intro i hi ih s f
    refine bX7_digest_9 _ (by omega) (br_f (nI_ge hi (by omega)) (t_counted (by omega) (hc.hh f) hR hi (fun t ft => t_adds (f.tr ft.SM) (fun t2 f2 => ?_))))
    rw [nI_add]
    exact ih t2 f2
def E2l (MA MB : MD) (as : List Value) (σ : SS) : Prop := CTl MA 7 (.ref 0 :: as) σ (fun r1 s1 => CTl MB 7 (.ref 11 :: as) s1 (fun r2 s2 => r1 = r2 ∧ RR s2))
theorem op_digest (h : RR σ) : E2l mX6_digest mX7_digest [] σ := by
  obtain ⟨n, z, nx, H, hn, hz, ⟨m, p, q, hR⟩, hC, hM, hH⟩ := id h
  refine s_digest (by omega) hR (fun s f => t_digest (by omega) (hM.A f.CA).1 hR (fun t ft => ⟨rfl, h.ro f ?_ (fun _ _ _ _ _ w => MS.M (σ := sH s (dgA (σ.1 12) m p q)) w ft)⟩))
  have g := ft.MB
  exact ⟨g.1, g.2⟩
end OPD
