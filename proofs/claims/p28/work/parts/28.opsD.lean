/-! DIGEST -/
def fd (f : Nat → Int32) : Nat → Int64 → Int64
  | 0, h => h
  | i + 1, h => (31) * fd f i h + (f i).toInt64
def fd2 (g : Nat → Int64 → Int64) : Nat → Int64 → Int64
  | 0, h => h
  | i + 1, h => g i (fd2 g i h)
noncomputable def dgM (c : Nat → Int32) (p q j : Nat) (h : Int64) : Int64 := fd (fun w => mprop c p q j w) 5 h
noncomputable def dgP (c : Nat → Int32) (p j : Nat) (h : Int64) : Int64 := fd (fun i => c (28 + 16 * j + i)) (lnN c j) (fd (fun w => pprop c p j w) 7 h)
def dgN (c : Nat → Int32) (j : Nat) (h : Int64) : Int64 := fd (fun w => c (342 + 13 * j + w)) 13 h
noncomputable def dgA (c : Nat → Int32) (m p q : Nat) : Int64 := fd2 (dgN c) q (fd2 (dgP c p) p (fd2 (dgM c p q) m (fd (fun w => cprop c p q w) 13 61)))
section OPD
variable {d : Nat} {σ : SS} {K : Int64 → SS → Prop} {Kv : SS → Prop} {c : Nat → Int32} {m p q : Nat}
theorem s_hashPhrase {j : Nat} {h : Int64} (hd : 5 ≤ d) (hR : Row (σ.1 12) m p q) (hj : j < p) (k : ∀ s, Fr PC FC σ s → K (dgP (σ.1 12) p j h) s) : CTl mX6_hashPhrase d [.ref 0, .long h, .int (nI j)] σ K := by
  have hp20 := hR.2.2.2.1
  obtain ⟨l1, l2, l3⟩ := hR.len hj
  refine eX6_hashPhrase _ _ ?_
  refine cup (I := fun i s => Fr PC FC σ s) (G := fun i s => VV mX6_hashPhrase d s00 6 [some (.ref 0), some (.long h), none, some (.int (nI j)), some (.long (fd (fun w => pprop (σ.1 12) p j w) i h)), none, some (.int (nI i))] [] s (Ql K)) 7 ?_ ?_ 0 (Nat.zero_le _) σ Fr.rf
  · intro s f
    refine bX6_hashPhrase_6 _ _ _ _ (by omega) (br_t (nI_le (Nat.le_refl _) (by omega)) ?_)
    refine cup (I := fun i s => Fr PC FC σ s) (G := fun i s => VV mX6_hashPhrase d s00 42 [some (.ref 0), some (.long h), none, some (.int (nI j)), some (.long (fd (fun i => σ.1 12 (28 + 16 * j + i)) i (fd (fun w => pprop (σ.1 12) p j w) 7 h))), none, some (.int (nI i))] [] s (Ql K)) (lnN (σ.1 12) j) ?_ ?_ 0 (Nat.zero_le _) s f
    · intro s f
      refine bX6_hashPhrase_42 _ _ _ _ (by omega) (s_lengthOf (by omega) (by omega) ?_)
      rw [f.1 12 rfl, l1]
      exact br_t (nI_le (Nat.le_refl _) (by omega)) (k s f)
    · intro i hi ih s f
      refine bX6_hashPhrase_42 _ _ _ _ (by omega) (s_lengthOf (by omega) (by omega) ?_)
      rw [f.1 12 rfl, l1, nI_add]
      refine br_f (nI_ge hi (by omega)) (s_wordOf (by omega) (by omega) (by omega) ?_)
      rw [f.1 12 rfl]
      exact ih s f
  · intro i hi ih s f
    refine bX6_hashPhrase_6 _ _ _ _ (by omega) (br_f (nI_ge hi (by omega)) ?_)
    rw [nI_add]
    refine s_phraseProperty (m := m) (p := p) (q := q) (by omega) (by rw [f.1 12 rfl]; exact hR) hj hi (fun t ft => ?_)
    rw [f.1 12 rfl]
    exact ih t (f.tr ft.LC)
theorem s_digest (hd : 6 ≤ d) (hR : Row (σ.1 12) m p q) (k : ∀ s, Fr PC FC σ s → K (dgA (σ.1 12) m p q) s) : CTl mX6_digest d [.ref 0] σ K := by
  obtain ⟨hm, hm6, hp, hp20, hq, hq24, -⟩ := id hR
  refine eX6_digest ?_
  refine cup (I := fun i s => Fr PC FC σ s) (G := fun i s => VV mX6_digest d s00 6 [some (.ref 0), some (.long (fd (fun w => cprop (σ.1 12) p q w) i 61)), none, some (.int (nI i)), none] [] s (Ql K)) 13 ?_ ?_ 0 (Nat.zero_le _) σ Fr.rf
  · intro s f
    refine bX6_digest_6 _ _ (by omega) (br_t (nI_le (Nat.le_refl _) (by omega)) ?_)
    refine cup (I := fun i s => Fr PC FC σ s) (G := fun i s => VV mX6_digest d s00 36 [some (.ref 0), some (.long (fd2 (dgM (σ.1 12) p q) i (fd (fun w => cprop (σ.1 12) p q w) 13 61))), none, some (.int (nI i)), none] [] s (Ql K)) m ?_ ?_ 0 (Nat.zero_le _) s f
    · intro s f
      refine bX6_digest_36 _ _ (by omega) (s_members ?_)
      rw [f.1 12 rfl, hm]
      refine br_t (nI_le (Nat.le_refl _) (by omega)) ?_
      refine cup (I := fun i s => Fr PC FC σ s) (G := fun i s => VV mX6_digest d s00 88 [some (.ref 0), some (.long (fd2 (dgP (σ.1 12) p) i (fd2 (dgM (σ.1 12) p q) m (fd (fun w => cprop (σ.1 12) p q w) 13 61)))), none, some (.int (nI i)), none] [] s (Ql K)) p ?_ ?_ 0 (Nat.zero_le _) s f
      · intro s f
        refine bX6_digest_88 _ _ (by omega) (s_phrases ?_)
        rw [f.1 12 rfl, hp]
        refine br_t (nI_le (Nat.le_refl _) (by omega)) ?_
        refine cup (I := fun i s => Fr PC FC σ s) (G := fun i s => VV mX6_digest d s00 114 [some (.ref 0), some (.long (fd2 (dgN (σ.1 12)) i (fd2 (dgP (σ.1 12) p) p (fd2 (dgM (σ.1 12) p q) m (fd (fun w => cprop (σ.1 12) p q w) 13 61))))), none, some (.int (nI i)), none] [] s (Ql K)) q ?_ ?_ 0 (Nat.zero_le _) s f
        · intro s f
          refine bX6_digest_114 _ _ (by omega) (s_notes ?_)
          rw [f.1 12 rfl, hq]
          exact br_t (nI_le (Nat.le_refl _) (by omega)) (k s f)
        · intro i hi ih s f
          refine bX6_digest_114 _ _ (by omega) (s_notes ?_)
          rw [f.1 12 rfl, hq]
          refine br_f (nI_ge hi (by omega)) ?_
          refine cup (I := fun w s => Fr PC FC σ s) (G := fun w s => VV mX6_digest d s00 128 [some (.ref 0), some (.long (fd (fun w => σ.1 12 (342 + 13 * i + w)) w (fd2 (dgN (σ.1 12)) i (fd2 (dgP (σ.1 12) p) p (fd2 (dgM (σ.1 12) p q) m (fd (fun w => cprop (σ.1 12) p q w) 13 61)))))), none, some (.int (nI i)), some (.int (nI w))] [] s (Ql K)) 13 ?_ ?_ 0 (Nat.zero_le _) s f
          · intro s f
            refine bX6_digest_128 _ _ _ (by omega) (br_t (nI_le (Nat.le_refl _) (by omega)) ?_)
            rw [nI_add]
            exact ih s f
          · intro w hw iw s f
            refine bX6_digest_128 _ _ _ (by omega) (br_f (nI_ge hw (by omega)) (s_noteProperty (by omega) (by omega) hw ?_))
            rw [f.1 12 rfl, nI_add]
            exact iw s f
      · intro i hi ih s f
        refine bX6_digest_88 _ _ (by omega) (s_phrases ?_)
        rw [f.1 12 rfl, hp, nI_add]
        refine br_f (nI_ge hi (by omega)) (s_hashPhrase (m := m) (p := p) (q := q) (by omega) (by rw [f.1 12 rfl]; exact hR) hi (fun t ft => ?_))
        rw [f.1 12 rfl]
        exact ih t (f.tr ft)
    · intro i hi ih s f
      refine bX6_digest_36 _ _ (by omega) (s_members ?_)
      rw [f.1 12 rfl, hm]
      refine br_f (nI_ge hi (by omega)) ?_
      refine cup (I := fun w s => Fr PC FC σ s) (G := fun w s => VV mX6_digest d s00 50 [some (.ref 0), some (.long (fd (fun w => mprop (σ.1 12) p q i w) w (fd2 (dgM (σ.1 12) p q) i (fd (fun w => cprop (σ.1 12) p q w) 13 61)))), none, some (.int (nI i)), some (.int (nI w))] [] s (Ql K)) 5 ?_ ?_ 0 (Nat.zero_le _) s f
      · intro s f
        refine bX6_digest_50 _ _ _ (by omega) (br_t (nI_le (Nat.le_refl _) (by omega)) ?_)
        rw [nI_add]
        exact ih s f
      · intro w hw iw s f
        refine bX6_digest_50 _ _ _ (by omega) (br_f (nI_ge hw (by omega)) (s_memberProperty (m := m) (p := p) (q := q) (by omega) (by rw [f.1 12 rfl]; exact hR) (by omega) hw ?_))
        rw [f.1 12 rfl, nI_add]
        exact iw s f
  · intro i hi ih s f
    refine bX6_digest_6 _ _ (by omega) (br_f (nI_ge hi (by omega)) ?_)
    rw [nI_add]
    refine s_countOf (m := m) (p := p) (q := q) (by omega) (by rw [f.1 12 rfl]; exact hR) hi (fun t ft => ?_)
    rw [f.1 12 rfl]
    exact ih t (f.tr ft.LC)
end OPD
