/-! SPECS: the match, what is agreed; both sides -/
def fmt (c : Nat → Int32) (th s i : Nat) (o : Option (Nat × Nat)) : Option (Nat × Nat) := match o with
  | none => if th ≤ s then some (i, s) else none
  | some b => if b.2 < s ∨ (s = b.2 ∧ c (27 + 16 * b.1) < c (27 + 16 * i)) then some (i, s) else some b
def fm (c : Nat → Int32) (th : Nat) (sc : Nat → Nat) : Nat → Option (Nat × Nat)
  | 0 => none
  | i + 1 => if c (26 + 16 * i) = nI 1 then fmt c th (sc i) i (fm c th sc i) else fm c th sc i
theorem fm_live {c : Nat → Int32} {th : Nat} {sc : Nat → Nat} {i : Nat} (h : c (26 + 16 * i) = nI 1) : fm c th sc (i + 1) = fmt c th (sc i) i (fm c th sc i) := if_pos h
theorem fm_dead {c : Nat → Int32} {th : Nat} {sc : Nat → Nat} {i : Nat} (h : ¬ c (26 + 16 * i) = nI 1) : fm c th sc (i + 1) = fm c th sc i := if_neg h
theorem fm_inv {c : Nat → Int32} {th : Nat} {sc : Nat → Nat} : ∀ i b, fm c th sc i = some b → b.1 < i ∧ th ≤ b.2 ∧ b.2 = sc b.1 ∧ c (26 + 16 * b.1) = nI 1 := by
  intro i
  induction i with
  | zero => intro b h; cases h
  | succ i ih =>
    intro b h
    by_cases hl : c (26 + 16 * i) = nI 1
    · rw [fm_live hl] at h
      cases e : fm c th sc i with
      | none =>
        rw [e] at h
        have h : (if th ≤ sc i then some (i, sc i) else none) = some b := h
        by_cases ht : th ≤ sc i
        · rw [if_pos ht] at h
          cases h
          exact ⟨by show i < i + 1; omega, ht, rfl, hl⟩
        · rw [if_neg ht] at h
          cases h
      | some b0 =>
        rw [e] at h
        obtain ⟨g1, g2, g3, g4⟩ := ih b0 e
        have h : (if b0.2 < sc i ∨ (sc i = b0.2 ∧ c (27 + 16 * b0.1) < c (27 + 16 * i)) then some (i, sc i) else some b0) = some b := h
        by_cases ht : b0.2 < sc i ∨ (sc i = b0.2 ∧ c (27 + 16 * b0.1) < c (27 + 16 * i))
        · rw [if_pos ht] at h
          cases h
          exact ⟨by show i < i + 1; omega, by show th ≤ sc i; rcases ht with q | q <;> omega, rfl, hl⟩
        · rw [if_neg ht] at h
          cases h
          exact ⟨by omega, g2, g3, g4⟩
    · rw [fm_dead hl] at h
      obtain ⟨g1, g2⟩ := ih b h
      exact ⟨by omega, g2⟩
def fmN : Option (Nat × Nat) → Int32
  | none => (-1000000)
  | some b => nI b.1
def fmS (x : Nat) : Option (Nat × Nat) → Int32
  | none => nI x
  | some b => nI b.2
/-- how alike a text is to phrase j -/
def tsc (b : Nat → Int32) (n : Nat) (c : Nat → Int32) (j : Nat) : Nat := scr (tw b n) (lw b n).length (phw c j) (lnN c j)
theorem nlt_ge {x y : Int32} : ¬ x ≤ y ↔ y < x := by rw [Int32.not_le]
section SPF
variable {d : Nat} {σ : SS} {K : Int32 → SS → Prop} {Kv : SS → Prop} {c : Nat → Int32} {m p q : Nat}
theorem s_findMatch {n th : Nat} (hd : 5 ≤ d) (hR : Row (σ.1 12) m p q) (hn : n ≤ 40) (hl : σ.2.1 2 = nI n) (hok : TxtOK (σ.1 31) n) (hth : σ.1 12 5 = nI th) (hth2 : th ≤ 100) (k : ∀ s, Fr PC FC σ s → s.2.1 3 = nI (lw (σ.1 31) n).length → (∀ i, i < (lw (σ.1 31) n).length → s.1 32 i = tw (σ.1 31) n i) → K (fmN (fm (σ.1 12) th (tsc (σ.1 31) n (σ.1 12)) p)) s) : CTi mX6_findMatch d [.ref 0] σ K := by
  obtain ⟨-, hm6, hp, hp20, -⟩ := id hR
  have h10 := hok.2.2
  refine eX6_findMatch (by omega) (s_readText Sen4 (by omega) hn hl hok (fun s0 h0 hf0 hw0 => s_settingOf (k := 0) (by omega) ?_))
  have e0 := h0.1 12 rfl
  rw [e0, hth]
  have sb : ∀ j, tsc (σ.1 31) n (σ.1 12) j < 2 ^ 31 := fun j => by
    have := scr_le (tw (σ.1 31) n) (lw (σ.1 31) n).length (phw (σ.1 12) j) (lnN (σ.1 12) j)
    unfold tsc
    omega
  refine cup (I := fun i s => Fr PL FLk s0 s) (G := fun i s => VV mX6_findMatch d s00 25 [some (.ref 0), some (.int (fmN (fm (σ.1 12) th (tsc (σ.1 31) n (σ.1 12)) i))), some (.int (fmS th (fm (σ.1 12) th (tsc (σ.1 31) n (σ.1 12)) i))), some (.int (nI i)), none] [] s (Qi K)) p ?_ ?_ 0 (Nat.zero_le _) s0 Fr.rf
  · intro s hs
    have e12 := (hs.1 12 rfl).trans e0
    refine bX6_findMatch_25 _ _ _ (by omega) (s_phrases ?_)
    rw [e12, hp]
    exact br_t (nI_le (Nat.le_refl _) (by omega)) (k s ((h0.one rfl rfl).tr hs.LC) (by rw [hs.2.1 3 rfl]; exact hf0) (by rw [hs.1 32 rfl]; exact hw0))
  · intro i hi ih s hs
    have e12 := (hs.1 12 rfl).trans e0
    obtain ⟨l1, l2, l3⟩ := hR.len hi
    refine bX6_findMatch_25 _ _ _ (by omega) (s_phrases ?_)
    rw [e12, hp]
    refine br_f (nI_ge hi (by omega)) (s_isLive (by omega) (by omega) (fun hlv => br_f one_ne ?_) (fun hlv => br_t rfl ?_))
    · rw [e12] at hlv
      refine s_likenessTo (u := tw (σ.1 31) n) (la := (lw (σ.1 31) n).length) (lb := lnN (σ.1 12) i) Sen4 (by decide) (by omega) hok.2.1 h10 l3 (by omega) (by rw [hs.2.1 3 rfl]; exact hf0) (by rw [hs.1 32 rfl]; exact hw0) (by rw [e12]; exact l1) (fun s2 hs2 => ?_)
      rw [e12]
      have hs3 := hs.tr hs2
      have e12' := (hs3.1 12 rfl).trans e0
      have ih := ih s2 hs3
      rw [fm_live hlv] at ih
      show ((fmS th (fm (σ.1 12) th (tsc (σ.1 31) n (σ.1 12)) i) < nI (tsc (σ.1 31) n (σ.1 12) i)) → _) ∧ _
      have upd8 : fmt (σ.1 12) th (tsc (σ.1 31) n (σ.1 12) i) i (fm (σ.1 12) th (tsc (σ.1 31) n (σ.1 12)) i) = some (i, tsc (σ.1 31) n (σ.1 12) i) → VV mX6_findMatch d s00 98 [some (.ref 0), some (.int (fmN (fm (σ.1 12) th (tsc (σ.1 31) n (σ.1 12)) i))), some (.int (fmS th (fm (σ.1 12) th (tsc (σ.1 31) n (σ.1 12)) i))), some (.int (nI i)), some (.int (nI (tsc (σ.1 31) n (σ.1 12) i)))] [] s2 (Qi K) := fun he => by
        refine bX6_findMatch_98 _ _ _ _ (bX6_findMatch_103 _ _ _ ?_)
        rw [nI_add]
        rw [he] at ih
        exact ih
      have skip : fmt (σ.1 12) th (tsc (σ.1 31) n (σ.1 12) i) i (fm (σ.1 12) th (tsc (σ.1 31) n (σ.1 12)) i) = fm (σ.1 12) th (tsc (σ.1 31) n (σ.1 12)) i → VV mX6_findMatch d s00 103 [some (.ref 0), some (.int (fmN (fm (σ.1 12) th (tsc (σ.1 31) n (σ.1 12)) i))), some (.int (fmS th (fm (σ.1 12) th (tsc (σ.1 31) n (σ.1 12)) i))), some (.int (nI i)), none] [] s2 (Qi K) := fun he => by
        refine bX6_findMatch_103 _ _ _ ?_
        rw [nI_add]
        rw [he] at ih
        exact ih
      cases e : fm (σ.1 12) th (tsc (σ.1 31) n (σ.1 12)) i with
      | none =>
        rw [e] at upd8 skip
        refine ⟨fun q => upd8 ?_, fun q => ⟨fun q2 => skip ?_, fun q2 => br_t rfl (upd8 ?_)⟩⟩
        · have := (nI_ltI (by omega) (sb i)).mp q
          exact if_pos (by omega)
        · have h1 : ¬ th < tsc (σ.1 31) n (σ.1 12) i := fun z => q ((nI_ltI (by omega) (sb i)).mpr z)
          have h2 : ¬ tsc (σ.1 31) n (σ.1 12) i = th := fun z => q2 (congrArg nI z)
          exact if_neg (by omega)
        · have := nI_inj (sb i) (by omega) q2
          exact if_pos (by omega)
      | some b =>
        rw [e] at upd8 skip
        obtain ⟨b1, b2, b3, b4⟩ := fm_inv i b e
        have sb2 : b.2 < 2 ^ 31 := by rw [b3]; exact sb _
        refine ⟨fun q => upd8 ?_, fun q => ⟨fun q2 => skip ?_, fun q2 => br_f (nI_neN (by omega)) (s_usesOf (by omega) (by omega) (s_usesOf (by omega) (by omega) ?_))⟩⟩
        · have := (nI_ltI sb2 (sb i)).mp q
          exact if_pos (Or.inl this)
        · have h1 : ¬ b.2 < tsc (σ.1 31) n (σ.1 12) i := fun z => q ((nI_ltI sb2 (sb i)).mpr z)
          have h2 : ¬ tsc (σ.1 31) n (σ.1 12) i = b.2 := fun z => q2 (congrArg nI z)
          exact if_neg (fun z => z.elim h1 (fun y => h2 y.1))
        · have h1 : ¬ b.2 < tsc (σ.1 31) n (σ.1 12) i := fun z => q ((nI_ltI sb2 (sb i)).mpr z)
          have h2 := nI_inj (sb i) sb2 q2
          rw [e12']
          refine ⟨fun q3 => skip ?_, fun q3 => upd8 ?_⟩
          · exact if_neg (fun z => z.elim h1 (fun y => (nlt_ge.mpr y.2) q3))
          · exact if_pos (Or.inr ⟨h2, nlt_ge.mp q3⟩)
    · rw [e12] at hlv
      refine bX6_findMatch_103 _ _ _ ?_
      rw [nI_add]
      have ih := ih s hs
      rw [fm_dead hlv] at ih
      exact ih
end SPF
