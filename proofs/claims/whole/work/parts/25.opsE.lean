/-! RETRACT and WOULD-PAY-BACK -/
theorem mm1 (y : Int32) : (-1) * y = -y := by rw [Int32.neg_mul, Int32.one_mul]
theorem sub_mm (x y : Int32) : x - (-1) * y = x + y := by rw [mm1, Int32.sub_neg]
theorem add_mm (x y : Int32) : x + (-1) * y = x - y := by rw [mm1, Int32.sub_eq_add_neg]
theorem mvm_up {g : Nat → Int32} {b j m : Nat} {s x : Int32} (hm : m ≤ 6) (hj : j < m) (hb : 22 ≤ b) (k : Nat) : mvm (upd g (b + 5) x) b j s m k = upd (mvm g b j s m) (b + 5) x k := by
  by_cases e : k = b + 5
  · rw [e, mvm_out hm hj (Or.inl (by omega)), upd_at, upd_at]
  · rw [upd_ne _ _ e]
    exact mvm_cell (upd_ne _ _ e) (upd_ne _ _ (by omega)) (upd_ne _ _ (by omega)) (fun t _ => upd_ne _ _ (by omega))
section OPE
variable {d : Nat} {σ : SS} {K : Int32 → SS → Prop} {Kv : SS → Prop} {c bb : Nat → Int32} {m p q n z : Nat} {H : Nat → Nat → Int32}
theorem t_ends {o : Nat} (hd : 3 ≤ d) (hc : MC σ c) (hR : Row c m p q) (ho : o < p) (k : ∀ s, Fr PM FM σ s → Ft c o (s.1 41) p → K (nI (cntP (Mk c o) p)) s) : CTi mX7_ends d [.ref 11, .int (nI o)] σ K := by
  have hp := hR.2.2.1
  have hp20 := hR.2.2.2.1
  refine eX7_ends _ ?_
  refine cup (I := fun i s => Fr PM FM σ s ∧ Ar (s.1 41) (fun j => j = o) i) (G := fun i s => VV mX7_ends d s00 2 [some (.ref 11), some (.int (nI o)), some (.int (nI i)), none, none] [] s (Qi K)) 20 ?_ ?_ 0 (Nat.zero_le _) _ ⟨Fr.rf, fun j hj => absurd hj (by omega)⟩
  · intro s ⟨f, g⟩
    refine bX7_ends_2 _ _ (br_t (nI_le (Nat.le_refl _) (by omega)) ?_)
    refine cup (I := fun i s => Fr PM FM σ s ∧ Ft c o (s.1 41) i ∧ ∀ j, i ≤ j → j < 20 → (j = o → s.1 41 j = nI 1) ∧ (¬ j = o → s.1 41 j = nI 0)) (G := fun i s => VV mX7_ends d s00 34 [some (.ref 11), some (.int (nI o)), some (.int (nI (cntP (fun j => ¬ j = o ∧ Mk c o j) i + 1))), some (.int (nI i)), none] [] s (Qi K)) p ?_ ?_ 0 (Nat.zero_le _) _ ⟨f, fun j hj => absurd hj (by omega), fun j _ hj => g j hj⟩
    · intro s ⟨f, g1, g2⟩
      refine bX7_ends_34 _ _ _ (by omega) ⟨vp_in_nI (by omega) (by omega), ?_⟩
      rw [cl (by omega), (hc.fr f rfl) 1 (by omega), hp, ← cntP_add (P := fun j => ¬ j = o ∧ Mk c o j) (Q := Mk c o) (o := o) p ho (fun h => h.1 rfl) (fun x _ => ⟨fun h => by
        by_cases e : x = o
        · exact Or.inr e
        · exact Or.inl ⟨e, h⟩, fun h => h.elim (fun h => h.2) (fun h => by rw [h]; exact Mk_o)⟩)]
      exact br_t (nI_le (Nat.le_refl _) (by omega)) (k s f g1)
    · intro i hi ih s ⟨f, g1, g2⟩
      have hcs := hc.fr f rfl
      refine bX7_ends_34 _ _ _ (by omega) ⟨vp_in_nI (by omega) (by omega), ?_⟩
      rw [cl (n := 1) (by omega), hcs 1 (by omega), hp, nI_add]
      -- nothing is written at i
      have keep : (Mk c o i ↔ i = o) → (HP c o i → i = o) → VV mX7_ends d s00 34 [some (.ref 11), some (.int (nI o)), some (.int (nI (cntP (fun j => ¬ j = o ∧ Mk c o j) i + 1))), some (.int (nI (i + 1))), none] [] s (Qi K) := fun h1 h2 => by
        have r := ih s ⟨f, fun j hj => ?_, fun j k1 k2 => g2 j (by omega) k2⟩
        · rw [cntP_f (fun h => h.1 (h1.mp h.2))] at r
          exact r
        · rcases Nat.lt_or_ge j i with e | e
          · exact g1 j e
          · have e : j = i := by omega
            subst e
            have g := g2 j (Nat.le_refl _) (by omega)
            exact ⟨fun w => g.1 (h1.mp w), fun w1 w2 => absurd (h1.mpr (h2 w2)) w1, fun w1 _ => g.2 (fun e => w1 (h1.mpr e))⟩
      refine br_f (nI_ge hi (by omega)) (t_of hcs (by omega) (by omega) ?_)
      rw [show 22 + 16 * i + 3 = 25 + 16 * i by omega]
      refine ⟨fun e => keep ?_ ?_, fun hne => t_of hcs (by omega) (by omega) ?_⟩
      · have e := nI_inj (by omega) (by omega) e
        exact ⟨fun _ => e, fun _ => by rw [e]; exact Mk_o⟩
      · have e := nI_inj (by omega) (by omega) e
        exact fun _ => e
      have ne : ¬ i = o := fun e => hne (congrArg nI e)
      rw [show 22 + 16 * i + 4 = 26 + 16 * i by omega]
      refine ⟨fun hl => keep ⟨fun h => ((Mk_iff.mp h).resolve_right (fun h => hl h.1)), fun h => absurd h ne⟩ (fun h => absurd h.1 hl), fun hl => ?_⟩
      refine ⟨fun hpa => keep ⟨fun h => ((Mk_iff.mp h).resolve_right (fun ⟨_, a, ha, e, _⟩ => nI_neN (by omega) (e.symm.trans hpa))), fun h => absurd h ne⟩ (fun ⟨_, a, ha, e, _⟩ => absurd (e.symm.trans hpa) (nI_neN (by omega))), fun hpa => ?_⟩
      obtain ⟨a, ha, e⟩ := (hR.par hi).resolve_left hpa
      rw [e, cl (n := a) (by omega)]
      have un : ∀ a', a' < i → c (25 + 16 * i) = nI a' → a' = a := fun a' h1 h2 => nI_inj (by omega) (by omega) (h2.symm.trans e)
      refine ⟨vp_in_nI (by omega) (by omega), fun hm => keep ⟨fun h => ((Mk_iff.mp h).resolve_right (fun ⟨_, a', ha', e', h', _⟩ => hm ((g1 a ha).1 (by rw [← un a' ha' e']; exact h')))), fun h => absurd h ne⟩ (fun ⟨_, a', ha', e', h'⟩ => absurd ((g1 a ha).1 (by rw [← un a' ha' e']; exact h')) hm), fun hm => ?_⟩
      have hmk : Mk c o a := by
        by_cases w : Mk c o a
        · exact w
        · exfalso
          by_cases w2 : HP c o a
          · rw [(g1 a ha).2.1 w w2] at hm
            exact absurd hm (by decide)
          · rw [(g1 a ha).2.2 w w2] at hm
            exact absurd hm (by decide)
      have hHP : HP c o i := ⟨hl, a, ha, e, hmk⟩
      obtain ⟨l1, l2, l3⟩ := hR.len hi
      obtain ⟨l4, l5, l6⟩ := hR.len (show a < p by omega)
      refine t_scoreOf (by omega) hcs (by omega) (by omega) l2 l3 l6 l1 l4 (fun t ft => ⟨vp_in_nI (by omega) (by omega), ?_⟩)
      have et : t.1 41 = s.1 41 := ft.1 41 rfl
      rw [cl (n := 9) (by omega), (hcs.fr ft rfl) 9 (by omega), cl (n := i) (by omega), sA_at, upd_at, sA_at, upd_at]
      refine ⟨fun hlt => ⟨vp_in_nI (by omega) (by omega), vp_in_nI (by omega) (by omega), br_nt (by decide) ?_⟩, fun hge => ⟨vp_in_nI (by omega) (by omega), vp_in_nI (by omega) (by omega), br_nf rfl ?_⟩⟩
      · have hn : ¬ Mk c o i := fun h => by
          obtain ⟨_, a', ha', e', _, h'⟩ := (Mk_iff.mp h).resolve_left ne
          rw [un a' ha' e'] at h'
          exact h' hlt
        have r := ih (sA t 41 i (nI 2)) ⟨(f.tr ft.SM).tr (Fr.sA rfl), fun j hj => ?_, fun j k1 k2 => ?_⟩
        · rw [cntP_f (fun h => hn h.2)] at r
          rw [add0]
          exact r
        · rw [sA_at, et]
          by_cases ej : j = i
          · subst ej
            rw [upd_at]
            exact ⟨fun w => absurd w hn, fun _ _ => rfl, fun _ w => absurd hHP w⟩
          · rw [upd_ne _ _ ej]
            exact g1 j (by omega)
        · rw [sA_at, et, upd_ne _ _ (by omega)]
          exact g2 j (by omega) k2
      · have hy : Mk c o i := Mk_iff.mpr (Or.inr ⟨hl, a, ha, e, hmk, hge⟩)
        have r := ih (sA t 41 i (nI 1)) ⟨(f.tr ft.SM).tr (Fr.sA rfl), fun j hj => ?_, fun j k1 k2 => ?_⟩
        · rw [cntP_t (P := fun j => ¬ j = o ∧ Mk c o j) ⟨ne, hy⟩] at r
          rw [nI_add]
          exact r
        · rw [sA_at, et]
          by_cases ej : j = i
          · subst ej
            rw [upd_at]
            exact ⟨fun _ => rfl, fun w => absurd hy w, fun w => absurd hy w⟩
          · rw [upd_ne _ _ ej]
            exact g1 j (by omega)
        · rw [sA_at, et, upd_ne _ _ (by omega)]
          exact g2 j (by omega) k2
  · intro i hi ih s ⟨f, g⟩
    refine bX7_ends_2 _ _ (br_f (nI_ge hi (by omega)) ?_)
    rw [cl (by omega), nI_add]
    refine ⟨fun hne => ⟨vp_in_nI (by omega) (by omega), ih _ ⟨f.tr (Fr.sA rfl), fun j hj => ?_⟩⟩, fun he => ⟨vp_in_nI (by omega) (by omega), ih _ ⟨f.tr (Fr.sA rfl), fun j hj => ?_⟩⟩⟩
    · rw [sA_at]
      by_cases e : j = i
      · subst e
        rw [upd_at]
        exact ⟨fun g => absurd (congrArg nI g) hne, fun _ => rfl⟩
      · rw [upd_ne _ _ e]
        exact g j (by omega)
    · have e0 := nI_inj (by omega) (by omega) he
      rw [sA_at]
      by_cases e : j = i
      · subst e
        rw [upd_at]
        exact ⟨fun _ => rfl, fun g => absurd e0 g⟩
      · rw [upd_ne _ _ e]
        exact g j (by omega)
end OPE
