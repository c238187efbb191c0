/-! CHEAPEST and PIECE -/
section OPC
variable {d : Nat} {σ : SS} {K : Int32 → SS → Prop} {Kv : SS → Prop} {c bb u : Nat → Int32} {m p q n z la j : Nat} {H : Nat → Nat → Int32}
/-- the walk to a piece -/
def wlk (c : Nat → Int32) (T : Nat → Wy) : Nat → Nat → Nat
  | 0, pl => pl
  | i + 1, pl => match T (wlk c T i pl) with
    | none => wlk c T i pl
    | some w => wlk c T i pl + lnN c w.2.2
theorem wlk_ok {T : Nat → Wy} {w0 : Nat × Nat × Nat} (hT : OkT c la p T 0) (h0 : T 0 = some w0) : ∀ i, i < w0.2.1 → wlk c T i 0 < la ∧ ∃ w, T (wlk c T i 0) = some w ∧ w.2.1 + i = w0.2.1 ∧ w.2.2 < p ∧ wlk c T (i + 1) 0 = wlk c T i 0 + lnN c w.2.2 ∧ wlk c T i 0 + lnN c w.2.2 ≤ la := by
  have nxt : ∀ i w, T (wlk c T i 0) = some w → wlk c T (i + 1) 0 = wlk c T i 0 + lnN c w.2.2 := fun i w h => by
    show (match T (wlk c T i 0) with | none => wlk c T i 0 | some w => wlk c T i 0 + lnN c w.2.2) = _
    rw [h]
  have pos : ∀ pl w, pl ≤ la → T pl = some w → 1 ≤ w.2.1 → pl < la := fun pl w h1 h2 h3 => by
    have := (hT pl (Nat.zero_le _) h1 w h2).2.1
    omega
  intro i
  induction i with
  | zero =>
    intro h
    have hl := pos 0 w0 (Nat.zero_le _) h0 (by omega)
    obtain ⟨a1, a2, a3⟩ := hT 0 (Nat.zero_le _) (by omega) w0 h0
    obtain ⟨b1, b2, b3, b4, -⟩ := a3 hl
    exact ⟨hl, w0, h0, by omega, b2, nxt 0 w0 h0, b4⟩
  | succ i ih =>
    intro h
    obtain ⟨h1, w, h2, h3, h4, h5, h6⟩ := ih (by omega)
    obtain ⟨a1, a2, a3⟩ := hT _ (Nat.zero_le _) (by omega) w h2
    obtain ⟨b1, b2, b3, b4, v, b5, b6⟩ := a3 h1
    have e : T (wlk c T (i + 1) 0) = some v := by rw [h5]; exact b5
    have hl := pos (wlk c T (i + 1) 0) v (by omega) e (by omega)
    obtain ⟨a1', a2', a3'⟩ := hT _ (Nat.zero_le _) (by omega) v e
    obtain ⟨c1, c2, c3, c4, -⟩ := a3' hl
    exact ⟨hl, v, e, by omega, c2, nxt (i + 1) v e, c4⟩
end OPC
