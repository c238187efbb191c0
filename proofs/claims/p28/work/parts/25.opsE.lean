/-! RETRACT and WOULD-PAY-BACK -/
theorem mm1 (y : Int32) : (-1) * y = -y := by rw [Int32.neg_mul, Int32.one_mul]
theorem sub_mm (x y : Int32) : x - (-1) * y = x + y := by rw [mm1, Int32.sub_neg]
theorem add_mm (x y : Int32) : x + (-1) * y = x - y := by rw [mm1, Int32.sub_eq_add_neg]
theorem mvm_up {g : Nat → Int32} {b j m : Nat} {s x : Int32} (hm : m ≤ 6) (hj : j < m) (hb : 22 ≤ b) (k : Nat) : mvm (upd g (b + 5) x) b j s m k = upd (mvm g b j s m) (b + 5) x k := by
  by_cases e : k = b + 5
  · rw [e, mvm_out hm hj (Or.inl (by omega)), upd_at, upd_at]
  · rw [upd_ne _ _ e]
    exact mvm_cell (upd_ne _ _ e) (upd_ne _ _ (by omega)) (upd_ne _ _ (by omega)) (fun t _ => upd_ne _ _ (by omega))
section OPE
variable {d : Nat} {σ : SS} {K : Int32 → SS → Prop} {Kv : SS → Prop} {c bb : Nat → Int32} {m p q n z : Nat} {H : Nat → Nat → Int32}
end OPE
