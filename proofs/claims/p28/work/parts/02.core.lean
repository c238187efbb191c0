/-! THE FIXED WORLD: 36 cells, references are places; a judgement VV0 of a frame in it, a rule an instruction -/
def mo (M : MD) : Nat := M.1
def my (M : MD) : MethodName := M.2.1
def mc (M : MD) : ByteArray := M.2.2.1
def ml (M : MD) : Nat := M.2.2.2.1
def mr (M : MD) : Option FieldType := M.2.2.2.2
def RN : Nat → String
  | 0 => RX0
  | 1 => RX1
  | 2 => RX2
  | 3 => RX3
  | 4 => RX4
  | 5 => RX5
  | 6 => RX6
  | 7 => RX7
  | _ => RL
def g_tbl : List Cond := lw_tbl.filter goodWord
def nestW : Cond → Bool
  | .fieldLinkNest .. => true
  | .methodLinkNest .. => true
  | _ => false
def n_tbl : List Cond := tables_1.filter nestW
theorem g_of {w : Cond} (h : w ∈ lw_tbl) (hg : goodWord w = true) : w ∈ g_tbl := List.mem_filter.mpr ⟨h, hg⟩
theorem g_mem {w : Cond} (i : Nat) (h : lw_tbl[i]? = some w) (hg : goodWord w = true) : w ∈ g_tbl := g_of (List.mem_of_getElem? h) hg
theorem n_mem {w : Cond} (i : Nat) (h : lw_tbl[i + 75]? = some w) (h2 : tables_1[i]? = some w) (hg : nestW w = true) : w ∈ n_tbl := List.mem_filter.mpr ⟨List.mem_of_getElem? h2, hg⟩
theorem g_good {w : Cond} (h : w ∈ g_tbl) : (w.onTables && w.keeps) = true ∨ ∃ ty, w = .arrayClass ty := good_of_word (List.mem_filter.mp h).2
theorem g_hts {args : Array Value} {s : State} (h : ∀ w ∈ lw_tbl, w.before args s = true) : ∀ w ∈ g_tbl, w.before args s = true := fun w hw => h w (List.mem_filter.mp hw).1
theorem n_form {w : Cond} (h : w ∈ n_tbl) : (∃ a i b n d t, w = .fieldLinkNest a i b n d t) ∨ ∃ a i x t, w = .methodLinkNest a i x t := by
  have h2 := (List.mem_filter.mp h).2
  cases w with
  | fieldLinkNest a i b n d t => exact Or.inl ⟨a, i, b, n, d, t, rfl⟩
  | methodLinkNest a i x t => exact Or.inr ⟨a, i, x, t, rfl⟩
  | _ => cases h2
theorem n_hts {args : Array Value} {s : State} (h : ∀ w ∈ lw_tbl, w.before args s = true) : ∀ w ∈ n_tbl, va_Nw w s := by
  intro w hw
  have h1 := h w (List.mem_append_right _ (List.mem_filter.mp hw).1)
  rcases n_form hw with ⟨a, i, b, n, d, t, rfl⟩ | ⟨a, i, x, t, rfl⟩
  · exact va_Nw.of rfl h1
  · exact va_Nw.of rfl h1
theorem n_warm {s U : State} (hW : s.WarmedH U.vm) (h : ∀ w ∈ n_tbl, va_Nw w s) : ∀ w ∈ n_tbl, va_Nw w U := by
  intro w hw
  have h1 := h w hw
  rcases n_form hw with ⟨a, i, b, n, d, t, rfl⟩ | ⟨a, i, x, t, rfl⟩
  · exact va_Nw.warmF hW h1
  · exact va_Nw.warmM hW h1
theorem n_same {u U : State} (hv : u.vm = U.vm) (h : ∀ w ∈ n_tbl, va_Nw w u) : ∀ w ∈ n_tbl, va_Nw w U := by
  intro w hw
  have h1 := h w hw
  rcases n_form hw with ⟨a, i, b, n, d, t, rfl⟩ | ⟨a, i, x, t, rfl⟩
  · exact va_Nw.same rfl hv h1
  · exact va_Nw.same rfl hv h1
/-- the state: arrays by place, int fields, the reference's long -/
abbrev SS : Type := (Nat → Nat → Int32) × (Nat → Int32) × Int64
def sA (σ : SS) (p i : Nat) (x : Int32) : SS := (fun q => if q = p then upd (σ.1 p) i x else σ.1 q, σ.2)
def sR (σ : SS) (p : Nat) (f : Nat → Int32) : SS := (fun q => if q = p then f else σ.1 q, σ.2)
def sF (σ : SS) (k : Nat) (x : Int32) : SS := (σ.1, upd σ.2.1 k x, σ.2.2)
def sH (σ : SS) (x : Int64) : SS := (σ.1, σ.2.1, x)
def rv (ad : Nat → Nat) : Value → Value
  | .ref k => .ref (ad k)
  | v => v
theorem rv_cat (ad : Nat → Nat) (v : Value) : (rv ad v).category = v.category := by cases v <;> rfl
theorem rv_cats (ad : Nat → Nat) (st : List Value) : ((st.map (rv ad)).map fun v => v.category) = st.map fun v => v.category := by
  rw [List.map_map]
  exact List.map_congr_left (fun v _ => rv_cat ad v)
/-- the objects: class and fields -/
def obj (p : Nat) (σ : SS) : Option (Nat × List Value) := match p with
  | 0 => some (6, [.ref 1, .ref 2, .ref 3, .ref 4, .ref 5])
  | 1 => some (2, [.ref 12, .ref 13, .ref 6, .ref 7, .ref 8])
  | 2 => some (0, [.ref 9, .int (σ.2.1 0), .int (σ.2.1 1)])
  | 3 => some (3, [.ref 31, .int (σ.2.1 2)])
  | 4 => some (1, [.ref 32, .int (σ.2.1 3)])
  | 5 => some (4, [.ref 33, .ref 34, .ref 35, .ref 36, .int (σ.2.1 4)])
  | 6 => some (1, [.ref 14, .int (σ.2.1 5)])
  | 7 => some (1, [.ref 15, .int (σ.2.1 6)])
  | 8 => some (5, [.ref 10])
  | 9 => none
  | 10 => none
  | 11 => none
  | _ => none
/-- the lengths of the arrays -/
def al (p : Nat) : Nat := if 16 ≤ p ∧ p < 27 then 11 else if 27 ≤ p ∧ p < 31 then 654 else match p with
  | 12 => 654
  | 13 => 20
  | 14 => 10
  | 15 => 10
  | 31 => 40
  | 32 => 10
  | 33 => 11
  | 34 => 11
  | 35 => 11
  | 36 => 11
  | 37 => 3270
  | 38 => 10
  | 39 => 10
  | 40 => 121
  | 41 => 20
  | 42 => 11
  | 43 => 11
  | 44 => 11
  | 45 => 40
  | _ => 0
/-- which int field lies where -/
def fk (p fi : Nat) : Option Nat := match p, fi with
  | 2, 1 => some 0
  | 2, 2 => some 1
  | 3, 1 => some 2
  | 4, 1 => some 3
  | 5, 4 => some 4
  | 6, 1 => some 5
  | 7, 1 => some 6
  | _, _ => none
theorem obj_ge {p : Nat} (σ : SS) (h : 12 ≤ p) : obj p σ = none := by
  obtain ⟨k, rfl⟩ : ∃ k, p = k + 12 := ⟨p - 12, by omega⟩
  rfl
theorem obj_lt {p : Nat} {σ : SS} {o : Nat × List Value} (h : obj p σ = some o) : p < 12 := by
  rcases Nat.lt_or_ge p 12 with q | q
  · exact q
  · rw [obj_ge σ q] at h
    cases h
theorem obj_arr (σ : SS) (a : Nat → Nat → Int32) (p : Nat) : obj p (a, σ.2) = obj p σ := rfl
theorem obj_sF {p fi k : Nat} (σ : SS) (x : Int32) (h : fk p fi = some k) {ci : Nat} {vs : List Value} (ho : obj p σ = some (ci, vs)) : obj p (sF σ k x) = some (ci, vs.set fi (.int x)) ∧ (∀ q, q ≠ p → obj q (sF σ k x) = obj q σ) ∧ fi < vs.length := by
  unfold fk at h
  split at h <;> cases h
  all_goals (cases ho; refine ⟨rfl, fun q hq => ?_, Nat.le_of_ble_eq_true rfl⟩)
  all_goals (rcases Nat.lt_or_ge q 12 with h12 | h12)
  all_goals first | (rw [obj_ge _ h12, obj_ge _ h12]; done) | skip
  all_goals (rcases (show q = 0 ∨ q = 1 ∨ q = 2 ∨ q = 3 ∨ q = 4 ∨ q = 5 ∨ q = 6 ∨ q = 7 ∨ q = 8 ∨ q = 9 ∨ q = 10 ∨ q = 11 by omega) with rfl | rfl | rfl | rfl | rfl | rfl | rfl | rfl | rfl | rfl | rfl | rfl)
  all_goals first | rfl | exact absurd rfl hq
/-- a cell of the world -/
def cel (ad : Nat → Nat) (cI cZ cII : ClassId) (σ : SS) (p : Nat) : va_E :=
  if p = 9 then .inl (cII, 4, .inr (.inr (.inr (.inr (fun i => if i < 4 then some (ad (27 + i)) else none)))))
  else if p = 10 then .inl (cII, 11, .inr (.inr (.inr (.inr (fun i => if i < 11 then some (ad (16 + i)) else none)))))
  else match obj p σ with
    | some o => .inr (o.1, o.2.map (rv ad))
    | none => .inl (if p = 13 then cZ else cI, al p, .inl (σ.1 p))
/-- the list's places, the world's places -/
def px (i : Nat) : Nat := if i < 11 then i else i + 1
def ix (p : Nat) : Nat := if p < 11 then p else p - 1
theorem px_ix {p : Nat} (h : p ≠ 11) : px (ix p) = p := by
  unfold px ix
  by_cases q : p < 11
  · rw [if_pos q, if_pos q]
  · rw [if_neg q, if_neg (by omega)]
    omega
theorem ix_lt {p : Nat} (h : p < 37) (h2 : p ≠ 11) : ix p < 36 := by
  unfold ix
  split <;> omega
theorem px_ok {i : Nat} (h : i < 36) : px i < 37 ∧ px i ≠ 11 := by
  unfold px
  split <;> omega
theorem px_ne {i p : Nat} (hp : p ≠ 11) (h : i ≠ ix p) : px i ≠ p := by
  unfold ix at h
  unfold px
  split at h <;> split <;> omega
def wld (ad : Nat → Nat) (cI cZ cII : ClassId) (σ : SS) : va_W := (List.range 36).map (fun i => (ad (px i), cel ad cI cZ cII σ (px i)))
def isI (p : Nat) : Prop := 12 ≤ p ∧ p < 37 ∧ p ≠ 13
section WLD
variable {ad : Nat → Nat} {cI cZ cII : ClassId} {σ σ' : SS} {p : Nat}
theorem wld_at (hp : p < 37) (h11 : p ≠ 11) : (wld ad cI cZ cII σ)[ix p]? = some (ad p, cel ad cI cZ cII σ p) := by
  unfold wld
  rw [List.getElem?_map, List.getElem?_range (ix_lt hp h11)]
  show some (ad (px (ix p)), cel ad cI cZ cII σ (px (ix p))) = _
  rw [px_ix h11]
theorem wld_len : (wld ad cI cZ cII σ).length = 36 := by simp [wld]
theorem wld_pl {i : Nat} (h : i < 36) : (wld ad cI cZ cII σ)[i]? = some (ad (px i), cel ad cI cZ cII σ (px i)) := by
  unfold wld
  rw [List.getElem?_map, List.getElem?_range h]
  rfl
theorem cel_obj {o : Nat × List Value} (h : obj p σ = some o) : cel ad cI cZ cII σ p = .inr (o.1, o.2.map (rv ad)) := by
  unfold cel
  rw [if_neg (by rintro rfl; cases h), if_neg (by rintro rfl; cases h), h]
theorem wld_obj {o : Nat × List Value} (h : obj p σ = some o) : (wld ad cI cZ cII σ)[ix p]? = some (ad p, .inr (o.1, o.2.map (rv ad))) := by
  rw [wld_at (by have := obj_lt h; omega) (by rintro rfl; cases h), cel_obj h]
theorem cel_arr (h : 12 ≤ p) : cel ad cI cZ cII σ p = .inl (if p = 13 then cZ else cI, al p, .inl (σ.1 p)) := by
  unfold cel
  rw [if_neg (by omega), if_neg (by omega), obj_ge σ h]
theorem wld_arr (h : isI p) : (wld ad cI cZ cII σ)[ix p]? = some (ad p, .inl (cI, al p, .inl (σ.1 p))) := by
  rw [wld_at h.2.1 (by have := h.1; omega), cel_arr h.1, if_neg h.2.2]
theorem wld_13 : (wld ad cI cZ cII σ)[ix 13]? = some (ad 13, .inl (cZ, 20, .inl (σ.1 13))) := by
  rw [wld_at (by decide) (by decide), cel_arr (by decide), if_pos rfl]
  rfl
theorem wld_9 : (wld ad cI cZ cII σ)[ix 9]? = some (ad 9, .inl (cII, 4, .inr (.inr (.inr (.inr (fun i => if i < 4 then some (ad (27 + i)) else none)))))) := by
  rw [wld_at (by decide) (by decide)]
  rfl
theorem wld_10 : (wld ad cI cZ cII σ)[ix 10]? = some (ad 10, .inl (cII, 11, .inr (.inr (.inr (.inr (fun i => if i < 11 then some (ad (16 + i)) else none)))))) := by
  rw [wld_at (by decide) (by decide)]
  rfl
theorem wld_set {e : va_E} (hp : p < 37) (h11 : p ≠ 11) (h1 : cel ad cI cZ cII σ' p = e) (h2 : ∀ q, q ≠ p → cel ad cI cZ cII σ' q = cel ad cI cZ cII σ q) : (wld ad cI cZ cII σ).set (ix p) (ad p, e) = wld ad cI cZ cII σ' := by
  apply List.ext_getElem?
  intro i
  by_cases hi : i = ix p
  · subst hi
    rw [List.getElem?_set_self (by rw [wld_len]; exact ix_lt hp h11), wld_at hp h11, h1]
  · rw [List.getElem?_set_ne (fun q => hi q.symm)]
    by_cases h : i < 36
    · rw [wld_pl h, wld_pl h, h2 _ (px_ne h11 hi)]
    · rw [List.getElem?_eq_none (by rw [wld_len]; omega), List.getElem?_eq_none (by rw [wld_len]; omega)]
theorem cel_sub {a : Nat → Nat → Int32} {q : Nat} (h : a q = σ.1 q) : cel ad cI cZ cII (a, σ.2) q = cel ad cI cZ cII σ q := by
  unfold cel
  rw [obj_arr]
  cases obj q σ with
  | some o => rfl
  | none => simp only [h]
theorem wld_sR (f : Nat → Int32) (h : isI p) : (wld ad cI cZ cII σ).set (ix p) (ad p, .inl (cI, al p, .inl f)) = wld ad cI cZ cII (sR σ p f) := by
  refine wld_set h.2.1 (by have := h.1; omega) ?_ (fun q hq => cel_sub (if_neg hq))
  rw [cel_arr h.1, if_neg h.2.2]
  unfold sR
  simp
theorem wld_sA (i : Nat) (x : Int32) (h : isI p) : (wld ad cI cZ cII σ).set (ix p) (ad p, .inl (cI, al p, .inl (upd (σ.1 p) i x))) = wld ad cI cZ cII (sA σ p i x) := wld_sR (upd (σ.1 p) i x) h
theorem wld_s13 (i : Nat) (x : Int32) : (wld ad cI cZ cII σ).set (ix 13) (ad 13, .inl (cZ, 20, .inl (upd (σ.1 13) i x))) = wld ad cI cZ cII (sA σ 13 i x) := by
  refine wld_set (by decide) (by decide) ?_ (fun q hq => cel_sub (if_neg hq))
  rw [cel_arr (by decide), if_pos rfl]
  unfold sA
  simp
  rfl
theorem wld_sF {fi k ci : Nat} {vs : List Value} (x : Int32) (h : fk p fi = some k) (ho : obj p σ = some (ci, vs)) : (wld ad cI cZ cII σ).set (ix p) (ad p, .inr (ci, (vs.map (rv ad)).set fi (.int x))) = wld ad cI cZ cII (sF σ k x) := by
  obtain ⟨h1, h2, -⟩ := obj_sF σ x h ho
  refine wld_set (by have := obj_lt ho; omega) (by rintro rfl; cases ho) ?_ (fun q hq => ?_)
  · rw [cel_obj h1, List.map_set]
    rfl
  · unfold cel
    rw [h2 q hq]
    rfl
end WLD
/-! locals -/
def ldv : Nat → List (Option Value) → Option Value
  | _, [] => none
  | 0, a :: _ => a
  | n + 1, _ :: r => ldv n r
def unL : Option Value → Option Value
  | some v => if v.category = 2 then none else some v
  | none => none
def sto : Nat → Value → List (Option Value) → List (Option Value)
  | _, _, [] => []
  | 0, v, _ :: r => some v :: r
  | 1, v, a :: r => unL a :: sto 0 v r
  | n + 2, v, a :: r => a :: sto (n + 1) v r
def clr : Nat → List (Option Value) → List (Option Value)
  | _, [] => []
  | 0, _ :: r => none :: r
  | n + 1, a :: r => a :: clr n r
theorem sto_len : ∀ (i : Nat) (v : Value) (L : List (Option Value)), (sto i v L).length = L.length
  | 0, _, [] => rfl
  | 0, _, _ :: _ => rfl
  | 1, _, [] => rfl
  | 1, v, a :: r => by
    show (sto 0 v r).length + 1 = r.length + 1
    rw [sto_len 0 v r]
  | n + 2, _, [] => rfl
  | n + 2, v, a :: r => by
    show (sto (n + 1) v r).length + 1 = r.length + 1
    rw [sto_len (n + 1) v r]
theorem clr_len : ∀ (i : Nat) (L : List (Option Value)), (clr i L).length = L.length
  | 0, [] => rfl
  | 0, _ :: _ => rfl
  | n + 1, [] => rfl
  | n + 1, a :: r => by
    show (clr n r).length + 1 = r.length + 1
    rw [clr_len n r]
theorem clr_get : ∀ (i : Nat) (L : List (Option Value)) (j : Nat) (w : Value), ldv j (clr i L) = some w → ldv j L = some w ∧ j ≠ i
  | 0, [], j, w, h => by cases j <;> cases h
  | 0, a :: r, 0, w, h => by cases h
  | 0, a :: r, j + 1, w, h => ⟨h, by omega⟩
  | n + 1, [], j, w, h => by cases j <;> cases h
  | n + 1, a :: r, 0, w, h => ⟨h, by omega⟩
  | n + 1, a :: r, j + 1, w, h => by
    obtain ⟨h1, h2⟩ := clr_get n r j w h
    exact ⟨h1, by omega⟩
theorem unL_some {a : Option Value} {w : Value} (h : unL a = some w) : a = some w ∧ w.category ≠ 2 := by
  cases a with
  | none => cases h
  | some v =>
    unfold unL at h
    by_cases hc : v.category = 2
    · simp only [hc, if_true] at h
      cases h
    · simp only [hc, if_false] at h
      cases h
      exact ⟨rfl, hc⟩
theorem sto_get : ∀ (i : Nat) (v : Value) (L : List (Option Value)) (j : Nat) (w : Value), ldv j (sto i v L) = some w → (j = i ∧ w = v) ∨ (j ≠ i ∧ ldv j L = some w ∧ ¬ (j + 1 = i ∧ w.category = 2))
  | 0, v, [], j, w, h => by cases j <;> cases h
  | 0, v, a :: r, 0, w, h => Or.inl ⟨rfl, (Option.some.inj h).symm⟩
  | 0, v, a :: r, j + 1, w, h => Or.inr ⟨by omega, h, fun q => by omega⟩
  | 1, v, [], j, w, h => by cases j <;> cases h
  | 1, v, a :: r, 0, w, h => by
    obtain ⟨h1, h2⟩ := unL_some (show unL a = some w from h)
    exact Or.inr ⟨by omega, h1, fun q => h2 q.2⟩
  | 1, v, a :: r, j + 1, w, h => by
    rcases sto_get 0 v r j w h with ⟨h1, h2⟩ | ⟨h1, h2, h3⟩
    · exact Or.inl ⟨by omega, h2⟩
    · exact Or.inr ⟨by omega, h2, fun q => by omega⟩
  | n + 2, v, [], j, w, h => by cases j <;> cases h
  | n + 2, v, a :: r, 0, w, h => Or.inr ⟨by omega, h, fun q => by omega⟩
  | n + 2, v, a :: r, j + 1, w, h => by
    rcases sto_get (n + 1) v r j w h with ⟨h1, h2⟩ | ⟨h1, h2, h3⟩
    · exact Or.inl ⟨by omega, h2⟩
    · exact Or.inr ⟨by omega, h2, fun q => h3 ⟨by omega, q.2⟩⟩
theorem ldv_lt : ∀ (j : Nat) (L : List (Option Value)) (w : Value), ldv j L = some w → j < L.length
  | 0, [], w, h => by cases h
  | j + 1, [], w, h => by cases h
  | 0, a :: r, w, h => by simp
  | j + 1, a :: r, w, h => by
    have := ldv_lt j r w h
    simp
    omega
def LH (ad : Nat → Nat) (ls : Array Slot) (n : Nat) (L : List (Option Value)) : Prop := L.length = n ∧ ls.size = n ∧ lv_wf ls ∧ ∀ (i : Nat) (v : Value), ldv i L = some v → ls[i]? = some (.val (rv ad v))
def lvl (ad : Nat → Nat) (L : List (Option Value)) : List (Nat × Value) := (List.range L.length).filterMap (fun j => (ldv j L).map (fun v => (j, rv ad v)))
theorem lvl_mem {ad : Nat → Nat} {L : List (Option Value)} {j : Nat} {v : Value} (h : ldv j L = some v) : (j, rv ad v) ∈ lvl ad L := by
  refine List.mem_filterMap.mpr ⟨j, List.mem_range.mpr (ldv_lt j L v h), ?_⟩
  rw [h]
  rfl
theorem lvl_get {ad : Nat → Nat} {L : List (Option Value)} {q : Nat × Value} (h : q ∈ lvl ad L) : ∃ v, ldv q.1 L = some v ∧ q.2 = rv ad v := by
  obtain ⟨j, -, hj⟩ := List.mem_filterMap.mp h
  cases hl : ldv j L with
  | none => rw [hl] at hj; cases hj
  | some v =>
    rw [hl] at hj
    cases hj
    exact ⟨v, hl, rfl⟩
theorem LH.has {ad : Nat → Nat} {ls : Array Slot} {n : Nat} {L : List (Option Value)} (h : LH ad ls n L) : lv_has ls n (lvl ad L) := by
  refine ⟨h.2.1, h.2.2.1, fun q hq => ?_⟩
  obtain ⟨v, h1, h2⟩ := lvl_get hq
  rw [h2]
  exact h.2.2.2 _ _ h1
theorem LH.place {ad : Nat → Nat} {ls : Array Slot} {n : Nat} {L : List (Option Value)} (h : LH ad ls n L) {i : Nat} {v : Value} (hv : ldv i L = some v) : ∃ k : Nat, (lvl ad L)[k]? = some (i, rv ad v) := List.getElem?_of_mem (lvl_mem hv)
theorem LH_sto {ad : Nat → Nat} {ls : Array Slot} {n i : Nat} {L : List (Option Value)} {v : Value} (hn : L.length = n) (h : lv_has ls n ((i, rv ad v) :: (lvl ad L).filter (fun q => !(q.1 == i) && !(q.1 + 1 == i && q.2.category == 2)))) : LH ad ls n (sto i v L) := by
  refine ⟨(sto_len i v L).trans hn, h.1, h.2.1, fun j w hw => ?_⟩
  rcases sto_get i v L j w hw with ⟨rfl, rfl⟩ | ⟨h1, h2, h3⟩
  · exact h.2.2 _ List.mem_cons_self
  · refine h.2.2 (j, rv ad w) (List.mem_cons_of_mem _ (List.mem_filter.mpr ⟨lvl_mem h2, ?_⟩))
    have e1 : (j == i) = false := by simp [h1]
    have e2 : (j + 1 == i && (rv ad w).category == 2) = false := by
      rw [rv_cat]
      by_cases a : j + 1 = i
      · by_cases b : w.category = 2
        · exact absurd ⟨a, b⟩ h3
        · simp [b]
      · simp [a]
    simp only [e1, e2]
    rfl
theorem LH_stl {ad : Nat → Nat} {ls : Array Slot} {n i : Nat} {L : List (Option Value)} {v : Value} (hn : L.length = n) (h : lv_has ls n ((i, rv ad v) :: (lvl ad L).filter (fun q => !(q.1 == i) && (!(q.1 == i + 1) && !(q.1 + 1 == i && q.2.category == 2))))) : LH ad ls n (sto i v (clr (i + 1) L)) := by
  refine ⟨(sto_len i v _).trans ((clr_len _ _).trans hn), h.1, h.2.1, fun j w hw => ?_⟩
  rcases sto_get i v _ j w hw with ⟨rfl, rfl⟩ | ⟨h1, h2, h3⟩
  · exact h.2.2 _ List.mem_cons_self
  · obtain ⟨h4, h5⟩ := clr_get _ _ _ _ h2
    refine h.2.2 (j, rv ad w) (List.mem_cons_of_mem _ (List.mem_filter.mpr ⟨lvl_mem h4, ?_⟩))
    have e1 : (j == i) = false := by simp [h1]
    have e3 : (j == i + 1) = false := by simp [h5]
    have e2 : (j + 1 == i && (rv ad w).category == 2) = false := by
      rw [rv_cat]
      by_cases a : j + 1 = i
      · by_cases b : w.category = 2
        · exact absurd ⟨a, b⟩ h3
        · simp [b]
      · simp [a]
    simp only [e1, e2, e3]
    rfl
/-! what the statics hold; the links' facts -/
def lst (g i : Nat) : Int32 := if g = 100 then (match i with
  | 0 => 1
  | 4 => 1
  | _ => 0) else (match i with
  | 0 => 100
  | 1 => 50
  | 2 => 80
  | 3 => 100
  | _ => 100)
def snm (g : Nat) : String := if g = 100 then "LEAST_VALUES" else "MOST_VALUES"
def Sta (ad : Nat → Nat) (A : Nat → Prop) (U : State) (H : Heap) : Prop := ∀ g, g = 100 ∨ g = 101 → va_Z "PhrasePool" (snm g) "[I" (.ref (ad g)) A U H ∧ va_T .int (ad g) 5 (fun i => .int (lst g i)) A U H
/-- a field's link: own class, index; the object's class, the field's place -/
def FL (o idx ci fi : Nat) : Prop := ∃ (C : String) (T : u_T) (N : Nat), vwCl[ci]? = some (C, T, N) ∧ fi < N ∧ (∀ w ∈ u_ws C T N, w ∈ g_tbl) ∧ (Cond.fieldLink (RN o) idx (T fi).1 (T fi).2.1 (T fi).2.2.1 ∈ g_tbl ∨ ∃ host, Cond.fieldLinkNest (RN o) idx (T fi).1 (T fi).2.1 (T fi).2.2.1 host ∈ n_tbl)
/-- a field that is written: not final, of this descriptor -/
def FP (o idx ci fi : Nat) (ds : String) : Prop := ∃ (C : String) (T : u_T) (N : Nat) (ty0 : Nat → FieldType), vwCl[ci]? = some (C, T, N) ∧ fi < N ∧ (∀ w ∈ u_ws C T N, w ∈ g_tbl) ∧ (∀ k, k < N → parseFieldDescriptor (T k).2.2.1 = some (ty0 k)) ∧ (∀ a, a < N → ∀ b, b < N → a ≠ b → (T a).2.1 ≠ (T b).2.1) ∧ (T fi).2.2.2 = false ∧ (T fi).2.2.1 = ds ∧ Cond.fieldLink (RN o) idx (T fi).1 (T fi).2.1 (T fi).2.2.1 ∈ g_tbl
/-- what every callee wants -/
def LK0 (M' : MD) (n : Nat) : Prop := Cond.code (my M') (mc M') (ml M') (mr M') ∈ g_tbl ∧ Cond.initialized (my M').cls ∈ g_tbl ∧ ((my M').cls ≠ "java/lang/invoke/MethodHandle" ∧ (my M').cls ≠ "java/lang/invoke/VarHandle" ∧ (parseMethodDescriptor (my M').desc).map (fun d => d.parameters.length) = some n) ∧ ml M' ≤ 16
def LKI (M' : MD) (n ci : Nat) : Prop := LK0 M' n ∧ Cond.instanceMethod (my M') ∈ g_tbl ∧ Cond.selects (my M').cls (my M') (my M') ∈ g_tbl ∧ (vwCl[ci]?).map (fun q => q.1) = some (my M').cls
def LKV (o idx : Nat) (M' : MD) (n ci : Nat) : Prop := LKI M' n ci ∧ Cond.methodLink (RN o) idx (my M') ∈ g_tbl
def LKN (o idx : Nat) (M' : MD) (n ci : Nat) : Prop := LKI M' n ci ∧ ∃ host, Cond.methodLinkNest (RN o) idx (my M') host ∈ n_tbl
def LKS (o idx : Nat) (M' : MD) (n : Nat) : Prop := LK0 M' n ∧ Cond.methodLink (RN o) idx (my M') ∈ g_tbl ∧ Cond.static (my M') ∈ g_tbl
/-! the judgement -/
def hasS (M : MD) : Bool := mo M == 9
def AA (ad : Nat → Nat) (sz : Nat) : Nat → Prop := fun q => (∃ k, (k < 37 ∧ k ≠ 11) ∧ q = ad k) ∨ sz ≤ q
def rmd (d : Nat) : Room := { frames := d, cells := 0, slots := 0, locals := 35 * d }
abbrev Scr : Type := Nat × (Nat → Int32)
def VCtx (M : MD) (d : Nat) (sc : Scr) (p : Program) (R : Room) (s : State) (m : MethodId) (args : Array Value) (meth : Method) (c : Code) (D : va_G) (ad : Nat → Nat) (cI cZ cII : ClassId) (A : Nat → Prop) (cells slots : Nat) : Prop :=
  p.tables.exec = Jvm.exec ∧ c.code = mc M ∧ c.maxLocals = ml M ∧ meth.sig.returnType = mr M ∧ meth.locks = false ∧ (∀ w ∈ g_tbl, w.before args s = true) ∧ s.vm.findClass (RN (mo M)) = some m.cls ∧ (∀ w ∈ n_tbl, va_Nw w s) ∧ va_K D vwCl [(cI, .int), (cZ, .boolean), (cII, .array .int)] s ∧ Sta ad A s s.heap ∧ (∀ q, s.heap.size ≤ q → A q) ∧ (d ≤ R.frames ∧ 35 * d ≤ R.locals ∧ cells ≤ R.cells ∧ slots ≤ R.slots) ∧ (hasS M = true → va_X (ad 102) sc.1 sc.2 s s.heap ∧ ad 102 < s.heap.size ∧ ¬ A (ad 102))
def Wd (D : va_G) (ad : Nat → Nat) (cI cZ cII : ClassId) (A : Nat → Prop) (s : State) (σ : SS) (H : Heap) (locs : List Loc) : Prop := va_P D vwCl (wld ad cI cZ cII σ) H ∧ va_D A (wld ad cI cZ cII σ) ∧ va_S A s.heap H locs
def isRet (M : MD) (r : Option Value) (pc : Nat) : Prop := match r with
  | none => decode (mc M) pc = .ok (.return_, 1) ∧ mr M = none
  | some (.int v) => decode (mc M) pc = .ok (.ireturn, 1) ∧ ∃ ty, mr M = some ty ∧ narrow ty (.int v) = .int v
  | some (.long _) => decode (mc M) pc = .ok (.lreturn, 1) ∧ mr M = some .long
  | _ => False
def VV0 (M : MD) (d : Nat) (sc : Scr) (pc : Nat) (L : List (Option Value)) (st : List Value) (σ : SS) (Q : Option Value → SS → Prop) : Prop :=
  ∀ (p : Program) (l : Launch) (e : Env) (R : Room) (s : State) (m : MethodId) (args : Array Value) (below : List Frame) (meth : Method) (c : Code) (D : va_G) (ad : Nat → Nat) (cI cZ cII : ClassId) (A : Nat → Prop) (cells slots : Nat) (Z : State → Prop), VCtx M d sc p R s m args meth c D ad cI cZ cII A cells slots →
    (∀ (r : Option Value) (σ' : SS) (H : Heap) (locs : List Loc) (ls : Array Slot) (pc' : Nat), isRet M r pc' → Q r σ' → Wd D ad cI cZ cII A s σ' H locs → W p l e R s m args below meth c H locs cells slots Z (F0 m pc' ls ((r.toList).map (rv ad)))) →
    ∀ (H : Heap) (locs : List Loc) (ls : Array Slot), Wd D ad cI cZ cII A s σ H locs → LH ad ls (ml M) L → W p l e R s m args below meth c H locs cells slots Z (F0 m pc ls (st.map (rv ad)))

section RULES
variable {M : MD} {d pc q : Nat} {sc : Scr} {L : List (Option Value)} {st : List Value} {σ : SS} {Q : Option Value → SS → Prop}
theorem v_iconst {n : Int} {v : Int32} (hd : decode (mc M) pc = .ok (.iconst n, 1)) (hq : pc + 1 = q) (hv : Int32.ofInt n = v) (k : VV0 M d sc q L (.int v :: st) σ Q) : VV0 M d sc pc L (st) σ Q := by
  subst hq
  intro p l e R s m args below meth c D ad cI cZ cII A cells slots Z C hZ H locs ls hW hL
  exact lv_iconst C.1 C.2.1 hd hv (k p l e R s m args below meth c D ad cI cZ cII A cells slots Z C hZ H locs ls hW hL)
theorem v_bipush {n : Int} {v : Int32} (hd : decode (mc M) pc = .ok (.bipush n, 2)) (hq : pc + 2 = q) (hv : (Int8.ofInt n).toInt32 = v) (k : VV0 M d sc q L (.int v :: st) σ Q) : VV0 M d sc pc L (st) σ Q := by
  subst hq
  intro p l e R s m args below meth c D ad cI cZ cII A cells slots Z C hZ H locs ls hW hL
  exact lv_bipush C.1 C.2.1 hd hv (k p l e R s m args below meth c D ad cI cZ cII A cells slots Z C hZ H locs ls hW hL)
theorem v_sipush {n : Int} {v : Int32} (hd : decode (mc M) pc = .ok (.sipush n, 3)) (hq : pc + 3 = q) (hv : (Int16.ofInt n).toInt32 = v) (k : VV0 M d sc q L (.int v :: st) σ Q) : VV0 M d sc pc L (st) σ Q := by
  subst hq
  intro p l e R s m args below meth c D ad cI cZ cII A cells slots Z C hZ H locs ls hW hL
  exact lv_sipush C.1 C.2.1 hd hv (k p l e R s m args below meth c D ad cI cZ cII A cells slots Z C hZ H locs ls hW hL)
theorem v_ldc {idx : Nat} {v : Int32} (hd : decode (mc M) pc = .ok (.ldc idx, 2)) (hq : pc + 2 = q) (hc : Cond.constant (RN (mo M)) idx v ∈ g_tbl) (k : VV0 M d sc q L (.int v :: st) σ Q) : VV0 M d sc pc L (st) σ Q := by
  subst hq
  intro p l e R s m args below meth c D ad cI cZ cII A cells slots Z C hZ H locs ls hW hL
  obtain ⟨hx, hb, hml, hr, hlk, hts, hown, hnw, hK, hSt, hA, hR, hlaw⟩ := id C
  exact lv_ldc hx hb hown (hts _ hc) hd (k p l e R s m args below meth c D ad cI cZ cII A cells slots Z C hZ H locs ls hW hL)
theorem v_ldc2 {idx : Nat} {v : Int64} (hd : decode (mc M) pc = .ok (.ldc2_w idx, 3)) (hq : pc + 3 = q) (hc : Cond.constantLong (RN (mo M)) idx v ∈ g_tbl) (k : VV0 M d sc q L (.long v :: st) σ Q) : VV0 M d sc pc L (st) σ Q := by
  subst hq
  intro p l e R s m args below meth c D ad cI cZ cII A cells slots Z C hZ H locs ls hW hL
  obtain ⟨hx, hb, hml, hr, hlk, hts, hown, hnw, hK, hSt, hA, hR, hlaw⟩ := id C
  exact lv_ldc2 hx hb hown (hts _ hc) hd (k p l e R s m args below meth c D ad cI cZ cII A cells slots Z C hZ H locs ls hW hL)
theorem v_iload_n {f : Fin 4} {x : Int32} (hd : decode (mc M) pc = .ok (.iload_n f, 1)) (hq : pc + 1 = q) (h : ldv f L = some (.int x)) (k : VV0 M d sc q L (.int x :: st) σ Q) : VV0 M d sc pc L (st) σ Q := by
  subst hq
  intro p l e R s m args below meth c D ad cI cZ cII A cells slots Z C hZ H locs ls hW hL
  exact lv_iload_n C.1 C.2.1 hd rfl (hL.2.2.2 _ _ h) (k p l e R s m args below meth c D ad cI cZ cII A cells slots Z C hZ H locs ls hW hL)
theorem v_iload {i : Nat} {x : Int32} (hd : decode (mc M) pc = .ok (.iload i, 2)) (hq : pc + 2 = q) (h : ldv i L = some (.int x)) (k : VV0 M d sc q L (.int x :: st) σ Q) : VV0 M d sc pc L (st) σ Q := by
  subst hq
  intro p l e R s m args below meth c D ad cI cZ cII A cells slots Z C hZ H locs ls hW hL
  exact lv_iload C.1 C.2.1 hd (hL.2.2.2 _ _ h) (k p l e R s m args below meth c D ad cI cZ cII A cells slots Z C hZ H locs ls hW hL)
theorem v_lload_n {f : Fin 4} {x : Int64} (hd : decode (mc M) pc = .ok (.lload_n f, 1)) (hq : pc + 1 = q) (h : ldv f L = some (.long x)) (k : VV0 M d sc q L (.long x :: st) σ Q) : VV0 M d sc pc L (st) σ Q := by
  subst hq
  intro p l e R s m args below meth c D ad cI cZ cII A cells slots Z C hZ H locs ls hW hL
  exact lv_lload_n C.1 C.2.1 hd rfl (hL.2.2.2 _ _ h) (k p l e R s m args below meth c D ad cI cZ cII A cells slots Z C hZ H locs ls hW hL)
theorem v_lload {i : Nat} {x : Int64} (hd : decode (mc M) pc = .ok (.lload i, 2)) (hq : pc + 2 = q) (h : ldv i L = some (.long x)) (k : VV0 M d sc q L (.long x :: st) σ Q) : VV0 M d sc pc L (st) σ Q := by
  subst hq
  intro p l e R s m args below meth c D ad cI cZ cII A cells slots Z C hZ H locs ls hW hL
  exact lv_lload C.1 C.2.1 hd (hL.2.2.2 _ _ h) (k p l e R s m args below meth c D ad cI cZ cII A cells slots Z C hZ H locs ls hW hL)
theorem v_aload_n {f : Fin 4} {x : Nat} (hd : decode (mc M) pc = .ok (.aload_n f, 1)) (hq : pc + 1 = q) (h : ldv f L = some (.ref x)) (k : VV0 M d sc q L (.ref x :: st) σ Q) : VV0 M d sc pc L (st) σ Q := by
  subst hq
  intro p l e R s m args below meth c D ad cI cZ cII A cells slots Z C hZ H locs ls hW hL
  exact lv_aload_n C.1 C.2.1 hd rfl (hL.2.2.2 _ _ h) (k p l e R s m args below meth c D ad cI cZ cII A cells slots Z C hZ H locs ls hW hL)
theorem v_aload {i : Nat} {x : Nat} (hd : decode (mc M) pc = .ok (.aload i, 2)) (hq : pc + 2 = q) (h : ldv i L = some (.ref x)) (k : VV0 M d sc q L (.ref x :: st) σ Q) : VV0 M d sc pc L (st) σ Q := by
  subst hq
  intro p l e R s m args below meth c D ad cI cZ cII A cells slots Z C hZ H locs ls hW hL
  exact lv_aload C.1 C.2.1 hd (hL.2.2.2 _ _ h) (k p l e R s m args below meth c D ad cI cZ cII A cells slots Z C hZ H locs ls hW hL)
theorem v_istore_n {f : Fin 4} {x : Int32} {L2 : List (Option Value)} (hd : decode (mc M) pc = .ok (.istore_n f, 1)) (hq : pc + 1 = q) (hi : f < ml M) (hl : sto f (.int x) L = L2) (k : VV0 M d sc q L2 st σ Q) : VV0 M d sc pc L ((.int x) :: st) σ Q := by
  subst hq
  subst hl
  intro p l e R s m args below meth c D ad cI cZ cII A cells slots Z C hZ H locs ls hW hL
  exact lv_istore_n C.1 C.2.1 hd rfl hL.has hi rfl (fun ls hl => k p l e R s m args below meth c D ad cI cZ cII A cells slots Z C hZ H locs ls hW (LH_sto (v := .int x) hL.1 hl))
theorem v_istore {i : Nat} {x : Int32} {L2 : List (Option Value)} (hd : decode (mc M) pc = .ok (.istore i, 2)) (hq : pc + 2 = q) (hi : i < ml M) (hl : sto i (.int x) L = L2) (k : VV0 M d sc q L2 st σ Q) : VV0 M d sc pc L ((.int x) :: st) σ Q := by
  subst hq
  subst hl
  intro p l e R s m args below meth c D ad cI cZ cII A cells slots Z C hZ H locs ls hW hL
  exact lv_istore C.1 C.2.1 hd hL.has hi rfl (fun ls hl => k p l e R s m args below meth c D ad cI cZ cII A cells slots Z C hZ H locs ls hW (LH_sto (v := .int x) hL.1 hl))
theorem v_astore_n {f : Fin 4} {x : Nat} {L2 : List (Option Value)} (hd : decode (mc M) pc = .ok (.astore_n f, 1)) (hq : pc + 1 = q) (hi : f < ml M) (hl : sto f (.ref x) L = L2) (k : VV0 M d sc q L2 st σ Q) : VV0 M d sc pc L ((.ref x) :: st) σ Q := by
  subst hq
  subst hl
  intro p l e R s m args below meth c D ad cI cZ cII A cells slots Z C hZ H locs ls hW hL
  exact lv_astore_n C.1 C.2.1 hd rfl hL.has hi rfl (fun ls hl => k p l e R s m args below meth c D ad cI cZ cII A cells slots Z C hZ H locs ls hW (LH_sto (v := .ref x) hL.1 hl))
theorem v_astore {i : Nat} {x : Nat} {L2 : List (Option Value)} (hd : decode (mc M) pc = .ok (.astore i, 2)) (hq : pc + 2 = q) (hi : i < ml M) (hl : sto i (.ref x) L = L2) (k : VV0 M d sc q L2 st σ Q) : VV0 M d sc pc L ((.ref x) :: st) σ Q := by
  subst hq
  subst hl
  intro p l e R s m args below meth c D ad cI cZ cII A cells slots Z C hZ H locs ls hW hL
  exact lv_astore C.1 C.2.1 hd hL.has hi rfl (fun ls hl => k p l e R s m args below meth c D ad cI cZ cII A cells slots Z C hZ H locs ls hW (LH_sto (v := .ref x) hL.1 hl))
theorem v_lstore_n {f : Fin 4} {x : Int64} {L2 : List (Option Value)} (hd : decode (mc M) pc = .ok (.lstore_n f, 1)) (hq : pc + 1 = q) (hi : f + 1 < ml M) (hl : sto f (.long x) (clr (f + 1) L) = L2) (k : VV0 M d sc q L2 st σ Q) : VV0 M d sc pc L ((.long x) :: st) σ Q := by
  subst hq
  subst hl
  intro p l e R s m args below meth c D ad cI cZ cII A cells slots Z C hZ H locs ls hW hL
  exact lv_lstore_n C.1 C.2.1 hd rfl hL.has hi rfl (fun ls hl => k p l e R s m args below meth c D ad cI cZ cII A cells slots Z C hZ H locs ls hW (LH_stl (v := .long x) hL.1 hl))
theorem v_lstore {i : Nat} {x : Int64} {L2 : List (Option Value)} (hd : decode (mc M) pc = .ok (.lstore i, 2)) (hq : pc + 2 = q) (hi : i + 1 < ml M) (hl : sto i (.long x) (clr (i + 1) L) = L2) (k : VV0 M d sc q L2 st σ Q) : VV0 M d sc pc L ((.long x) :: st) σ Q := by
  subst hq
  subst hl
  intro p l e R s m args below meth c D ad cI cZ cII A cells slots Z C hZ H locs ls hW hL
  exact lv_lstore C.1 C.2.1 hd hL.has hi rfl (fun ls hl => k p l e R s m args below meth c D ad cI cZ cII A cells slots Z C hZ H locs ls hW (LH_stl (v := .long x) hL.1 hl))
theorem v_iinc {i : Nat} {n : Int} {x y : Int32} {L2 : List (Option Value)} (hd : decode (mc M) pc = .ok (.iinc i n, 3)) (hq : pc + 3 = q) (h : ldv i L = some (.int x)) (hy : x + Int32.ofInt n = y) (hi : i < ml M) (hl : sto i (.int y) L = L2) (k : VV0 M d sc q L2 st σ Q) : VV0 M d sc pc L st σ Q := by
  subst hq
  subst hl
  intro p l e R s m args below meth c D ad cI cZ cII A cells slots Z C hZ H locs ls hW hL
  obtain ⟨k0, hk0⟩ := hL.place h
  exact lv_iinc (k := k0) C.1 C.2.1 hd hL.has hk0 hy hi rfl (fun ls hl => k p l e R s m args below meth c D ad cI cZ cII A cells slots Z C hZ H locs ls hW (LH_sto (v := .int y) hL.1 hl))
theorem v_iadd {x y : Int32} (hd : decode (mc M) pc = .ok (.iadd, 1)) (hq : pc + 1 = q) (k : VV0 M d sc q L (.int (x + y) :: st) σ Q) : VV0 M d sc pc L (.int y :: .int x :: st) σ Q := by
  subst hq
  intro p l e R s m args below meth c D ad cI cZ cII A cells slots Z C hZ H locs ls hW hL
  exact lv_iadd C.1 C.2.1 hd (k p l e R s m args below meth c D ad cI cZ cII A cells slots Z C hZ H locs ls hW hL)
theorem v_isub {x y : Int32} (hd : decode (mc M) pc = .ok (.isub, 1)) (hq : pc + 1 = q) (k : VV0 M d sc q L (.int (x - y) :: st) σ Q) : VV0 M d sc pc L (.int y :: .int x :: st) σ Q := by
  subst hq
  intro p l e R s m args below meth c D ad cI cZ cII A cells slots Z C hZ H locs ls hW hL
  exact lv_isub C.1 C.2.1 hd (k p l e R s m args below meth c D ad cI cZ cII A cells slots Z C hZ H locs ls hW hL)
theorem v_imul {x y : Int32} (hd : decode (mc M) pc = .ok (.imul, 1)) (hq : pc + 1 = q) (k : VV0 M d sc q L (.int (x * y) :: st) σ Q) : VV0 M d sc pc L (.int y :: .int x :: st) σ Q := by
  subst hq
  intro p l e R s m args below meth c D ad cI cZ cII A cells slots Z C hZ H locs ls hW hL
  exact lv_imul C.1 C.2.1 hd (k p l e R s m args below meth c D ad cI cZ cII A cells slots Z C hZ H locs ls hW hL)
theorem v_iand {x y : Int32} (hd : decode (mc M) pc = .ok (.iand, 1)) (hq : pc + 1 = q) (k : VV0 M d sc q L (.int (x &&& y) :: st) σ Q) : VV0 M d sc pc L (.int y :: .int x :: st) σ Q := by
  subst hq
  intro p l e R s m args below meth c D ad cI cZ cII A cells slots Z C hZ H locs ls hW hL
  exact lv_iand C.1 C.2.1 hd (k p l e R s m args below meth c D ad cI cZ cII A cells slots Z C hZ H locs ls hW hL)
theorem v_ior {x y : Int32} (hd : decode (mc M) pc = .ok (.ior, 1)) (hq : pc + 1 = q) (k : VV0 M d sc q L (.int (x ||| y) :: st) σ Q) : VV0 M d sc pc L (.int y :: .int x :: st) σ Q := by
  subst hq
  intro p l e R s m args below meth c D ad cI cZ cII A cells slots Z C hZ H locs ls hW hL
  exact lv_ior C.1 C.2.1 hd (k p l e R s m args below meth c D ad cI cZ cII A cells slots Z C hZ H locs ls hW hL)
theorem v_ishl {x y : Int32} (hd : decode (mc M) pc = .ok (.ishl, 1)) (hq : pc + 1 = q) (k : VV0 M d sc q L (.int (x <<< (y &&& 31)) :: st) σ Q) : VV0 M d sc pc L (.int y :: .int x :: st) σ Q := by
  subst hq
  intro p l e R s m args below meth c D ad cI cZ cII A cells slots Z C hZ H locs ls hW hL
  exact lv_ishl C.1 C.2.1 hd (k p l e R s m args below meth c D ad cI cZ cII A cells slots Z C hZ H locs ls hW hL)
theorem v_ishr {x y : Int32} (hd : decode (mc M) pc = .ok (.ishr, 1)) (hq : pc + 1 = q) (k : VV0 M d sc q L (.int (x >>> (y &&& 31)) :: st) σ Q) : VV0 M d sc pc L (.int y :: .int x :: st) σ Q := by
  subst hq
  intro p l e R s m args below meth c D ad cI cZ cII A cells slots Z C hZ H locs ls hW hL
  exact lv_ishr C.1 C.2.1 hd (k p l e R s m args below meth c D ad cI cZ cII A cells slots Z C hZ H locs ls hW hL)
theorem v_idiv {x y : Int32} (hd : decode (mc M) pc = .ok (.idiv, 1)) (hq : pc + 1 = q) (hne : ¬ y = 0) (k : VV0 M d sc q L (.int (x / y) :: st) σ Q) : VV0 M d sc pc L (.int y :: .int x :: st) σ Q := by
  subst hq
  intro p l e R s m args below meth c D ad cI cZ cII A cells slots Z C hZ H locs ls hW hL
  exact lv_idiv C.1 C.2.1 hd hne (k p l e R s m args below meth c D ad cI cZ cII A cells slots Z C hZ H locs ls hW hL)
theorem v_irem {x y : Int32} (hd : decode (mc M) pc = .ok (.irem, 1)) (hq : pc + 1 = q) (hne : ¬ y = 0) (k : VV0 M d sc q L (.int (x - x / y * y) :: st) σ Q) : VV0 M d sc pc L (.int y :: .int x :: st) σ Q := by
  subst hq
  intro p l e R s m args below meth c D ad cI cZ cII A cells slots Z C hZ H locs ls hW hL
  exact lv_irem C.1 C.2.1 hd hne (k p l e R s m args below meth c D ad cI cZ cII A cells slots Z C hZ H locs ls hW hL)
theorem v_ineg {x : Int32} (hd : decode (mc M) pc = .ok (.ineg, 1)) (hq : pc + 1 = q) (k : VV0 M d sc q L (.int (-x) :: st) σ Q) : VV0 M d sc pc L (.int x :: st) σ Q := by
  subst hq
  intro p l e R s m args below meth c D ad cI cZ cII A cells slots Z C hZ H locs ls hW hL
  exact lv_ineg C.1 C.2.1 hd (k p l e R s m args below meth c D ad cI cZ cII A cells slots Z C hZ H locs ls hW hL)
theorem v_i2l {x : Int32} (hd : decode (mc M) pc = .ok (.i2l, 1)) (hq : pc + 1 = q) (k : VV0 M d sc q L (.long x.toInt64 :: st) σ Q) : VV0 M d sc pc L (.int x :: st) σ Q := by
  subst hq
  intro p l e R s m args below meth c D ad cI cZ cII A cells slots Z C hZ H locs ls hW hL
  exact lv_i2l C.1 C.2.1 hd rfl (k p l e R s m args below meth c D ad cI cZ cII A cells slots Z C hZ H locs ls hW hL)
theorem v_ladd {x y : Int64} (hd : decode (mc M) pc = .ok (.ladd, 1)) (hq : pc + 1 = q) (k : VV0 M d sc q L (.long (x + y) :: st) σ Q) : VV0 M d sc pc L (.long y :: .long x :: st) σ Q := by
  subst hq
  intro p l e R s m args below meth c D ad cI cZ cII A cells slots Z C hZ H locs ls hW hL
  exact lv_ladd C.1 C.2.1 hd (k p l e R s m args below meth c D ad cI cZ cII A cells slots Z C hZ H locs ls hW hL)
theorem v_lmul {x y : Int64} (hd : decode (mc M) pc = .ok (.lmul, 1)) (hq : pc + 1 = q) (k : VV0 M d sc q L (.long (x * y) :: st) σ Q) : VV0 M d sc pc L (.long y :: .long x :: st) σ Q := by
  subst hq
  intro p l e R s m args below meth c D ad cI cZ cII A cells slots Z C hZ H locs ls hW hL
  exact lv_lmul C.1 C.2.1 hd (k p l e R s m args below meth c D ad cI cZ cII A cells slots Z C hZ H locs ls hW hL)
theorem v_lcmp {x y : Int64} (hd : decode (mc M) pc = .ok (.lcmp, 1)) (hq : pc + 1 = q) (k : VV0 M d sc q L (.int (lg_cmp x y) :: st) σ Q) : VV0 M d sc pc L (.long y :: .long x :: st) σ Q := by
  subst hq
  intro p l e R s m args below meth c D ad cI cZ cII A cells slots Z C hZ H locs ls hW hL
  exact W.lcmp C.1 C.2.1 hd (k p l e R s m args below meth c D ad cI cZ cII A cells slots Z C hZ H locs ls hW hL)
theorem v_dup {v : Value} (hd : decode (mc M) pc = .ok (.dup, 1)) (hq : pc + 1 = q) (hv : v.category = 1) (k : VV0 M d sc q L (v :: v :: st) σ Q) : VV0 M d sc pc L (v :: st) σ Q := by
  subst hq
  intro p l e R s m args below meth c D ad cI cZ cII A cells slots Z C hZ H locs ls hW hL
  exact lv_dup C.1 C.2.1 hd (by rw [rv_cat]; exact hv) (k p l e R s m args below meth c D ad cI cZ cII A cells slots Z C hZ H locs ls hW hL)
theorem v_pop {v : Value} (hd : decode (mc M) pc = .ok (.pop, 1)) (hq : pc + 1 = q) (hv : v.category = 1) (k : VV0 M d sc q L st σ Q) : VV0 M d sc pc L (v :: st) σ Q := by
  subst hq
  intro p l e R s m args below meth c D ad cI cZ cII A cells slots Z C hZ H locs ls hW hL
  exact lv_pop C.1 C.2.1 hd (by rw [rv_cat]; exact hv) (k p l e R s m args below meth c D ad cI cZ cII A cells slots Z C hZ H locs ls hW hL)
theorem v_dup2 {v w : Value} (hd : decode (mc M) pc = .ok (.dup2, 1)) (hq : pc + 1 = q) (hv : v.category = 1) (hw : w.category = 1) (k : VV0 M d sc q L (v :: w :: v :: w :: st) σ Q) : VV0 M d sc pc L (v :: w :: st) σ Q := by
  subst hq
  intro p l e R s m args below meth c D ad cI cZ cII A cells slots Z C hZ H locs ls hW hL
  exact lv_dup2_11 C.1 C.2.1 hd (by rw [rv_cat]; exact hv) (by rw [rv_cat]; exact hw) (k p l e R s m args below meth c D ad cI cZ cII A cells slots Z C hZ H locs ls hW hL)
theorem v_goto {off : Int} (hd : decode (mc M) pc = .ok (.goto off, 3)) (hq : (pc : Int) + off = (q : Int)) (k : VV0 M d sc q L st σ Q) : VV0 M d sc pc L st σ Q := by
  intro p l e R s m args below meth c D ad cI cZ cII A cells slots Z C hZ H locs ls hW hL
  exact lv_goto C.1 C.2.1 hd hq (k p l e R s m args below meth c D ad cI cZ cII A cells slots Z C hZ H locs ls hW hL)
theorem v_if_eq {x : Int32} {off : Int} {t : Nat} (hd : decode (mc M) pc = .ok (.ifCond .eq off, 3)) (hq : pc + 3 = q) (ht : (pc : Int) + off = (t : Int)) (kt : x = 0 → VV0 M d sc t L st σ Q) (kf : ¬ x = 0 → VV0 M d sc q L st σ Q) : VV0 M d sc pc L (.int x :: st) σ Q := by
  subst hq
  intro p l e R s m args below meth c D ad cI cZ cII A cells slots Z C hZ H locs ls hW hL
  exact lv_if_eq C.1 C.2.1 hd ht (fun h => kt h p l e R s m args below meth c D ad cI cZ cII A cells slots Z C hZ H locs ls hW hL) (fun h => kf h p l e R s m args below meth c D ad cI cZ cII A cells slots Z C hZ H locs ls hW hL)
theorem v_icmp_eq {x y : Int32} {off : Int} {t : Nat} (hd : decode (mc M) pc = .ok (.if_icmp .eq off, 3)) (hq : pc + 3 = q) (ht : (pc : Int) + off = (t : Int)) (kt : x = y → VV0 M d sc t L st σ Q) (kf : ¬ x = y → VV0 M d sc q L st σ Q) : VV0 M d sc pc L (.int y :: .int x :: st) σ Q := by
  subst hq
  intro p l e R s m args below meth c D ad cI cZ cII A cells slots Z C hZ H locs ls hW hL
  exact lv_icmp_eq C.1 C.2.1 hd ht (fun h => kt h p l e R s m args below meth c D ad cI cZ cII A cells slots Z C hZ H locs ls hW hL) (fun h => kf h p l e R s m args below meth c D ad cI cZ cII A cells slots Z C hZ H locs ls hW hL)
theorem v_if_ne {x : Int32} {off : Int} {t : Nat} (hd : decode (mc M) pc = .ok (.ifCond .ne off, 3)) (hq : pc + 3 = q) (ht : (pc : Int) + off = (t : Int)) (kt : ¬ x = 0 → VV0 M d sc t L st σ Q) (kf : x = 0 → VV0 M d sc q L st σ Q) : VV0 M d sc pc L (.int x :: st) σ Q := by
  subst hq
  intro p l e R s m args below meth c D ad cI cZ cII A cells slots Z C hZ H locs ls hW hL
  exact lv_if_ne C.1 C.2.1 hd ht (fun h => kt h p l e R s m args below meth c D ad cI cZ cII A cells slots Z C hZ H locs ls hW hL) (fun h => kf h p l e R s m args below meth c D ad cI cZ cII A cells slots Z C hZ H locs ls hW hL)
theorem v_icmp_ne {x y : Int32} {off : Int} {t : Nat} (hd : decode (mc M) pc = .ok (.if_icmp .ne off, 3)) (hq : pc + 3 = q) (ht : (pc : Int) + off = (t : Int)) (kt : ¬ x = y → VV0 M d sc t L st σ Q) (kf : x = y → VV0 M d sc q L st σ Q) : VV0 M d sc pc L (.int y :: .int x :: st) σ Q := by
  subst hq
  intro p l e R s m args below meth c D ad cI cZ cII A cells slots Z C hZ H locs ls hW hL
  exact lv_icmp_ne C.1 C.2.1 hd ht (fun h => kt h p l e R s m args below meth c D ad cI cZ cII A cells slots Z C hZ H locs ls hW hL) (fun h => kf h p l e R s m args below meth c D ad cI cZ cII A cells slots Z C hZ H locs ls hW hL)
theorem v_if_lt {x : Int32} {off : Int} {t : Nat} (hd : decode (mc M) pc = .ok (.ifCond .lt off, 3)) (hq : pc + 3 = q) (ht : (pc : Int) + off = (t : Int)) (kt : x < 0 → VV0 M d sc t L st σ Q) (kf : ¬ x < 0 → VV0 M d sc q L st σ Q) : VV0 M d sc pc L (.int x :: st) σ Q := by
  subst hq
  intro p l e R s m args below meth c D ad cI cZ cII A cells slots Z C hZ H locs ls hW hL
  exact lv_if_lt C.1 C.2.1 hd ht (fun h => kt h p l e R s m args below meth c D ad cI cZ cII A cells slots Z C hZ H locs ls hW hL) (fun h => kf h p l e R s m args below meth c D ad cI cZ cII A cells slots Z C hZ H locs ls hW hL)
theorem v_icmp_lt {x y : Int32} {off : Int} {t : Nat} (hd : decode (mc M) pc = .ok (.if_icmp .lt off, 3)) (hq : pc + 3 = q) (ht : (pc : Int) + off = (t : Int)) (kt : x < y → VV0 M d sc t L st σ Q) (kf : ¬ x < y → VV0 M d sc q L st σ Q) : VV0 M d sc pc L (.int y :: .int x :: st) σ Q := by
  subst hq
  intro p l e R s m args below meth c D ad cI cZ cII A cells slots Z C hZ H locs ls hW hL
  exact lv_icmp_lt C.1 C.2.1 hd ht (fun h => kt h p l e R s m args below meth c D ad cI cZ cII A cells slots Z C hZ H locs ls hW hL) (fun h => kf h p l e R s m args below meth c D ad cI cZ cII A cells slots Z C hZ H locs ls hW hL)
theorem v_if_ge {x : Int32} {off : Int} {t : Nat} (hd : decode (mc M) pc = .ok (.ifCond .ge off, 3)) (hq : pc + 3 = q) (ht : (pc : Int) + off = (t : Int)) (kt : 0 ≤ x → VV0 M d sc t L st σ Q) (kf : ¬ 0 ≤ x → VV0 M d sc q L st σ Q) : VV0 M d sc pc L (.int x :: st) σ Q := by
  subst hq
  intro p l e R s m args below meth c D ad cI cZ cII A cells slots Z C hZ H locs ls hW hL
  exact lv_if_ge C.1 C.2.1 hd ht (fun h => kt h p l e R s m args below meth c D ad cI cZ cII A cells slots Z C hZ H locs ls hW hL) (fun h => kf h p l e R s m args below meth c D ad cI cZ cII A cells slots Z C hZ H locs ls hW hL)
theorem v_icmp_ge {x y : Int32} {off : Int} {t : Nat} (hd : decode (mc M) pc = .ok (.if_icmp .ge off, 3)) (hq : pc + 3 = q) (ht : (pc : Int) + off = (t : Int)) (kt : y ≤ x → VV0 M d sc t L st σ Q) (kf : ¬ y ≤ x → VV0 M d sc q L st σ Q) : VV0 M d sc pc L (.int y :: .int x :: st) σ Q := by
  subst hq
  intro p l e R s m args below meth c D ad cI cZ cII A cells slots Z C hZ H locs ls hW hL
  exact lv_icmp_ge C.1 C.2.1 hd ht (fun h => kt h p l e R s m args below meth c D ad cI cZ cII A cells slots Z C hZ H locs ls hW hL) (fun h => kf h p l e R s m args below meth c D ad cI cZ cII A cells slots Z C hZ H locs ls hW hL)
theorem v_if_gt {x : Int32} {off : Int} {t : Nat} (hd : decode (mc M) pc = .ok (.ifCond .gt off, 3)) (hq : pc + 3 = q) (ht : (pc : Int) + off = (t : Int)) (kt : 0 < x → VV0 M d sc t L st σ Q) (kf : ¬ 0 < x → VV0 M d sc q L st σ Q) : VV0 M d sc pc L (.int x :: st) σ Q := by
  subst hq
  intro p l e R s m args below meth c D ad cI cZ cII A cells slots Z C hZ H locs ls hW hL
  exact lv_if_gt C.1 C.2.1 hd ht (fun h => kt h p l e R s m args below meth c D ad cI cZ cII A cells slots Z C hZ H locs ls hW hL) (fun h => kf h p l e R s m args below meth c D ad cI cZ cII A cells slots Z C hZ H locs ls hW hL)
theorem v_icmp_gt {x y : Int32} {off : Int} {t : Nat} (hd : decode (mc M) pc = .ok (.if_icmp .gt off, 3)) (hq : pc + 3 = q) (ht : (pc : Int) + off = (t : Int)) (kt : y < x → VV0 M d sc t L st σ Q) (kf : ¬ y < x → VV0 M d sc q L st σ Q) : VV0 M d sc pc L (.int y :: .int x :: st) σ Q := by
  subst hq
  intro p l e R s m args below meth c D ad cI cZ cII A cells slots Z C hZ H locs ls hW hL
  exact lv_icmp_gt C.1 C.2.1 hd ht (fun h => kt h p l e R s m args below meth c D ad cI cZ cII A cells slots Z C hZ H locs ls hW hL) (fun h => kf h p l e R s m args below meth c D ad cI cZ cII A cells slots Z C hZ H locs ls hW hL)
theorem v_if_le {x : Int32} {off : Int} {t : Nat} (hd : decode (mc M) pc = .ok (.ifCond .le off, 3)) (hq : pc + 3 = q) (ht : (pc : Int) + off = (t : Int)) (kt : x ≤ 0 → VV0 M d sc t L st σ Q) (kf : ¬ x ≤ 0 → VV0 M d sc q L st σ Q) : VV0 M d sc pc L (.int x :: st) σ Q := by
  subst hq
  intro p l e R s m args below meth c D ad cI cZ cII A cells slots Z C hZ H locs ls hW hL
  exact lv_if_le C.1 C.2.1 hd ht (fun h => kt h p l e R s m args below meth c D ad cI cZ cII A cells slots Z C hZ H locs ls hW hL) (fun h => kf h p l e R s m args below meth c D ad cI cZ cII A cells slots Z C hZ H locs ls hW hL)
theorem v_icmp_le {x y : Int32} {off : Int} {t : Nat} (hd : decode (mc M) pc = .ok (.if_icmp .le off, 3)) (hq : pc + 3 = q) (ht : (pc : Int) + off = (t : Int)) (kt : x ≤ y → VV0 M d sc t L st σ Q) (kf : ¬ x ≤ y → VV0 M d sc q L st σ Q) : VV0 M d sc pc L (.int y :: .int x :: st) σ Q := by
  subst hq
  intro p l e R s m args below meth c D ad cI cZ cII A cells slots Z C hZ H locs ls hW hL
  exact lv_icmp_le C.1 C.2.1 hd ht (fun h => kt h p l e R s m args below meth c D ad cI cZ cII A cells slots Z C hZ H locs ls hW hL) (fun h => kf h p l e R s m args below meth c D ad cI cZ cII A cells slots Z C hZ H locs ls hW hL)
theorem v_tsw {n : Nat} {offs : Array Int} {dflt hi : Int} {len : Nat} {x : Int32} {tg : Nat → Nat} {t : Nat} (hd : decode (mc M) pc = .ok (.tableswitch dflt 0 hi offs, len)) (hn : hi = (n : Int) - 1) (hn2 : n < 2 ^ 31) (ho : ∀ k : Nat, k < n → ∃ off, offs[k]? = some off ∧ (pc : Int) + off = (tg k : Int)) (ht : (pc : Int) + dflt = (t : Int)) (kin : ∀ k : Nat, k < n → x = nI k → VV0 M d sc (tg k) L st σ Q) (kout : (∀ k : Nat, k < n → ¬ x = nI k) → VV0 M d sc t L st σ Q) : VV0 M d sc pc L (.int x :: st) σ Q := by
  intro p l e R s m args below meth c D ad cI cZ cII A cells slots Z C hZ H locs ls hW hL
  by_cases h : 0 ≤ x.toInt ∧ x.toInt < n
  · obtain ⟨j, hj, rfl⟩ := vp_in_of (vp_in_iff.mpr h) hn2
    obtain ⟨off, h1, h2⟩ := ho j hj
    have hjj : (nI j).toInt = (j : Int) := nI_toInt (by omega)
    exact lv_tableIn C.1 C.2.1 hd (by rw [hjj]; omega) (by rw [hjj, hn]; omega) (off := off) (by rw [hjj]; simpa using h1) h2 (kin j hj rfl p l e R s m args below meth c D ad cI cZ cII A cells slots Z C hZ H locs ls hW hL)
  · exact lv_tableOut C.1 C.2.1 hd (by rw [hn]; omega) ht (kout (fun k hk e => h (by rw [e, nI_toInt (by omega)]; omega)) p l e R s m args below meth c D ad cI cZ cII A cells slots Z C hZ H locs ls hW hL)
theorem v_get {idx pp ci fi : Nat} {vs : List Value} {v : Value} (hd : decode (mc M) pc = .ok (.getfield idx, 3)) (hq : pc + 3 = q) (hF : FL (mo M) idx ci fi) (ho : obj pp σ = some (ci, vs)) (hv : vs[fi]? = some v) (k : VV0 M d sc q L (v :: st) σ Q) : VV0 M d sc pc L (.ref pp :: st) σ Q := by
  subst hq
  intro p l e R s m args below meth c D ad cI cZ cII A cells slots Z C hZ H locs ls hW hL
  obtain ⟨hx, hb, hml, hr, hlk, hts, hown, hnw, hK, hSt, hA, hR, hlaw⟩ := id C
  obtain ⟨C0, T, N, hc, hk, hin, hl⟩ := hF
  rcases hl with hl | ⟨host, hl⟩
  · exact va_get (D := D) (ci := ci) (v := rv ad v) (C := C0) (T := T) (N := N) hx hb hts hin hown hK hW.1 (ix pp) (fs := vs.map (rv ad)) (wld_obj ho) hc fi hk (hts _ hl) (fun _ h => h) (by rw [List.getElem?_map, hv]; rfl) hd (k p l e R s m args below meth c D ad cI cZ cII A cells slots Z C hZ H locs ls hW hL)
  · exact va_getN (D := D) (ci := ci) (v := rv ad v) (C := C0) (T := T) (N := N) hx hb hts hin hown hK hW.1 (ix pp) (fs := vs.map (rv ad)) (wld_obj ho) hc fi hk (va_Nw.use rfl (hnw _ hl)) (fun _ h => h) (by rw [List.getElem?_map, hv]; rfl) hd (k p l e R s m args below meth c D ad cI cZ cII A cells slots Z C hZ H locs ls hW hL)
theorem v_put {idx pp ci fi kk : Nat} {vs : List Value} {x : Int32} (hd : decode (mc M) pc = .ok (.putfield idx, 3)) (hq : pc + 3 = q) (hF : FP (mo M) idx ci fi "I") (ho : obj pp σ = some (ci, vs)) (hk : fk pp fi = some kk) (k : VV0 M d sc q L st (sF σ kk x) Q) : VV0 M d sc pc L (.int x :: .ref pp :: st) σ Q := by
  subst hq
  intro p l e R s m args below meth c D ad cI cZ cII A cells slots Z C hZ H locs ls hW hL
  obtain ⟨hx, hb, hml, hr, hlk, hts, hown, hnw, hK, hSt, hA, hR, hlaw⟩ := id C
  obtain ⟨C0, T, N, ty0, hc, hfi, hin, hty, hnm, hfin, hds, hl⟩ := hF
  have hlen := (obj_sF σ x hk ho).2.2
  refine va_put (D := D) (ci := ci) (v := .int x) (ty := .int) (C := C0) (T := T) (N := N) hx hb hts hin ty0 hty hnm hown hK hW.1 hW.2.1 hW.2.2 (ix pp) (fs := vs.map (rv ad)) (wld_obj ho) hc fi hfi (hts _ hl) (fun _ h => h) hfin (by rw [hds]; decide +kernel) rfl rfl (by rw [List.length_map]; exact hlen) hd (fun H locs hP hD hS => ?_)
  rw [wld_sF x hk ho] at hP hD
  exact k p l e R s m args below meth c D ad cI cZ cII A cells slots Z C hZ H locs ls ⟨hP, hD, hS⟩ hL
theorem v_iald {pp : Nat} {i : Int32} (hd : decode (mc M) pc = .ok (.iaload, 1)) (hq : pc + 1 = q) (hp : isI pp) (hi : vp_in i (al pp)) (k : VV0 M d sc q L (.int (σ.1 pp i.toNatClampNeg) :: st) σ Q) : VV0 M d sc pc L (.int i :: .ref pp :: st) σ Q := by
  subst hq
  intro p l e R s m args below meth c D ad cI cZ cII A cells slots Z C hZ H locs ls hW hL
  obtain ⟨hx, hb, hml, hr, hlk, hts, hown, hnw, hK, hSt, hA, hR, hlaw⟩ := id C
  exact va_iald hx hb hK hW.1 (ix pp) 0 (wld_arr hp) rfl hi hd (k p l e R s m args below meth c D ad cI cZ cII A cells slots Z C hZ H locs ls hW hL)
theorem v_iast {pp : Nat} {i x : Int32} (hd : decode (mc M) pc = .ok (.iastore, 1)) (hq : pc + 1 = q) (hp : isI pp) (hi : vp_in i (al pp)) (k : VV0 M d sc q L st (sA σ pp i.toNatClampNeg x) Q) : VV0 M d sc pc L (.int x :: .int i :: .ref pp :: st) σ Q := by
  subst hq
  intro p l e R s m args below meth c D ad cI cZ cII A cells slots Z C hZ H locs ls hW hL
  obtain ⟨hx, hb, hml, hr, hlk, hts, hown, hnw, hK, hSt, hA, hR, hlaw⟩ := id C
  refine va_iast hx hb hK hW.1 hW.2.1 hW.2.2 (ix pp) 0 (wld_arr hp) rfl hi hd (fun H locs hP hD hS => ?_)
  rw [wld_sA _ _ hp] at hP hD
  exact k p l e R s m args below meth c D ad cI cZ cII A cells slots Z C hZ H locs ls ⟨hP, hD, hS⟩ hL
theorem v_zald {i : Int32} (hd : decode (mc M) pc = .ok (.baload, 1)) (hq : pc + 1 = q) (hi : vp_in i 20) (k : VV0 M d sc q L (.int (σ.1 13 i.toNatClampNeg) :: st) σ Q) : VV0 M d sc pc L (.int i :: .ref 13 :: st) σ Q := by
  subst hq
  intro p l e R s m args below meth c D ad cI cZ cII A cells slots Z C hZ H locs ls hW hL
  obtain ⟨hx, hb, hml, hr, hlk, hts, hown, hnw, hK, hSt, hA, hR, hlaw⟩ := id C
  exact va_zald hx hb hK hW.1 (ix 13) 1 wld_13 rfl hi hd (k p l e R s m args below meth c D ad cI cZ cII A cells slots Z C hZ H locs ls hW hL)
theorem v_zast {i x : Int32} (hd : decode (mc M) pc = .ok (.bastore, 1)) (hq : pc + 1 = q) (hi : vp_in i 20) (hv : x = 0 ∨ x = 1) (k : VV0 M d sc q L st (sA σ 13 i.toNatClampNeg x) Q) : VV0 M d sc pc L (.int x :: .int i :: .ref 13 :: st) σ Q := by
  subst hq
  intro p l e R s m args below meth c D ad cI cZ cII A cells slots Z C hZ H locs ls hW hL
  obtain ⟨hx, hb, hml, hr, hlk, hts, hown, hnw, hK, hSt, hA, hR, hlaw⟩ := id C
  have hn : vp_nar .boolean x = x := by rcases hv with rfl | rfl <;> decide
  refine va_zast hx hb hK hW.1 hW.2.1 hW.2.2 (ix 13) 1 wld_13 rfl hi hd (fun H locs hP hD hS => ?_)
  rw [hn, wld_s13] at hP hD
  exact k p l e R s m args below meth c D ad cI cZ cII A cells slots Z C hZ H locs ls ⟨hP, hD, hS⟩ hL
theorem v_aald {pp n b : Nat} {i : Int32} (hd : decode (mc M) pc = .ok (.aaload, 1)) (hq : pc + 1 = q) (hp : (pp = 9 ∧ n = 4 ∧ b = 27) ∨ (pp = 10 ∧ n = 11 ∧ b = 16)) (hi : vp_in i n) (k : VV0 M d sc q L (.ref (b + i.toNatClampNeg) :: st) σ Q) : VV0 M d sc pc L (.int i :: .ref pp :: st) σ Q := by
  subst hq
  intro p l e R s m args below meth c D ad cI cZ cII A cells slots Z C hZ H locs ls hW hL
  obtain ⟨hx, hb, hml, hr, hlk, hts, hown, hnw, hK, hSt, hA, hR, hlaw⟩ := id C
  have hlt : i.toNatClampNeg < n := Nat.not_le.mp fun q => hi (Or.inr q)
  have key : ∃ f : Nat → Option Nat, (wld ad cI cZ cII σ)[ix pp]? = some (ad pp, .inl (cII, n, .inr (.inr (.inr (.inr f))))) ∧ va_rf (f i.toNatClampNeg) = .ref (ad (b + i.toNatClampNeg)) := by
    rcases hp with ⟨rfl, rfl, rfl⟩ | ⟨rfl, rfl, rfl⟩
    · exact ⟨_, wld_9, by simp only [hlt, if_true]; rfl⟩
    · exact ⟨_, wld_10, by simp only [hlt, if_true]; rfl⟩
  obtain ⟨f, ha, hf⟩ := key
  exact W.aald (v := .ref (ad (b + i.toNatClampNeg))) (ty := .array .int) hx hb (hW.1 (ix pp) _ ha) ((hK.2 2 _ rfl).1 n (fun j => va_rf (f j))) rfl (fun q => by cases q) (by show ¬ (i < 0 ∨ (arrV _ _ _).slots.size ≤ _); rw [arrV_size]; exact hi) (by show (arrV _ _ _).slots[_]? = _; rw [arrV_read _ _ hlt, hf]) rfl rfl hd (k p l e R s m args below meth c D ad cI cZ cII A cells slots Z C hZ H locs ls hW hL)
theorem v_gets {idx g : Nat} (hd : decode (mc M) pc = .ok (.getstatic idx, 3)) (hq : pc + 3 = q) (hg : g = 100 ∨ g = 101) (hl : Cond.fieldLink (RN (mo M)) idx "PhrasePool" (snm g) "[I" ∈ g_tbl) (k : VV0 M d sc q L (.ref g :: st) σ Q) : VV0 M d sc pc L st σ Q := by
  subst hq
  intro p l e R s m args below meth c D ad cI cZ cII A cells slots Z C hZ H locs ls hW hL
  obtain ⟨hx, hb, hml, hr, hlk, hts, hown, hnw, hK, hSt, hA, hR, hlaw⟩ := id C
  exact va_gets hx hb (hSt g hg).1 hW.2.2 hown (hts _ hl) (fun _ h => h) hd (k p l e R s m args below meth c D ad cI cZ cII A cells slots Z C hZ H locs ls hW hL)
theorem v_stld {g : Nat} {i : Int32} (hd : decode (mc M) pc = .ok (.iaload, 1)) (hq : pc + 1 = q) (hg : g = 100 ∨ g = 101) (hi : vp_in i 5) (k : VV0 M d sc q L (.int (lst g i.toNatClampNeg) :: st) σ Q) : VV0 M d sc pc L (.int i :: .ref g :: st) σ Q := by
  subst hq
  intro p l e R s m args below meth c D ad cI cZ cII A cells slots Z C hZ H locs ls hW hL
  obtain ⟨hx, hb, hml, hr, hlk, hts, hown, hnw, hK, hSt, hA, hR, hlaw⟩ := id C
  exact va_ti hx hb (hSt g hg).2 hW.2.2 hi rfl hd (k p l e R s m args below meth c D ad cI cZ cII A cells slots Z C hZ H locs ls hW hL)
theorem v_sld {i : Int32} (ho : hasS M = true) (hd : decode (mc M) pc = .ok (.iaload, 1)) (hq : pc + 1 = q) (hi : vp_in i sc.1) (k : VV0 M d sc q L (.int (sc.2 i.toNatClampNeg) :: st) σ Q) : VV0 M d sc pc L (.int i :: .ref 102 :: st) σ Q := by
  subst hq
  intro p l e R s m args below meth c D ad cI cZ cII A cells slots Z C hZ H locs ls hW hL
  obtain ⟨hx, hb, hml, hr, hlk, hts, hown, hnw, hK, hSt, hA, hR, hlaw⟩ := id C
  obtain ⟨h1, h2, h3⟩ := hlaw ho
  exact va_sld hx hb h1 h2 h3 hW.2.2 hi hd (k p l e R s m args below meth c D ad cI cZ cII A cells slots Z C hZ H locs ls hW hL)
theorem v_slen (ho : hasS M = true) (hd : decode (mc M) pc = .ok (.arraylength, 1)) (hq : pc + 1 = q) (k : VV0 M d sc q L (.int (nI sc.1) :: st) σ Q) : VV0 M d sc pc L (.ref 102 :: st) σ Q := by
  subst hq
  intro p l e R s m args below meth c D ad cI cZ cII A cells slots Z C hZ H locs ls hW hL
  obtain ⟨hx, hb, hml, hr, hlk, hts, hown, hnw, hK, hSt, hA, hR, hlaw⟩ := id C
  obtain ⟨h1, h2, h3⟩ := hlaw ho
  exact va_slen hx hb h1 h2 h3 hW.2.2 hd (k p l e R s m args below meth c D ad cI cZ cII A cells slots Z C hZ H locs ls hW hL)
def ACp (o idx : Nat) : Prop := Cond.methodLink (RN o) idx arraycopyName ∈ g_tbl ∧ Cond.native arraycopyName ∈ g_tbl ∧ Cond.static arraycopyName ∈ g_tbl ∧ Cond.initialized "java/lang/System" ∈ g_tbl
theorem v_copy0 {idx pa pb : Nat} {sp dp n : Int32} (hd : decode (mc M) pc = .ok (.invokestatic idx, 3)) (hq : pc + 3 = q) (hl : ACp (mo M) idx) (hdd : 1 ≤ d) (ha : isI pa) (hb' : isI pb) (h1 : ¬ sp < 0) (h2 : ¬ dp < 0) (h3 : ¬ n < 0) (h4 : sp.toNatClampNeg + n.toNatClampNeg ≤ al pa) (h5 : dp.toNatClampNeg + n.toNatClampNeg ≤ al pb) (k : VV0 M d sc q L [] (sR σ pb (va_cpy (σ.1 pa) (σ.1 pb) sp.toNatClampNeg dp.toNatClampNeg n.toNatClampNeg)) Q) : VV0 M d sc pc L [.int n, .int dp, .ref pb, .int sp, .ref pa] σ Q := by
  subst hq
  intro p l e R s m args below meth c D ad cI cZ cII A cells slots Z C hZ H locs ls hW hL
  obtain ⟨hx, hb, hml, hr, hlk, hts, hown, hnw, hK, hSt, hA, hR, hlaw⟩ := id C
  refine va_copyi hx hb (by rw [hml, hL.2.1]) hown (hts _ hl.1) (hts _ hl.2.1) (hts _ hl.2.2.1) (hts _ hl.2.2.2) hK hW.1 hW.2.1 hW.2.2 (ix pa) (ix pb) 0 0 (wld_arr ha) (wld_arr hb') rfl rfl rfl h1 h2 h3 h4 h5 (fun i _ => rfl) (by omega) ?_ hd (fun H locs hP hD hS => ?_)
  · have e : (([] : List Value).map fun v => v.category).sum + (nativeFrameWords "java/lang/System" "arraycopy" 5 + 11) ≤ 35 := by decide +kernel
    have := hR.2.1
    exact Nat.le_trans e (by omega)
  · rw [wld_sR _ hb'] at hP hD
    exact k p l e R s m args below meth c D ad cI cZ cII A cells slots Z C hZ H locs ls ⟨hP, hD, hS⟩ hL
def Lmax (o idx : Nat) : Prop := Cond.methodLink (RN o) idx Lib.Math.max.name ∈ g_tbl ∧ Cond.static Lib.Math.max.name ∈ g_tbl ∧ Cond.initialized "java/lang/Math" ∈ g_tbl ∧ Cond.code Lib.Math.max.name Lib.Math.max.code 2 (some .int) ∈ g_tbl
theorem v_max0 {idx : Nat} {x y : Int32} (hd : decode (mc M) pc = .ok (.invokestatic idx, 3)) (hq : pc + 3 = q) (hl : Lmax (mo M) idx) (hdd : 1 ≤ d) (hs : (st.map fun v => v.category).sum ≤ 8) (k : VV0 M d sc q L (.int (if x < y then y else x) :: st) σ Q) : VV0 M d sc pc L (.int y :: .int x :: st) σ Q := by
  subst hq
  intro p l e R s m args below meth c D ad cI cZ cII A cells slots Z C hZ H locs ls hW hL
  obtain ⟨hx, hb, hml, hr, hlk, hts, hown, hnw, hK, hSt, hA, hR, hlaw⟩ := id C
  have h1 := hR.1
  have h2 := hR.2.1
  exact va_mmax hx hb (by rw [hml, hL.2.1]) hown (hts _ hl.1) (hts _ hl.2.1) (hts _ hl.2.2.1) (hts _ hl.2.2.2) (by omega) (by rw [rv_cats]; omega) hR.2.2.1 hR.2.2.2 hd (k p l e R s m args below meth c D ad cI cZ cII A cells slots Z C hZ H locs ls hW hL)
def Lmin (o idx : Nat) : Prop := Cond.methodLink (RN o) idx Lib.Math.min.name ∈ g_tbl ∧ Cond.static Lib.Math.min.name ∈ g_tbl ∧ Cond.initialized "java/lang/Math" ∈ g_tbl ∧ Cond.code Lib.Math.min.name Lib.Math.min.code 2 (some .int) ∈ g_tbl
theorem v_min0 {idx : Nat} {x y : Int32} (hd : decode (mc M) pc = .ok (.invokestatic idx, 3)) (hq : pc + 3 = q) (hl : Lmin (mo M) idx) (hdd : 1 ≤ d) (hs : (st.map fun v => v.category).sum ≤ 8) (k : VV0 M d sc q L (.int (if y < x then y else x) :: st) σ Q) : VV0 M d sc pc L (.int y :: .int x :: st) σ Q := by
  subst hq
  intro p l e R s m args below meth c D ad cI cZ cII A cells slots Z C hZ H locs ls hW hL
  obtain ⟨hx, hb, hml, hr, hlk, hts, hown, hnw, hK, hSt, hA, hR, hlaw⟩ := id C
  have h1 := hR.1
  have h2 := hR.2.1
  exact va_mmin hx hb (by rw [hml, hL.2.1]) hown (hts _ hl.1) (hts _ hl.2.1) (hts _ hl.2.2.1) (hts _ hl.2.2.2) (by omega) (by rw [rv_cats]; omega) hR.2.2.1 hR.2.2.2 hd (k p l e R s m args below meth c D ad cI cZ cII A cells slots Z C hZ H locs ls hW hL)
end RULES
