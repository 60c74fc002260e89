/-! the words that may be handed to a callee: the good ones of the tables -/
def TB : List Cond := lw_tbl.filter goodWord
theorem tb_of {w : Cond} (h : w ∈ lw_tbl) (hg : goodWord w = true) : w ∈ TB := List.mem_filter.mpr ⟨h, hg⟩
theorem tb_in {w : Cond} (h : w ∈ TB) : w ∈ lw_tbl := (List.mem_filter.mp h).1
theorem tb_good {w : Cond} (h : w ∈ TB) : goodWord w = true := (List.mem_filter.mp h).2
theorem tb0 {w : Cond} (i : Nat) (h : (k2_sels lw_privs)[i]? = some w) (hg : goodWord w = true) : w ∈ TB := tb_of (List.mem_append_left _ (List.mem_of_getElem? h)) hg
theorem tb1 {w : Cond} (i : Nat) (h : tables_1_1[i]? = some w) (hg : goodWord w = true) : w ∈ TB := tb_of (List.mem_append_right _ (List.mem_append_left _ (List.mem_of_getElem? h))) hg
theorem tb2 {w : Cond} (i : Nat) (h : tables_1_2[i]? = some w) (hg : goodWord w = true) : w ∈ TB := tb_of (List.mem_append_right _ (List.mem_append_right _ (List.mem_append_left _ (List.mem_of_getElem? h)))) hg
theorem tb3 {w : Cond} (i : Nat) (h : tables_1_3[i]? = some w) (hg : goodWord w = true) : w ∈ TB := tb_of (List.mem_append_right _ (List.mem_append_right _ (List.mem_append_right _ (List.mem_append_left _ (List.mem_of_getElem? h))))) hg
theorem tb4 {w : Cond} (i : Nat) (h : tables_1_4[i]? = some w) (hg : goodWord w = true) : w ∈ TB := tb_of (List.mem_append_right _ (List.mem_append_right _ (List.mem_append_right _ (List.mem_append_right _ (List.mem_append_left _ (List.mem_of_getElem? h)))))) hg
theorem tb5 {w : Cond} (i : Nat) (h : tables_1_5[i]? = some w) (hg : goodWord w = true) : w ∈ TB := tb_of (List.mem_append_right _ (List.mem_append_right _ (List.mem_append_right _ (List.mem_append_right _ (List.mem_append_right _ (List.mem_of_getElem? h)))))) hg
theorem good_tb (X : Cond) {ws : List Cond} (h : ∀ w ∈ ws, w ∈ TB) : GoodIn (X :: TB) ws := fun w hw => ⟨List.mem_cons_of_mem _ (h w hw), good_of_word (tb_good (h w hw))⟩
theorem good_tb0 {ws : List Cond} (h : ∀ w ∈ ws, w ∈ TB) : GoodIn TB ws := fun w hw => ⟨h w hw, good_of_word (tb_good (h w hw))⟩

/-! the memory of ints: what each cell holds at each place -/
abbrev Mem : Type := Nat → Nat → Int32
def up (μ : Mem) (c j : Nat) (v : Int32) : Mem := fun a => if a = c then upd (μ c) j v else μ a
theorem up_at (μ : Mem) (c j : Nat) (v : Int32) : up μ c j v c = upd (μ c) j v := if_pos rfl
theorem up_ne {μ : Mem} {c j a : Nat} {v : Int32} (h : a ≠ c) : up μ c j v a = μ a := if_neg h
def inb (i : Int32) (n : Nat) : Bool := !(decide (i < 0) || decide (n ≤ i.toNatClampNeg))
theorem inb_in {i : Int32} {n : Nat} (h : inb i n = true) : vp_in i n := by
  unfold vp_in
  intro hh
  simp only [inb, Bool.not_eq_true', Bool.or_eq_false_iff, decide_eq_false_iff_not] at h
  exact hh.elim h.1 h.2

/-! the shape: n cells, cell k of kind K k (a class's number in vwCl, 10 an array of ints, 11 an array of rows), L k long, at the address ad k -/
def fv (ad : Nat → Nat) (f : Nat → Int32) (kd k : Nat) : List Value := match kd with
  | 0 => [.ref (ad (k + 1)), .ref (ad (k + 3)), .ref (ad (k + 5)), .ref (ad (k + 7)), .int (f 4), .int (f 5), .int (f 6)]
  | 1 => [.ref (ad (k + 1)), .int (f 1), .int (f 2)]
  | 2 => [.ref (ad (k + 1)), .int (f 1)]
  | 3 => [.ref (ad (k + 1))]
  | 4 => [.ref (ad (k + 1)), .ref (ad (k + 3)), .int (f 2), .int (f 3), .int (f 4), .int (f 5), .int (f 6), .int (f 7), .int (f 8), .int (f 9), .int (f 10)]
  | 5 => [.ref (ad (k + 1)), .ref (ad (k + 3)), .ref (ad (k + 5))]
  | 6 => [.ref (ad (k + 1)), .int (f 1)]
  | 7 => [.ref (ad (k + 1)), .int (f 1), .int (f 2)]
  | 8 => [.ref (ad (k + 1)), .ref (ad (k + 4)), .ref (ad (k + 7)), .ref (ad (k + 16)), .ref (ad (k + 25)), .ref (ad (k + 27)), .ref (ad (k + 34)), .ref (ad (k + 48)), .ref (ad (k + 53))]
  | _ => [.int (f 0), .ref (ad (k + 1)), .int (f 2), .ref (ad (k + 2)), .int (f 4), .ref (ad (k + 3)), .ref (ad (k + 4)), .int (f 7), .ref (ad (k + 5)), .ref (ad (k + 6)), .ref (ad (k + 7)), .int (f 11), .ref (ad (k + 8)), .int (f 13), .ref (ad (k + 9)), .int (f 15), .ref (ad (k + 10)), .ref (ad (k + 11)), .int (f 18), .ref (ad (k + 12)), .int (f 20), .int (f 21), .ref (ad (k + 13)), .ref (ad (k + 14)), .ref (ad (k + 15)), .ref (ad (k + 16)), .int (f 26), .int (f 27), .int (f 28), .int (f 29), .int (f 30)]
def ce (cI cR : ClassId) (K L ad : Nat → Nat) (f : Nat → Int32) (k : Nat) : va_E :=
  if K k = 10 then .inl (cI, L k, .inl f)
  else if K k = 11 then .inl (cR, L k, .inr (.inr (.inr (.inr (fun j => some (ad (k + 1 + 2 * j)))))))
  else .inr (K k, fv ad f (K k) k)
def cw (cI cR : ClassId) (n : Nat) (K L ad : Nat → Nat) (μ : Mem) : va_W := (List.range n).map (fun k => (ad k, ce cI cR K L ad (μ k) k))
def isk (n : Nat) (K : Nat → Nat) (o k : Nat) : Prop := o < n ∧ K o = k
/-- the cells that a cell of a kind points to are of their kinds -/
def gs (n : Nat) (K L : Nat → Nat) : Prop :=
  (∀ o, isk n K o 0 → isk n K (o + 1) 3 ∧ isk n K (o + 3) 3 ∧ isk n K (o + 5) 3 ∧ isk n K (o + 7) 3) ∧
  (∀ o, isk n K o 1 → isk n K (o + 1) 11) ∧
  (∀ o, isk n K o 2 → isk n K (o + 1) 3) ∧
  (∀ o, isk n K o 3 → isk n K (o + 1) 10) ∧
  (∀ o, isk n K o 4 → isk n K (o + 1) 3 ∧ isk n K (o + 3) 3) ∧
  (∀ o, isk n K o 5 → isk n K (o + 1) 3 ∧ isk n K (o + 3) 3 ∧ isk n K (o + 5) 3) ∧
  (∀ o, isk n K o 6 → isk n K (o + 1) 3) ∧
  (∀ o, isk n K o 7 → isk n K (o + 1) 3) ∧
  (∀ o, isk n K o 8 → isk n K (o + 1) 6 ∧ isk n K (o + 4) 2 ∧ isk n K (o + 7) 0 ∧ isk n K (o + 16) 0 ∧ isk n K (o + 25) 3 ∧ isk n K (o + 27) 5 ∧ isk n K (o + 34) 1 ∧ isk n K (o + 48) 4 ∧ isk n K (o + 53) 7) ∧
  (∀ o, isk n K o 9 → ∀ j, j < 16 → isk n K (o + (j + 1)) 10) ∧
  (∀ o, isk n K o 11 → ∀ j, j < L o → isk n K (o + 1 + 2 * j) 3)
def Ag (n : Nat) (ad : Nat → Nat) : Nat → Prop := fun q => ∃ k, k < n ∧ q = ad k
abbrev tyG (cI cR : ClassId) : List (ClassId × FieldType) := [(cI, .int), (cR, .object RX3)]
def wo (D : va_G) (cI cR : ClassId) (n : Nat) (K L ad : Nat → Nat) (μ : Mem) (H : Heap) : Prop := va_P D vwCl (cw cI cR n K L ad μ) H
def gok (D : va_G) (cI cR : ClassId) (n : Nat) (K L ad : Nat → Nat) (U : State) : Prop := va_K D vwCl (tyG cI cR) U ∧ (∀ i j, i < n → j < n → ad i = ad j → i = j) ∧ gs n K L
theorem gok.moved {D : va_G} {cI cR : ClassId} {n : Nat} {K L ad : Nat → Nat} {u U : State} (hvm : u.vm.Alike U.vm) (h : gok D cI cR n K L ad u) : gok D cI cR n K L ad U := ⟨va_K.moved hvm h.1, h.2⟩

section BASE1
variable {D : va_G} {cI cR : ClassId} {n : Nat} {K L ad : Nat → Nat} {μ : Mem} {H : Heap} {s : State}
theorem cw_at {o : Nat} (h : o < n) : (cw cI cR n K L ad μ)[o]? = some (ad o, ce cI cR K L ad (μ o) o) := by
  simp [cw, h]
theorem cw_len : (cw cI cR n K L ad μ).length = n := by simp [cw]
theorem cw_atO {o kd : Nat} (h : isk n K o kd) (hk : kd < 10) : (cw cI cR n K L ad μ)[o]? = some (ad o, .inr (kd, fv ad (μ o) kd o)) := by
  rw [cw_at h.1]
  have h1 : K o ≠ 10 := by rw [h.2]; omega
  have h2 : K o ≠ 11 := by rw [h.2]; omega
  rw [ce, if_neg h1, if_neg h2, h.2]
theorem cw_atI {o : Nat} (h : isk n K o 10) : (cw cI cR n K L ad μ)[o]? = some (ad o, .inl (cI, L o, .inl (μ o))) := by
  rw [cw_at h.1, ce, if_pos h.2]
theorem cw_atR {o : Nat} (h : isk n K o 11) : (cw cI cR n K L ad μ)[o]? = some (ad o, .inl (cR, L o, .inr (.inr (.inr (.inr (fun j => some (ad (o + 1 + 2 * j)))))))) := by
  have h1 : K o ≠ 10 := by rw [h.2]; decide
  rw [cw_at h.1, ce, if_neg h1, if_pos h.2]
theorem cw_D (h : gok D cI cR n K L ad s) : va_D (Ag n ad) (cw cI cR n K L ad μ) := by
  have key : ∀ (k : Nat) (q : Nat × va_E), (cw cI cR n K L ad μ)[k]? = some q → k < n ∧ q.1 = ad k := by
    intro k q hk
    have hl : k < n := by
      have := (List.getElem?_eq_some_iff.mp hk).1
      rwa [cw_len] at this
    rw [cw_at hl] at hk
    cases hk
    exact ⟨hl, rfl⟩
  refine ⟨fun i j x y hi hj hxy => ?_, fun k q hk => ?_⟩
  · obtain ⟨a1, a2⟩ := key i x hi
    obtain ⟨b1, b2⟩ := key j y hj
    exact h.2.1 i j a1 b1 (by rw [← a2, ← b2]; exact hxy)
  · obtain ⟨a1, a2⟩ := key k q hk
    exact ⟨k, a1, a2⟩
theorem cw_set {o : Nat} (h : o < n) (f : Nat → Int32) (ν : Mem) (h1 : ν o = f) (h2 : ∀ a, a ≠ o → ν a = μ a) : (cw cI cR n K L ad μ).set o (ad o, ce cI cR K L ad f o) = cw cI cR n K L ad ν := by
  apply List.ext_getElem?
  intro k
  by_cases hk : k = o
  · subst hk
    rw [List.getElem?_set_self (by rw [cw_len]; exact h), cw_at h, h1]
  · rw [List.getElem?_set_ne (Ne.symm hk)]
    by_cases hl : k < n
    · rw [cw_at hl, cw_at hl, h2 k hk]
    · rw [List.getElem?_eq_none (by rw [cw_len]; omega), List.getElem?_eq_none (by rw [cw_len]; omega)]
theorem cw_upI {o : Nat} (h : isk n K o 10) (j : Nat) (v : Int32) : (cw cI cR n K L ad μ).set o (ad o, .inl (cI, L o, .inl (upd (μ o) j v))) = cw cI cR n K L ad (up μ o j v) := by
  rw [← cw_set h.1 (upd (μ o) j v) (up μ o j v) (up_at μ o j v) (fun a ha => up_ne ha), ce, if_pos h.2]
theorem cw_upO {o kd : Nat} (h : isk n K o kd) (hk : kd < 10) (j : Nat) (v : Int32) (hf : fv ad (upd (μ o) j v) kd o = (fv ad (μ o) kd o).set j (.int v)) : (cw cI cR n K L ad μ).set o (ad o, .inr (kd, (fv ad (μ o) kd o).set j (.int v))) = cw cI cR n K L ad (up μ o j v) := by
  have h1 : K o ≠ 10 := by rw [h.2]; omega
  have h2 : K o ≠ 11 := by rw [h.2]; omega
  rw [← cw_set h.1 (upd (μ o) j v) (up μ o j v) (up_at μ o j v) (fun a ha => up_ne ha), ce, if_neg h1, if_neg h2, h.2, hf]
end BASE1
