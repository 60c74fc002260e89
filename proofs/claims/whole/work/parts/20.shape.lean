def KK : Nat → Nat := fun k => ([8, 6, 3, 10, 2, 3, 10, 0, 3, 10, 3, 10, 3, 10, 3, 10, 0, 3, 10, 3, 10, 3, 10, 3, 10, 3, 10, 5, 3, 10, 3, 10, 3, 10, 1, 11, 3, 10, 3, 10, 3, 10, 3, 10, 3, 10, 3, 10, 4, 3, 10, 3, 10, 7, 3, 10, 9, 10, 10, 10, 10, 10, 10, 10, 10, 10, 10, 10, 10, 10, 10, 10, 10] : List Nat).getD k 99
def LL : Nat → Nat := fun k => ([0, 0, 0, 200, 0, 0, 4, 0, 0, 6, 0, 9, 0, 9, 0, 169, 0, 0, 6, 0, 9, 0, 9, 0, 169, 0, 6, 0, 0, 169, 0, 4, 0, 4, 0, 6, 0, 169, 0, 169, 0, 169, 0, 169, 0, 169, 0, 169, 0, 0, 6, 0, 6, 0, 0, 6, 0, 200, 6, 9, 9, 6, 169, 1014, 169, 6, 9, 9, 169, 4, 169, 6, 6] : List Nat).getD k 0
theorem isk_dec {n k : Nat} {P : Nat → Prop} [DecidablePred P] (h : (List.range n).all (fun o => !(KK o == k) || decide (P o)) = true) : ∀ o, isk n KK o k → P o := by
  intro o ho
  have h1 := List.all_eq_true.mp h o (List.mem_range.mpr ho.1)
  rw [ho.2] at h1
  simpa using h1
theorem gs73 : gs 73 KK LL := by
  unfold gs isk
  refine ⟨?_, ?_, ?_, ?_, ?_, ?_, ?_, ?_, ?_, ?_, ?_⟩
  · exact isk_dec (P := fun o => (o + 1 < 73 ∧ KK (o + 1) = 3) ∧ (o + 3 < 73 ∧ KK (o + 3) = 3) ∧ (o + 5 < 73 ∧ KK (o + 5) = 3) ∧ (o + 7 < 73 ∧ KK (o + 7) = 3)) (by decide +kernel)
  · exact isk_dec (P := fun o => o + 1 < 73 ∧ KK (o + 1) = 11) (by decide +kernel)
  · exact isk_dec (P := fun o => o + 1 < 73 ∧ KK (o + 1) = 3) (by decide +kernel)
  · exact isk_dec (P := fun o => o + 1 < 73 ∧ KK (o + 1) = 10) (by decide +kernel)
  · exact isk_dec (P := fun o => (o + 1 < 73 ∧ KK (o + 1) = 3) ∧ (o + 3 < 73 ∧ KK (o + 3) = 3)) (by decide +kernel)
  · exact isk_dec (P := fun o => (o + 1 < 73 ∧ KK (o + 1) = 3) ∧ (o + 3 < 73 ∧ KK (o + 3) = 3) ∧ (o + 5 < 73 ∧ KK (o + 5) = 3)) (by decide +kernel)
  · exact isk_dec (P := fun o => o + 1 < 73 ∧ KK (o + 1) = 3) (by decide +kernel)
  · exact isk_dec (P := fun o => o + 1 < 73 ∧ KK (o + 1) = 3) (by decide +kernel)
  · exact isk_dec (P := fun o => (o + 1 < 73 ∧ KK (o + 1) = 6) ∧ (o + 4 < 73 ∧ KK (o + 4) = 2) ∧ (o + 7 < 73 ∧ KK (o + 7) = 0) ∧ (o + 16 < 73 ∧ KK (o + 16) = 0) ∧ (o + 25 < 73 ∧ KK (o + 25) = 3) ∧ (o + 27 < 73 ∧ KK (o + 27) = 5) ∧ (o + 34 < 73 ∧ KK (o + 34) = 1) ∧ (o + 48 < 73 ∧ KK (o + 48) = 4) ∧ (o + 53 < 73 ∧ KK (o + 53) = 7)) (by decide +kernel)
  · exact isk_dec (P := fun o => ∀ j, j < 16 → o + (j + 1) < 73 ∧ KK (o + (j + 1)) = 10) (by decide +kernel)
  · exact isk_dec (P := fun o => ∀ j, j < LL o → o + 1 + 2 * j < 73 ∧ KK (o + 1 + 2 * j) = 3) (by decide +kernel)
theorem isk_0 : isk 73 KK 0 8 := ⟨by decide, by decide⟩
theorem isk_56 : isk 73 KK 56 9 := ⟨by decide, by decide⟩
