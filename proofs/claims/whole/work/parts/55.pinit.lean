/-! the start -/
def xJ (j : Nat) : Nat := tJ.getD j 0
theorem xJ_ok : ∀ j, j < 83 → 32 ≤ xJ j ∧ xJ j ≤ 126 := by decide +kernel
def RJ : Option Nat × Sp × (Nat → Nat) := Rd 83 xJ 84 0 d0 (fun _ => 0)
theorem RJ_none : RJ.1 = none := by decide +kernel
theorem RJ_N : RJ.2.1.N = 4 := by decide +kernel
theorem RJ_T : RJ.2.1.T = 4 := by decide +kernel
theorem RJ_tp : RJ.2.1.tp = 20 := by decide +kernel
theorem yJ_some : (f9I L9 0 (fun _ _ => 0)).isSome = true := by decide +kernel
def yJ : Mem := (f9I L9 0 (fun _ _ => 0)).get yJ_some
theorem yJ_e : f9I L9 0 (fun _ _ => 0) = some yJ := (Option.some_get yJ_some).symm
theorem yJ_f : yJ 0 0 = nI 0 ∧ yJ 0 2 = nI 4 ∧ yJ 0 4 = nI 4 ∧ yJ 0 7 = nI 20 ∧ yJ 0 11 = nI 0 := by decide +kernel
theorem yJ_z : ∀ i, i < 4 → yJ 2 i = nI (RJ.2.1.z i) := by decide +kernel
theorem yJ_l : ∀ t, t < 4 → yJ 3 t = nI (RJ.2.1.lo t) := by decide +kernel
theorem yJ_h : ∀ t, t < 4 → yJ 4 t = nI (RJ.2.1.hi t) := by decide +kernel
theorem yJ_t : ∀ i, i < 4 → yJ 5 i = nI 0 := by decide +kernel
theorem yJ_c : yJ 6 168 = nI (min 20 (RJ.2.2 168)) := by decide +kernel
theorem yJ_s : ∀ i, i < 4 → ∀ a, a < RJ.2.1.z i → yJ 6 (si i a) = nI (min 20 (RJ.2.2 (si i a))) := by decide +kernel
theorem yJ_p : ∀ t, t < 4 → ∀ a, a < RJ.2.1.z (RJ.2.1.lo t) → ∀ b, b < RJ.2.1.z (RJ.2.1.hi t) → yJ 6 (pi t a b) = nI (min 20 (RJ.2.2 (pi t a b))) := by decide +kernel
theorem fI_add_s : ∀ (as : List Nat) (k : Nat) (μ : Mem), k + as.length ≤ 200 → μ 1 1 = nI k → ∃ μ', fI_add LL 0 as μ = some μ' ∧ (∀ x, x ≠ 1 → x ≠ 3 → μ' x = μ x) ∧ (∀ j, j ≠ 1 → μ' 1 j = μ 1 j) ∧ μ' 1 1 = nI (k + as.length) ∧ (∀ j, j < k → μ' 3 j = μ 3 j) ∧ ∀ j, j < as.length → μ' 3 (k + j) = nI (as.getD j 0)
  | [], k, μ, _, h => ⟨μ, rfl, fun _ _ _ => rfl, fun _ _ => rfl, h, fun _ _ => rfl, fun j hj => absurd hj (Nat.not_lt_zero _)⟩
  | a :: as, k, μ, hk, h => by
    have hk' : k + (as.length + 1) ≤ 200 := hk
    have hL : LL (1 + 1 + 1) = 200 := rfl
    obtain ⟨μ', i1, i2, i3, i4, i5, i6⟩ := fI_add_s as (k + 1) (up (up μ (1 + 1 + 1) k (nI a)) 1 1 (nI (k + 1))) (by omega) (up_aa _ _ _ _)
    refine ⟨μ', ?_, fun x q1 q2 => by rw [i2 x q1 q2, up_ne q1, up_ne q2], fun j hj => by rw [i3 j hj, up_an hj, up_ne (by decide)], ?_, fun j hj => ?_, fun j hj => ?_⟩
    · unfold fI_add fX6_add
      simp only [Nat.zero_add]
      rw [h, if_pos (show nI k < (200 : Int32) from nI_lt (b := 200) (by omega) (by decide)), rset hL (by omega) (by decide), bv_s, pu_s, up_ne (show (1 : Nat) ≠ 1 + 1 + 1 by decide), h, nI_1, bd_s, i1]
    · rw [i4]
      show nI (k + 1 + as.length) = nI (k + (as.length + 1))
      congr 1
      omega
    · rw [i5 j (by omega), up_ne (by decide)]
      exact up_an (by omega)
    · cases j with
      | zero =>
        rw [Nat.add_zero, i5 k (by omega), up_ne (by decide)]
        exact up_aa _ _ _ _
      | succ j =>
        have hj : j + 1 < as.length + 1 := hj
        rw [show k + (j + 1) = k + 1 + j by omega, i6 j (by omega)]
        rfl
theorem xJ_start : ∃ x, fI LL 0 μ56 = some x ∧ Inv (μJ x yJ) := by
  obtain ⟨μ1, a1, a2, a3, a4, a5, a6⟩ := fI_add_s tJ 0 μ56 (by decide) rfl
  have hT : KT 1 μ1 83 xJ := ⟨a4, fun j hj => by
    have := a6 j hj
    rw [Nat.zero_add] at this
    exact this⟩
  obtain ⟨μ2, s1, s2, s3⟩ := c_readAll (to := 1) (ro := 4) (co := 7) (L := LL) LC7 rfl rfl (by decide) (by decide) hT (by decide) xJ_ok
  have hPS : PS RJ.2.1 RJ.2.2 := Rd_PS 84 0 d0 (fun _ => 0) PS0
  have hd := hPS.1
  obtain ⟨hCS, hCg⟩ : CS 7 μ2 RJ.2.1 ∧ ∀ k, k ≤ 168 → μ2 (7 + 7 + 1) (cx k) = nI (min RJ.2.1.tp (RJ.2.2 k)) := s3 RJ_none
  have hf : ∀ x, x ≠ 1 → x ≠ 3 → x ≠ 4 → x ≠ 6 → ¬ (7 ≤ x ∧ x ≤ 15) → μ2 x = μ56 x := fun x q1 q2 q3 q4 q5 => by
    rw [s2 x (by omega) (by omega) (by omega) (by omega) (by omega) (by omega) (by omega), a2 x q1 q2]
  refine ⟨up μ2 1 1 0, ?_, RJ.2.1, (fun k => min RJ.2.1.tp (RJ.2.2 k)), 0, (fun _ _ => 0), (fun _ => 0), 0, (fun _ => 0), ?_, ?_, ?_⟩
  · unfold fI fX6_clear
    simp only [Nat.zero_add]
    rw [a1, bv_s, s1, bd_s, pu_s, bv_s]
  · exact ⟨hd, by rw [RJ_N]; decide, fun k hk => Nat.min_le_left _ _, fun j hj => absurd hj (Nat.not_lt_zero _), fun i hi => by have := Sp.hz hd hi; show 0 < RJ.2.1.z i; omega, by decide, fun j hj => absurd hj (Nat.not_lt_zero _)⟩
  · have e : ∀ k, k < 56 → μJ (up μ2 1 1 0) yJ k = up μ2 1 1 0 k := fun k hk => if_pos hk
    have e2 : ∀ k, k ≠ 1 → k < 56 → μJ (up μ2 1 1 0) yJ k = μ2 k := fun k hk hk2 => by rw [e k hk2, up_ne hk]
    refine ⟨hCS.of (e2 _ (by decide) (by decide)) (e2 _ (by decide) (by decide)) (e2 _ (by decide) (by decide)) (e2 _ (by decide) (by decide)), fun k hk => ?_, ⟨0, ?_, by decide, ?_, by decide, fun j hj => absurd hj (Nat.not_lt_zero _)⟩, fun i hi => ?_, ?_, fun j hj => absurd hj (Nat.not_lt_zero _)⟩
    · rw [e2 _ (by decide) (by decide)]
      exact hCg k (Sp.Ult hd hk)
    · rw [e2 34 (by decide) (by decide), hf 34 (by decide) (by decide) (by decide) (by decide) (by decide)]; rfl
    · rw [e2 34 (by decide) (by decide), hf 34 (by decide) (by decide) (by decide) (by decide) (by decide)]; rfl
    · rw [e2 26 (by decide) (by decide), hf 26 (by decide) (by decide) (by decide) (by decide) (by decide)]; rfl
    · rw [e 1 (by decide), up_aa]; rfl
  · have e : ∀ k, μJ (up μ2 1 1 0) yJ (56 + k) = yJ k := fun k => by
      show (if 56 + k < 56 then _ else yJ (56 + k - 56)) = yJ k
      rw [if_neg (by omega), Nat.add_sub_cancel_left]
    obtain ⟨f0, f2, f4, f7, f11⟩ := yJ_f
    have hN := RJ_N
    have hTT := RJ_T
    have htp := RJ_tp
    refine ⟨⟨?_, ?_, ?_, fun i hi => ?_, fun t ht => ?_, fun t ht => ?_⟩, fun k hk => ?_, ⟨?_, by decide, fun j hj => absurd hj (Nat.not_lt_zero _)⟩, fun i hi => ?_, ?_, fun j hj => absurd hj (Nat.not_lt_zero _)⟩
    · rw [hN, show μJ (up μ2 1 1 0) yJ 56 = yJ 0 from e 0]; exact f2
    · rw [hTT, show μJ (up μ2 1 1 0) yJ 56 = yJ 0 from e 0]; exact f4
    · rw [htp, show μJ (up μ2 1 1 0) yJ 56 = yJ 0 from e 0]; exact f7
    · rw [e 2]; exact yJ_z i (by omega)
    · rw [e 3]; exact yJ_l t (by omega)
    · rw [e 4]; exact yJ_h t (by omega)
    · rw [e 6]
      show _ = nI (min RJ.2.1.tp (RJ.2.2 k))
      rw [htp]
      rcases hk with rfl | ⟨i, a, hi, ha, rfl⟩ | ⟨t, a, b, ht, ha, hb, rfl⟩
      · exact yJ_c
      · exact yJ_s i (by omega) a ha
      · exact yJ_p t (by omega) a ha b hb
    · rw [show μJ (up μ2 1 1 0) yJ 56 = yJ 0 from e 0]; exact f11
    · rw [show μJ (up μ2 1 1 0) yJ 61 = yJ 5 from e 5]; exact yJ_t i (by omega)
    · rw [show μJ (up μ2 1 1 0) yJ 56 = yJ 0 from e 0]; exact f0
