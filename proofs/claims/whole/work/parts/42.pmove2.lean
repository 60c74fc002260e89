/-! sweeps, bounds, undoing, the text, the choice told -/
section PW
variable {L : Nat → Nat} {o r1 : Nat} {μ μ0 : Mem} {d : Sp} {g : Nat → Nat}
def swN (d : Sp) (kind n : Nat) (g : Nat → Nat) : Nat → Nat := fo (fun _ => swG d kind) n g
theorem gb_swN (hd : d.ok) (hb : gb d g) (kind n : Nat) : gb d (swN d kind n g) := fo_ind hb (fun _ _ _ h => gb_sw hd h kind)
theorem c_sweepN (hd : d.ok) (hC0 : CS 7 μ0 d) (hS : Sto d (ZT 27) (7 + 7 + 1) cx μ0 μ g) (hb : gb d g) {kind n : Nat} (hk : kind < 3) (hn : n < 5000) : ∃ μ', fX8_sweep_33 LL 0 FU (nI kind) (nI n) (0 : Int32) μ = some (nI (swN d kind n g 168), μ') ∧ Sto d (ZT 27) (7 + 7 + 1) cx μ0 μ' (swN d kind n g) := by
  refine Exists.elim (lpI (fun k a μ => fX8_sweep_33 LL 0 k (nI kind) (nI n) (nI a) μ) (fun μ => bd (fX0_constant LL 7 μ) (fun b2 μ1 => some (b2, μ1))) (fun a μ => Sto d (ZT 27) (7 + 7 + 1) cx μ0 μ (swN d kind a g)) n ?_ ?_ n 0 μ FU (by omega) (FU_gt (by omega)) hS) ?_
  · intro k μ' hS'
    simp only [fX8_sweep_33]
    unfold fX8_sweep_33_b
    rw [if_pos (nI_le (Nat.le_refl _) (by omega))]
  · intro k a μ' ha hS'
    simp only [fX8_sweep_33]
    unfold fX8_sweep_33_b
    rw [if_neg (nI_ge ha (by omega))]
    simp only [Nat.zero_add]
    obtain ⟨μ2, m1, m2⟩ := s_doOne hd LC7 LS27 (by decide) hC0 hS' (gb_swN hd hb kind a) hk
    rw [m1, bv_s, ltx_s, nI_1]
    exact ⟨μ2, rfl, m2⟩
  · intro μ' ⟨h1, h2⟩
    refine ⟨μ', ?_, h2⟩
    have e1 : fX8_sweep_33 LL 0 FU (nI kind) (nI n) (0 : Int32) μ = _ := h1
    rw [e1, c_constant hd LC7 h2.2.2, bd_s]
theorem q_sweepN (hd : d.ok) (hL : LR L o) (hC0 : RS o μ0 d) (hS : Sto d (ZR o) (o + 6) ei μ0 μ g) (hb : gb d g) {kind n : Nat} (hk : kind < 3) (hn : n < 5000) : ∃ μ', fX9_sweep_27 L o FU (nI kind) (nI n) (0 : Int32) μ = some (nI (swN d kind n g 168), μ') ∧ Sto d (ZR o) (o + 6) ei μ0 μ' (swN d kind n g) := by
  refine Exists.elim (lpI (fun k a μ => fX9_sweep_27 L o k (nI kind) (nI n) (nI a) μ) (fun μ => ald L μ (o + 6) (168 : Int32) (fun a1 => some (a1, μ))) (fun a μ => Sto d (ZR o) (o + 6) ei μ0 μ (swN d kind a g)) n ?_ ?_ n 0 μ FU (by omega) (FU_gt (by omega)) hS) ?_
  · intro k μ' hS'
    simp only [fX9_sweep_27]
    unfold fX9_sweep_27_b
    rw [if_pos (nI_le (Nat.le_refl _) (by omega))]
  · intro k a μ' ha hS'
    simp only [fX9_sweep_27]
    unfold fX9_sweep_27_b
    rw [if_neg (nI_ge ha (by omega))]
    obtain ⟨μ2, m1, m2⟩ := q_sweeps hd hL hC0 hS' (gb_swN hd hb kind a) hk
    rw [m1, bv_s, ltx_s, nI_1]
    exact ⟨μ2, rfl, m2⟩
  · intro μ' ⟨h1, h2⟩
    refine ⟨μ', ?_, h2⟩
    have e1 : fX9_sweep_27 L o FU (nI kind) (nI n) (0 : Int32) μ = _ := h1
    rw [e1, show (168 : Int32) = nI 168 from rfl, q_get hd hL h2.2.2 Sp.Uc]
theorem c_takeAll (hL : LC L o) (hL1 : LC L r1) (hne : r1 + 8 < o ∨ o + 8 < r1) : ∃ μ', fX0_takeAll L o r1 μ = some μ' ∧ (∀ x, x ≠ o → x ≠ o + 1 + 1 → x ≠ o + 3 + 1 → x ≠ o + 5 + 1 → x ≠ o + 7 + 1 → μ' x = μ x) ∧ (d.ok → CS r1 μ d → CS o μ' d) ∧ ∀ j, j < 169 → μ' (o + 7 + 1) j = μ (r1 + 7 + 1) j := by
  obtain ⟨μ1, a1, a2, a3, _⟩ := r_take (L := L) (μ := up (up (up μ o 4 (μ r1 4)) o 5 (up μ o 4 (μ r1 4) r1 5)) o 6 (up (up μ o 4 (μ r1 4)) o 5 (up μ o 4 (μ r1 4) r1 5) r1 6)) (r := o + 1) (r1 := r1 + 1) hL.1 hL1.1 (by decide) (by omega)
  obtain ⟨μ2, b1, b2, b3, _⟩ := r_take (L := L) (μ := μ1) (r := o + 3) (r1 := r1 + 3) hL.2.1 hL1.2.1 (by decide) (by omega)
  obtain ⟨μ3, c1, c2, c3, _⟩ := r_take (L := L) (μ := μ2) (r := o + 5) (r1 := r1 + 5) hL.2.2.1 hL1.2.2.1 (by decide) (by omega)
  obtain ⟨μ4, d1, d2, d3, _⟩ := r_take (L := L) (μ := μ3) (r := o + 7) (r1 := r1 + 7) hL.2.2.2 hL1.2.2.2 (by decide) (by omega)
  have hf : ∀ x, x ≠ o → x ≠ o + 1 + 1 → x ≠ o + 3 + 1 → x ≠ o + 5 + 1 → x ≠ o + 7 + 1 → μ4 x = μ x := fun x q0 q1 q2 q3 q4 => by
    rw [d2 x q4, c2 x q3, b2 x q2, a2 x q1, up_ne q0, up_ne q0, up_ne q0]
  refine ⟨μ4, ?_, hf, fun hd hC => ?_, fun j hj => ?_⟩
  · unfold fX0_takeAll
    simp only [pu_s]
    rw [a1, bv_s, b1, bv_s, c1, bv_s, d1, bv_s]
  · have hN := hd.1
    have hT := hd.2.2.1
    have e : ∀ j, μ4 o j = up (up (up μ o 4 (μ r1 4)) o 5 (up μ o 4 (μ r1 4) r1 5)) o 6 (up (up μ o 4 (μ r1 4)) o 5 (up μ o 4 (μ r1 4) r1 5) r1 6) o j := fun j => by
      rw [d2 o (by omega), c2 o (by omega), b2 o (by omega), a2 o (by omega)]
    refine ⟨?_, ?_, ?_, fun i hi => ?_, fun t ht => ?_, fun t ht => ?_⟩
    · rw [e, up_an (by decide), up_an (by decide), up_aa]; exact hC.1
    · rw [e, up_an (by decide), up_aa, up_ne (by omega)]; exact hC.2.1
    · rw [e, up_aa, up_ne (by omega), up_ne (by omega)]; exact hC.2.2.1
    · rw [d2 _ (by omega), c2 _ (by omega), b2 _ (by omega), a3 i (by omega), up_ne (by omega), up_ne (by omega), up_ne (by omega)]; exact hC.2.2.2.1 i hi
    · rw [d2 _ (by omega), c2 _ (by omega), b3 t (by omega), a2 _ (by omega), up_ne (by omega), up_ne (by omega), up_ne (by omega)]; exact hC.2.2.2.2.1 t ht
    · rw [d2 _ (by omega), c3 t (by omega), b2 _ (by omega), a2 _ (by omega), up_ne (by omega), up_ne (by omega), up_ne (by omega)]; exact hC.2.2.2.2.2 t ht
  · rw [d3 j hj, c2 _ (by omega), b2 _ (by omega), a2 _ (by omega), up_ne (by omega), up_ne (by omega), up_ne (by omega)]
theorem q_bound (hd : d.ok) (hL : LR L o) (hC0 : RS o μ d) (hg : Rg o μ d g) (hb : gb d g) {kind : Nat} (hk : kind < 3) : ∃ μ', fX9_bound_13 L o FU (nI kind) (0 : Int32) μ = some (nI ((stG d kind 20 0 g).2 168), μ') ∧ ∀ x, x ≠ o + 8 → x ≠ o + 13 → x ≠ o + 14 → μ' x = μ x := by
  have h6 := hL.2.2.2.2.2.1
  have h8 := hL.2.2.2.2.2.2.2.1
  refine Exists.elim (lpI (fun k a μ => fX9_bound_13 L o k (nI kind) (nI a) μ) (fun μ => bd (fX9_settles L o (nI kind) μ) (fun b5 μ4 => ald L μ4 (o + 6) (168 : Int32) (fun a6 => fX9_bound_55 L o FU a6 (0 : Int32) μ4))) (fun a μ' => (∀ x, x ≠ o + 8 → μ' x = μ x) ∧ ∀ j, j < a → μ' (o + 8) j = μ (o + 6) j) 169 ?_ ?_ 169 0 μ FU rfl (FU_gt (by decide)) ⟨fun _ _ => rfl, fun j h => by omega⟩) ?_
  · intro k μ' _
    simp only [fX9_bound_13]
    unfold fX9_bound_13_b
    rw [if_pos (by decide)]
  · intro k a μ' ha ⟨a1, a2⟩
    have hna : ¬ (169 : Int32) ≤ nI a := nI_ge (b := 169) (by omega) (by decide)
    simp only [fX9_bound_13]
    unfold fX9_bound_13_b
    rw [if_neg hna, ald_s (by omega) (by omega), ast_s (by omega) (by omega), ltx_s, nI_1]
    refine ⟨_, rfl, fun x hx => by rw [up_ne hx]; exact a1 x hx, fun j hj => ?_⟩
    by_cases q : j = a
    · subst q
      rw [up_aa, a1 _ (by omega)]
    · rw [up_an q]
      exact a2 j (by omega)
  · intro μ1 ⟨c1, c2, c3⟩
    have e1 : fX9_bound_13 L o FU (nI kind) (0 : Int32) μ = _ := c1
    have hC1 : RS o μ1 d := hC0.of (c2 _ (by omega)) (c2 _ (by omega)) (c2 _ (by omega)) (c2 _ (by omega))
    have hg1 : Rg o μ1 d g := fun k hk => by rw [c2 _ (by omega)]; exact hg k hk
    obtain ⟨μ2, m1, m2⟩ := q_settle hd hL hC1 (Sto.rf hg1) hb hk
    rw [e1, m1, bd_s, show (168 : Int32) = nI 168 from rfl, q_get hd hL m2.2.2 Sp.Uc]
    have e62 : ∀ x, x ≠ o + 6 → x ≠ o + 13 → x ≠ o + 14 → μ2 x = μ1 x := fun x q1 q2 q3 => m2.1 x q1 (fun q => by unfold ZQ at q; omega)
    refine Exists.elim (lpI (fun k a μ => fX9_bound_55 L o k (nI ((stG d kind 20 0 g).2 168)) (nI a) μ) (fun μ => some (nI ((stG d kind 20 0 g).2 168), μ)) (fun a μ' => (∀ x, x ≠ o + 6 → μ' x = μ2 x) ∧ (∀ j, j < a → μ' (o + 6) j = μ2 (o + 8) j) ∧ ∀ j, a ≤ j → μ' (o + 6) j = μ2 (o + 6) j) 169 ?_ ?_ 169 0 μ2 FU rfl (FU_gt (by decide)) ⟨fun _ _ => rfl, fun j h => by omega, fun _ _ => rfl⟩) ?_
    · intro k μ' _
      simp only [fX9_bound_55]
      unfold fX9_bound_55_b
      rw [if_pos (by decide)]
    · intro k a μ' ha ⟨a1, a2, a3⟩
      have hna : ¬ (169 : Int32) ≤ nI a := nI_ge (b := 169) (by omega) (by decide)
      simp only [fX9_bound_55]
      unfold fX9_bound_55_b
      rw [if_neg hna, ald_s (by omega) (by omega), ast_s (by omega) (by omega), ltx_s, nI_1]
      refine ⟨_, rfl, fun x hx => by rw [up_ne hx]; exact a1 x hx, fun j hj => ?_, fun j hj => ?_⟩
      · by_cases q : j = a
        · subst q
          rw [up_aa, a1 _ (by omega)]
        · rw [up_an q]
          exact a2 j (by omega)
      · rw [up_an (by omega)]
        exact a3 j (by omega)
    · intro μ3 ⟨d1, d2, d3, d4⟩
      refine ⟨μ3, d1, fun x q1 q2 q3 => ?_⟩
      by_cases q : x = o + 6
      · subst q
        funext j
        by_cases hj : j < 169
        · rw [d3 j hj, e62 _ (by omega) (by omega) (by omega), c3 j hj]
        · rw [d4 j (by omega), m2.2.1 j (fun k hk e => by have := Sp.Ult hd hk; unfold ei at e; omega), c2 _ (by omega)]
      · rw [d2 x q, e62 x q q2 q3, c2 x q1]
theorem Q14 : Q_14 Inv := by
  intro μ a1 a2 hI
  obtain ⟨d, g, c, h, tv, n, x, hP, hC, hR⟩ := id hI
  have hd := hP.1
  have hb := hP.2.2.1
  rcases isIn_c a1 (a := 0) (b := 2) (by decide) (by decide) with q | ⟨v, _, hv, rfl, q⟩
  · refine mk0 (r := -1) hI ?_ ?_
    · unfold fX8_sweep
      rw [show fX8_isSweep LL a1 μ = some (0, μ) from q LL μ, bd_s, if_pos rfl]
    · unfold fX9_sweep
      rw [show fX9_isIn LL a1 0 2 μ = some (0, μ) from q LL μ, bd_s, if_pos rfl]
  · by_cases h1 : a2 < 1
    · refine mk0 (r := -1) hI ?_ ?_
      · unfold fX8_sweep
        rw [show fX8_isSweep LL (nI v) μ = some (1, μ) from q LL μ, bd_s, if_neg (by decide), if_pos h1]
      · unfold fX9_sweep fX9_isIn
        rw [show (if nI v < 0 then some ((0 : Int32), μ) else if (2 : Int32) < nI v then some (0, μ) else some (1, μ)) = some (1, μ) from q LL μ, bd_s, if_neg (by decide), if_pos h1, bd_s, if_pos rfl]
    · by_cases h2 : a2 ≤ 9
      · obtain ⟨m, hm, rfl⟩ := nI_of2 (M := 9) (n := 9) rfl (x := a2) (fun e => h1 (Int32.lt_trans e (by decide))) h2
        have h29 : ¬ (9 : Int32) < nI m := fun e => Int32.lt_irrefl (Int32.lt_of_lt_of_le e h2)
        refine mkM (r := nI (swN d v m g 168)) (g' := swN d v m g) (ZC := ZT 27) (ZRf := ZR 56) hP hC hR (gb_swN hd hb v m) (fun x q => by unfold ZT at q; omega) (fun x q => by unfold ZR at q; omega) ?_ ?_
        · intro μ1 k1 hC1 hg1
          obtain ⟨μ2, m1, m2⟩ := c_sweepN hd hC1 (Sto.rf hg1) hb (kind := v) (n := m) (by omega) (by omega)
          refine ⟨μ2, ?_, m2⟩
          unfold fX8_sweep
          rw [show fX8_isSweep LL (nI v) μ = some (1, μ) from q LL μ, bd_s, if_neg (by decide), if_neg h1, if_pos h2]
          simp only [Nat.zero_add]
          rw [k1, bv_s, m1]
        · intro μ0 μ1 hR0 k1 hR1 hg1
          obtain ⟨μ2, m1, m2⟩ := q_sweepN hd LR56 hR1 (Sto.rf hg1) hb (kind := v) (n := m) (by omega) (by omega)
          refine ⟨μ2, ?_, m2⟩
          unfold fX9_sweep
          rw [show fX9_isIn LL (nI v) 0 2 μ0 = some (1, μ0) from q LL μ0, bd_s, if_neg (by decide)]
          unfold fX9_isIn
          rw [if_neg h1, if_neg h29, bd_s, if_neg (by decide), k1, bv_s, m1]
      · refine mk0 (r := -1) hI ?_ ?_
        · unfold fX8_sweep
          rw [show fX8_isSweep LL (nI v) μ = some (1, μ) from q LL μ, bd_s, if_neg (by decide), if_neg h1, if_neg h2]
        · unfold fX9_sweep
          rw [show fX9_isIn LL (nI v) 0 2 μ = some (1, μ) from q LL μ, bd_s, if_neg (by decide)]
          unfold fX9_isIn
          rw [if_neg h1, if_pos (Int32.not_le.mp h2), bd_s, if_pos rfl]
theorem Q16 : Q_16 Inv := by
  intro μ a1 hI
  obtain ⟨d, g, c, h, tv, n, x, hP, hC, hR⟩ := id hI
  have hd := hP.1
  have hb := hP.2.2.1
  rcases isIn_c a1 (a := 0) (b := 2) (by decide) (by decide) with q | ⟨v, _, hv, rfl, q⟩
  · refine mk0 (r := -1) hI ?_ ?_
    · unfold fX8_bound
      rw [show fX8_isSweep LL a1 μ = some (0, μ) from q LL μ, bd_s, if_pos rfl]
    · unfold fX9_bound
      rw [show fX9_isIn LL a1 0 2 μ = some (0, μ) from q LL μ, bd_s, if_pos rfl]
  · refine mkQ (r := nI ((stG d v 20 0 g).2 168)) hR hP ?_ ?_
    · obtain ⟨μ1, t1, t2, t3, t4⟩ := c_takeAll (μ := μ) (d := d) LC16 LC7 (Or.inl (by decide))
      have hg1 : Cg 16 μ1 d g := fun k hk => by rw [t4 _ (cx_lt hd hk)]; exact hC.2.1 k hk
      obtain ⟨μ2, m1, m2⟩ := s_settle hd LC16 LS27 (by decide) (t3 hd hC.1) (Sto.rf hg1) hb (kind := v) (by omega)
      have hf : ∀ x, (x < 16 ∨ x = 26 ∨ 34 ≤ x) → μ2 x = μ x := fun x hx => by
        rw [m2.1 x (by omega) (fun q => by unfold ZS at q; omega), t2 x (by omega) (by omega) (by omega) (by omega) (by omega)]
      refine ⟨μ2, ?_, hC.fr (fun x hx => hf x (by unfold kc at hx; omega)), fun x hx => hf x (by omega)⟩
      unfold fX8_bound
      simp only [Nat.zero_add]
      rw [show fX8_isSweep LL (nI v) μ = some (1, μ) from q LL μ, bd_s, if_neg (by decide), t1, bv_s, m1, bd_s, c_constant hd LC16 m2.2.2, bd_s]
    · intro μ0 hR0
      obtain ⟨μ2, m1, m2⟩ := q_bound hd LR56 hR0.1 hR0.2.1 hb (kind := v) (by omega)
      refine ⟨μ2, ?_, hR0.fr (fun j _ => by rw [m2 56 (by omega) (by omega) (by omega)]) (fun x hx hx2 => m2 x (by omega) (by omega) (by omega)), fun x hx => m2 x (by omega) (by omega) (by omega)⟩
      unfold fX9_bound
      rw [show fX9_isIn LL (nI v) 0 2 μ0 = some (1, μ0) from q LL μ0, bd_s, if_neg (by decide), m1]
theorem Q17 : Q_17 Inv := by
  intro μ hI
  obtain ⟨d, g, c, h, tv, n, x, hP, hC, hR⟩ := id hI
  have hd := hP.1
  obtain ⟨hC1, hC2, ⟨s, hH⟩, hC4, hC5, hC6⟩ := id hC
  obtain ⟨hR1, hR2, hHR, hR4, hR5, hR6⟩ := id hR
  cases c with
  | zero =>
    refine mk0 (r := -2) hI ?_ ?_
    · unfold fX8_undo fX1_giveBack fX1_giveBack_23
      simp only [Nat.zero_add]
      have e0 : μ 34 2 = 0 := hH.2.2.1
      simp only [e0, if_true, ite_self]
      rfl
    · unfold fX9_undo
      rw [hHR.1, if_pos (by decide)]
  | succ c =>
    refine mkQ (r := nI c) (d' := d) (g' := h c) (c' := c) (h' := h) hR ⟨hd, hP.2.1, hP.2.2.2.1 c (by omega), fun j hj => hP.2.2.2.1 j (by omega), hP.2.2.2.2⟩ ?_ ?_
    · obtain ⟨μ1, s', k1, k2, k3, k4⟩ := c_giveBack hd LC7 LH34 (by decide) hH
      refine ⟨μ1, ?_, ⟨hC1.of (k2 _ (by omega) (by omega)) (k2 _ (by omega) (by omega)) (k2 _ (by omega) (by omega)) (k2 _ (by omega) (by omega)), k4, ⟨s', k3⟩, fun i hi => by rw [k2 _ (by omega) (by omega)]; exact hC4 i hi, by rw [k2 _ (by omega) (by omega)]; exact hC5, fun j hj => by rw [k2 _ (by omega) (by omega)]; exact hC6 j hj⟩, fun x hx => k2 x (by omega) (by omega)⟩
      unfold fX8_undo fX1_size
      simp only [Nat.zero_add]
      rw [k1, bd_s, if_neg (by decide), bd_s, k3.2.2.1]
    · intro μ0 hR0
      obtain ⟨⟨a1, a2, a3, a4, a5, a6⟩, _, hHR0, hR04, hR05, hR06⟩ := id hR0
      obtain ⟨μ1, k1, k2, k3, k4, k5⟩ := q_undo hd LR56 hHR0
      refine ⟨μ1, k1, ⟨⟨?_, ?_, ?_, ?_, ?_, ?_⟩, k5, k4, ?_, ?_, ?_⟩, fun x hx => k2 x (by omega) (by omega)⟩
      · rw [k3 2 (by omega)]; exact a1
      · rw [k3 4 (by omega)]; exact a2
      · rw [k3 7 (by omega)]; exact a3
      · intro i hi; rw [k2 _ (by omega) (by omega)]; exact a4 i hi
      · intro i hi; rw [k2 _ (by omega) (by omega)]; exact a5 i hi
      · intro i hi; rw [k2 _ (by omega) (by omega)]; exact a6 i hi
      · intro i hi; rw [k2 _ (by omega) (by omega)]; exact hR04 i hi
      · rw [k3 0 (by omega)]; exact hR05
      · intro i hi; rw [k2 _ (by omega) (by omega)]; exact hR06 i hi
theorem CI.set {μ' : Mem} {c n n' : Nat} {h : Nat → Nat → Nat} {tv tv' x x' : Nat → Nat} (H : CI μ d g c h tv n x) (hf : ∀ x, (7 ≤ x ∧ x ≤ 15) ∨ (34 ≤ x ∧ x ≤ 47) → μ' x = μ x) (h1 : ∀ i, i < d.N → μ' 26 i = nI (tv' i)) (h2 : μ' 1 1 = nI n') (h3 : ∀ j, j < n' → μ' 3 j = nI (x' j)) : CI μ' d g c h tv' n' x' := by
  obtain ⟨a1, a2, ⟨s, b1, b2, b3, b4, b5⟩, _, _, _⟩ := H
  refine ⟨a1.of (hf _ (by omega)) (hf _ (by omega)) (hf _ (by omega)) (hf _ (by omega)), fun k hk => by rw [hf _ (by omega)]; exact a2 k hk, ⟨s, by rw [hf _ (by omega)]; exact b1, b2, by rw [hf _ (by omega)]; exact b3, b4, fun j hj k hk => ?_⟩, h1, h2, h3⟩
  have hr : rg s c j < 6 := by unfold rg; omega
  rw [hf _ (by omega)]
  exact b5 j hj k hk
theorem RI.set {μ' : Mem} {c n n' : Nat} {h : Nat → Nat → Nat} {tv tv' x x' : Nat → Nat} (H : RI μ d g c h tv n x) (h0 : ∀ j, j = 2 ∨ j = 4 ∨ j = 7 ∨ j = 11 → μ' 56 j = μ 56 j) (hf : ∀ x, 58 ≤ x → x ≤ 63 → x ≠ 61 → μ' x = μ x) (h1 : ∀ i, i < d.N → μ' 61 i = nI (tv' i)) (h2 : μ' 56 0 = nI n') (h3 : ∀ j, j < n' → μ' 57 j = nI (x' j)) : RI μ' d g c h tv' n' x' := by
  obtain ⟨⟨a1, a2, a3, a4, a5, a6⟩, b2, ⟨b1, b3, b4⟩, _, _, _⟩ := H
  refine ⟨⟨?_, ?_, ?_, ?_, ?_, ?_⟩, ?_, ⟨?_, b3, ?_⟩, h1, h2, h3⟩
  · rw [h0 2 (by omega)]; exact a1
  · rw [h0 4 (by omega)]; exact a2
  · rw [h0 7 (by omega)]; exact a3
  · intro i hi; rw [hf _ (by omega) (by omega) (by omega)]; exact a4 i hi
  · intro i hi; rw [hf _ (by omega) (by omega) (by omega)]; exact a5 i hi
  · intro i hi; rw [hf _ (by omega) (by omega) (by omega)]; exact a6 i hi
  · intro k hk; rw [hf _ (by omega) (by omega) (by omega)]; exact b2 k hk
  · rw [h0 11 (by omega)]; exact b1
  · intro j hj k hk; rw [hf _ (by omega) (by omega) (by omega)]; exact b4 j hj k hk
theorem Q1 : Q_1 Inv := by
  intro μ hI
  obtain ⟨d, g, c, h, tv, n, x, hP, hC, hR⟩ := id hI
  refine mkQ (r := nI n) (d' := d) (g' := g) (c' := c) (h' := h) (tv' := tv) (n' := 0) (x' := x) hR ⟨hP.1, hP.2.1, hP.2.2.1, hP.2.2.2.1, hP.2.2.2.2.1, by omega, fun j hj => by omega⟩ ?_ ?_
  · refine ⟨up μ 1 1 0, ?_, hC.set (fun x hx => up_ne (by omega)) (fun i hi => by rw [up_ne (by omega)]; exact hC.2.2.2.1 i hi) (up_aa _ _ _ _) (fun j hj => by omega), fun x hx => up_ne (by omega)⟩
    unfold fX8_wipe fX6_length fX6_clear
    simp only [Nat.zero_add]
    rw [bd_s, pu_s, bv_s, hC.2.2.2.2.1]
  · intro μ0 hR0
    refine ⟨up μ0 56 0 0, ?_, hR0.set (fun j hj => up_an (by omega)) (fun x hx _ _ => up_ne (by omega)) (fun i hi => by rw [up_ne (by omega)]; exact hR0.2.2.2.1 i hi) (up_aa _ _ _ _) (fun j hj => by omega), fun x hx => up_ne (by omega)⟩
    unfold fX9_wipe
    rw [ltx_s, pu_s, hR0.2.2.2.2.1]
theorem Q0 : Q_0 Inv := by
  intro μ a1 hI
  obtain ⟨d, g, c, h, tv, n, x, hP, hC, hR⟩ := id hI
  by_cases h1 : a1 < 32
  · exact mk0 (r := -1) hI (by unfold fX8_write; rw [if_pos h1]) (by unfold fX9_write; rw [if_pos h1])
  by_cases h2 : a1 ≤ 126
  · obtain ⟨m, hm, rfl⟩ := nI_of2 (M := 126) (n := 126) rfl (x := a1) (fun e => h1 (Int32.lt_trans e (by decide))) h2
    have hm32 : 32 ≤ m := by
      by_cases q : m < 32
      · exact absurd (nI_lt (b := 32) q (by decide)) h1
      · omega
    have hn := hP.2.2.2.2.2.1
    by_cases hn2 : n = 200
    · subst hn2
      refine mk0 (r := -3) hI ?_ ?_
      · unfold fX8_write fX6_add
        simp only [Nat.zero_add]
        rw [if_neg h1, if_pos h2, hC.2.2.2.2.1, if_neg (by decide), bd_s, if_pos rfl]
      · unfold fX9_write
        rw [if_neg h1, if_pos h2, hR.2.2.2.2.1, if_pos (by decide)]
    · have hx : ∀ j, j < n + 1 → 32 ≤ gu x n m j ∧ gu x n m j ≤ 126 := fun j hj => by
        by_cases q : j = n
        · rw [q, gu_at]; omega
        · rw [gu_ne q]; exact hP.2.2.2.2.2.2 j (by omega)
      refine mkQ (r := nI (n + 1)) (d' := d) (g' := g) (c' := c) (h' := h) (tv' := tv) (n' := n + 1) (x' := gu x n m) hR ⟨hP.1, hP.2.1, hP.2.2.1, hP.2.2.2.1, hP.2.2.2.2.1, by omega, hx⟩ ?_ ?_
      · refine ⟨up (up μ (1 + 1 + 1) n (nI m)) 1 1 (nI (n + 1)), ?_, hC.set (fun x hx => by rw [up_ne (by omega), up_ne (by omega)]) (fun i hi => by rw [up_ne (by omega), up_ne (by omega)]; exact hC.2.2.2.1 i hi) (up_aa _ _ _ _) (fun j hj => ?_), fun x hx => by rw [up_ne (by omega), up_ne (by omega)]⟩
        · unfold fX8_write fX6_add fX6_length
          simp only [Nat.zero_add]
          rw [if_neg h1, if_pos h2, hC.2.2.2.2.1, if_pos (show nI n < (200 : Int32) from nI_lt (b := 200) (by omega) (by decide)), rset (n := 200) rfl (by omega) (by decide), bv_s, pu_s, up_ne (by decide), hC.2.2.2.2.1, nI_1, bd_s, if_neg (by decide), bd_s, up_aa]
        · rw [up_ne (by decide)]
          by_cases q : j = n
          · subst q
            rw [gu_at]
            exact up_aa _ _ _ _
          · rw [gu_ne q, show up μ (1 + 1 + 1) n (nI m) 3 j = μ 3 j from up_an q]
            exact hC.2.2.2.2.2 j (by omega)
      · intro μ0 hR0
        refine ⟨up (up μ0 (56 + 1) n (nI m)) 56 0 (nI (n + 1)), ?_, hR0.set (fun j hj => by rw [up_an (by omega), up_ne (by omega)]) (fun x hx _ _ => by rw [up_ne (by omega), up_ne (by omega)]) (fun i hi => by rw [up_ne (by omega), up_ne (by omega)]; exact hR0.2.2.2.1 i hi) (up_aa _ _ _ _) (fun j hj => ?_), fun x hx => by rw [up_ne (by omega), up_ne (by omega)]⟩
        · have h200 : LL (56 + 1) = 200 := rfl
          unfold fX9_write
          rw [if_neg h1, if_pos h2, hR0.2.2.2.2.1, if_neg (show ¬ nI n = (200 : Int32) from fun e => nNe (b := 200) hn2 (by omega) (by decide) e), ast_s (by omega) (by omega), pu_s, up_aa, up_ne (show (56 : Nat) ≠ 56 + 1 by decide), hR0.2.2.2.2.1, nI_1]
        · rw [up_ne (by decide)]
          by_cases q : j = n
          · subst q
            rw [gu_at]
            exact up_aa _ _ _ _
          · rw [gu_ne q, show up μ0 (56 + 1) n (nI m) 57 j = μ0 57 j from up_an q]
            exact hR0.2.2.2.2.2 j (by omega)
  · exact mk0 (r := -1) hI (by unfold fX8_write; rw [if_neg h1, if_neg h2]) (by unfold fX9_write; rw [if_neg h1, if_neg h2])
theorem Q9 : Q_9 Inv := by
  intro μ a1 a2 hI
  obtain ⟨d, g, c, h, tv, n, x, hP, hC, hR⟩ := id hI
  have hd := hP.1
  have hN := hd.1
  by_cases h1 : Vx d a1 a2
  · obtain ⟨i, a, hi, ha, rfl, rfl⟩ := h1
    have hz := Sp.hz hd hi
    have ht := hP.2.2.2.2.1 i hi
    have h26 : LL (25 + 1) = 6 := rfl
    have h61 : LL (56 + 5) = 6 := rfl
    have e1 : ∀ (A : Int32 → Mem → Option (Int32 × Mem)), bd (fX3_get LL 25 (nI i) μ) A = A (nI (tv i)) μ := fun A => by
      rw [rget h26 (by omega) (by decide), bd_s, show μ (25 + 1) i = nI (tv i) from hC.2.2.2.1 i hi]
    by_cases q : tv i = a
    · refine mk0 (r := -2) hI ?_ ?_
      · unfold fX8_choose
        simp only [Nat.zero_add]
        rw [c_hasValue_y hd LC7 hC.1 hi ha, bd_s, if_neg (by decide), e1, if_pos (nEq q)]
      · unfold fX9_choose
        rw [q_isValue_y hd LR56 hR.1 hi ha, bd_s, if_neg (by decide), ald_s (by omega) (by omega), show μ (56 + 5) i = nI (tv i) from hR.2.2.2.1 i hi, if_pos (nEq q)]
    · refine mkQ (r := nI (tv i)) (d' := d) (g' := g) (c' := c) (h' := h) (tv' := gu tv i a) (n' := n) (x' := x) hR ⟨hd, hP.2.1, hP.2.2.1, hP.2.2.2.1, fun j hj => by
        by_cases e : j = i
        · rw [e, gu_at]; exact ha
        · rw [gu_ne e]; exact hP.2.2.2.2.1 j hj, hP.2.2.2.2.2⟩ ?_ ?_
      · refine ⟨up μ (25 + 1) i (nI a), ?_, hC.set (fun x hx => up_ne (by omega)) (fun j hj => ?_) (by rw [up_ne (by omega)]; exact hC.2.2.2.2.1) (fun j hj => by rw [up_ne (by omega)]; exact hC.2.2.2.2.2 j hj), fun x hx => up_ne (by omega)⟩
        · unfold fX8_choose
          simp only [Nat.zero_add]
          rw [c_hasValue_y hd LC7 hC.1 hi ha, bd_s, if_neg (by decide), e1, if_neg (nNe q (by omega) (by omega)), rset h26 (by omega) (by decide), bv_s]
        · by_cases e : j = i
          · subst e
            rw [gu_at]
            exact up_aa _ _ _ _
          · rw [gu_ne e, show up μ (25 + 1) i (nI a) 26 j = μ 26 j from up_an e]
            exact hC.2.2.2.1 j hj
      · intro μ0 hR0
        refine ⟨up μ0 (56 + 5) i (nI a), ?_, hR0.set (fun j hj => by rw [up_ne (by omega)]) (fun x hx _ _ => up_ne (by omega)) (fun j hj => ?_) (by rw [up_ne (by omega)]; exact hR0.2.2.2.2.1) (fun j hj => by rw [up_ne (by omega)]; exact hR0.2.2.2.2.2 j hj), fun x hx => up_ne (by omega)⟩
        · unfold fX9_choose
          rw [q_isValue_y hd LR56 hR0.1 hi ha, bd_s, if_neg (by decide), ald_s (by omega) (by omega), show μ0 (56 + 5) i = nI (tv i) from hR0.2.2.2.1 i hi, if_neg (nNe q (by omega) (by omega)), ast_s (by omega) (by omega)]
        · by_cases e : j = i
          · subst e
            rw [gu_at]
            exact up_aa _ _ _ _
          · rw [gu_ne e, show up μ0 (56 + 5) i (nI a) 61 j = μ0 61 j from up_an e]
            exact hR0.2.2.2.1 j hj
  · refine mk0 (r := -1) hI ?_ ?_
    · unfold fX8_choose
      simp only [Nat.zero_add]
      rw [c_hasValue_n hd LC7 hC.1 h1, bd_s, if_pos rfl]
    · unfold fX9_choose
      rw [q_isValue_n hd LR56 hR.1 h1, bd_s, if_pos rfl]
end PW
