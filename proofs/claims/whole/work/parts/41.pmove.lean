/-! calls that change something -/
section PM
variable {μ μ' μ1 μ2 : Mem} {d : Sp} {g g' : Nat → Nat} {c : Nat} {h : Nat → Nat → Nat} {tv : Nat → Nat} {n : Nat} {x : Nat → Nat}
theorem CI.move {s' : Nat} {Z : Nat → Prop} (H : CI μ d g c h tv n x) (k1 : ∀ x, x < 34 → μ1 x = μ x) (k2 : ∀ x, 34 + 13 < x → μ1 x = μ x) (k3 : HC 34 μ1 d (hc c) (hp c h g) s') (hS : Sto d Z (7 + 7 + 1) cx μ1 μ2 g') (hZ : ∀ x, Z x → 27 ≤ x ∧ x ≤ 33) : CI μ2 d g' (hc c) (hp c h g) tv n x ∧ ∀ x, 56 ≤ x → μ2 x = μ x := by
  have e : ∀ x, x ≠ 15 → ¬ (27 ≤ x ∧ x ≤ 33) → μ2 x = μ1 x := fun x a b => hS.1 x a (fun q => b (hZ x q))
  have e1 : ∀ x, x ≠ 15 → ¬ (27 ≤ x ∧ x ≤ 33) → (x < 34 ∨ 47 < x) → μ2 x = μ x := fun x a b q => (e x a b).trans (by rcases q with q | q; exact k1 x q; exact k2 x q)
  obtain ⟨h1, h2, h3, h4, h5, h6⟩ := H
  refine ⟨⟨h1.of (e1 _ (by omega) (by omega) (by omega)) (e1 _ (by omega) (by omega) (by omega)) (e1 _ (by omega) (by omega) (by omega)) (e1 _ (by omega) (by omega) (by omega)), hS.2.2, ⟨s', ?_⟩, fun i hi => by rw [e1 _ (by omega) (by omega) (by omega)]; exact h4 i hi, by rw [e1 _ (by omega) (by omega) (by omega)]; exact h5, fun j hj => by rw [e1 _ (by omega) (by omega) (by omega)]; exact h6 j hj⟩, fun x hx => e1 x (by omega) (by omega) (by omega)⟩
  obtain ⟨a1, a2, a3, a4, a5⟩ := k3
  refine ⟨by rw [e _ (by omega) (by omega)]; exact a1, a2, by rw [e _ (by omega) (by omega)]; exact a3, a4, fun j hj k hk => ?_⟩
  have hr : rg s' (hc c) j < 6 := by unfold rg; omega
  rw [e _ (by omega) (by omega)]
  exact a5 j hj k hk
theorem RI.move {Z : Nat → Prop} (H : RI μ d g c h tv n x) (k1 : ∀ x, x ≠ 56 + 7 → x ≠ 56 → μ1 x = μ x) (k2 : ∀ j, j ≠ 11 → μ1 56 j = μ 56 j) (k3 : HR 56 μ1 d (hc c) (hp c h g)) (hS : Sto d Z (56 + 6) ei μ1 μ2 g') (hZ : ∀ x, Z x → 69 ≤ x ∧ x ≤ 70) : RI μ2 d g' (hc c) (hp c h g) tv n x ∧ ∀ x, x < 56 → μ2 x = μ x := by
  have e : ∀ x, x ≠ 62 → ¬ (69 ≤ x ∧ x ≤ 70) → μ2 x = μ1 x := fun x a b => hS.1 x a (fun q => b (hZ x q))
  have e1 : ∀ x, x ≠ 62 → ¬ (69 ≤ x ∧ x ≤ 70) → x ≠ 63 → x ≠ 56 → μ2 x = μ x := fun x a b q1 q2 => (e x a b).trans (k1 x q1 q2)
  have e0 : ∀ j, j ≠ 11 → μ2 56 j = μ 56 j := fun j hj => by rw [e 56 (by omega) (by omega)]; exact k2 j hj
  obtain ⟨⟨a1, a2, a3, a4, a5, a6⟩, h2, h3, h4, h5, h6⟩ := H
  obtain ⟨b1, b2, b3⟩ := k3
  refine ⟨⟨⟨?_, ?_, ?_, ?_, ?_, ?_⟩, hS.2.2, ⟨?_, b2, ?_⟩, ?_, ?_, ?_⟩, fun x hx => e1 x (by omega) (by omega) (by omega) (by omega)⟩
  · rw [e0 2 (by omega)]; exact a1
  · rw [e0 4 (by omega)]; exact a2
  · rw [e0 7 (by omega)]; exact a3
  · intro i hi; rw [e1 _ (by omega) (by omega) (by omega) (by omega)]; exact a4 i hi
  · intro i hi; rw [e1 _ (by omega) (by omega) (by omega) (by omega)]; exact a5 i hi
  · intro i hi; rw [e1 _ (by omega) (by omega) (by omega) (by omega)]; exact a6 i hi
  · rw [e _ (by omega) (by omega)]; exact b1
  · intro j hj k hk; rw [e _ (by omega) (by omega)]; exact b3 j hj k hk
  · intro i hi; rw [e1 _ (by omega) (by omega) (by omega) (by omega)]; exact h4 i hi
  · rw [e0 0 (by omega)]; exact h5
  · intro i hi; rw [e1 _ (by omega) (by omega) (by omega) (by omega)]; exact h6 i hi
theorem PI.move (H : PI d g c h tv n x) (hb : gb d g') (hc6 : c ≤ 6) : PI d g' (hc c) (hp c h g) tv n x := by
  obtain ⟨h1, h2, h3, h4, h5⟩ := H
  refine ⟨h1, h2, hb, fun j hj => ?_, h5⟩
  unfold hc at hj
  unfold hp
  by_cases q : c = 6
  · rw [if_pos q] at hj
    rw [if_pos q]
    show gb d (if j < 5 then h (j + 1) else g)
    split
    · exact h4 _ (by omega)
    · exact h3
  · rw [if_neg q] at hj
    rw [if_neg q]
    show gb d (if j = c then g else h j)
    split
    · exact h3
    · exact h4 _ (by omega)
/-- a call that keeps the costs and moves some -/
theorem mkM {F G : Mem → Option (Int32 × Mem)} {r : Int32} {ZC ZRf : Nat → Prop} (hP : PI d g c h tv n x) (hC : CI μ d g c h tv n x) (hR : RI μ d g c h tv n x) (hb : gb d g') (hZC : ∀ x, ZC x → 27 ≤ x ∧ x ≤ 33) (hZR : ∀ x, ZRf x → 69 ≤ x ∧ x ≤ 70)
    (hF : ∀ μ1, fX1_keep LL 34 7 μ = some μ1 → CS 7 μ1 d → Cg 7 μ1 d g → ∃ μ2, F μ = some (r, μ2) ∧ Sto d ZC (7 + 7 + 1) cx μ1 μ2 g')
    (hG : ∀ μ0 μ1, RI μ0 d g c h tv n x → fX9_keeps LL 56 μ0 = some μ1 → RS 56 μ1 d → Rg 56 μ1 d g → ∃ μ2, G μ0 = some (r, μ2) ∧ Sto d ZRf (56 + 6) ei μ1 μ2 g') : ∃ (r : Int32) (μ1 μ2 : Mem), F μ = some (r, μ1) ∧ G μ1 = some (r, μ2) ∧ Inv μ2 := by
  have hd := hP.1
  obtain ⟨s, hH⟩ := hC.2.2.1
  refine mkQ (r := r) hR (PI.move hP hb hH.2.2.2.1) ?_ ?_
  · obtain ⟨μ1, s', k1, k2, k3, k4⟩ := c_keep hd LC7 LH34 (by decide) hC.2.1 hH
    obtain ⟨μ2, f1, f2⟩ := hF μ1 k1 (hC.1.of (k2 _ (by omega)) (k2 _ (by omega)) (k2 _ (by omega)) (k2 _ (by omega))) (fun k hk => by rw [k2 _ (by omega)]; exact hC.2.1 k hk)
    have := hC.move k2 k3 k4 f2 hZC
    exact ⟨μ2, f1, this.1, this.2⟩
  · intro μ0 hR0
    obtain ⟨μ1, k1, k2, k3, k4⟩ := q_keeps hd LR56 hR0.2.1 hR0.2.2.1
    have hR1 : RS 56 μ1 d := ⟨by rw [k3 _ (by omega)]; exact hR0.1.1, by rw [k3 _ (by omega)]; exact hR0.1.2.1, by rw [k3 _ (by omega)]; exact hR0.1.2.2.1, fun i hi => by rw [k2 _ (by omega) (by omega)]; exact hR0.1.2.2.2.1 i hi, fun i hi => by rw [k2 _ (by omega) (by omega)]; exact hR0.1.2.2.2.2.1 i hi, fun i hi => by rw [k2 _ (by omega) (by omega)]; exact hR0.1.2.2.2.2.2 i hi⟩
    obtain ⟨μ2, f1, f2⟩ := hG μ0 μ1 hR0 k1 hR1 (fun k hk => by rw [k2 _ (by omega) (by omega)]; exact hR0.2.1 k hk)
    have := hR0.move k2 k3 k4 f2 hZR
    exact ⟨μ2, f1, this.1, this.2⟩
theorem Q8 : Q_8 Inv := by
  intro μ a1 a2 a3 hI
  obtain ⟨d, g, c, h, tv, n, x, hP, hC, hR⟩ := id hI
  have hd := hP.1
  have hb := hP.2.2.1
  have htp := hd.2.2.2.2.2
  by_cases h1 : Vx d a1 a2
  · obtain ⟨i, a, hi, ha, rfl, rfl⟩ := h1
    rcases isIn_c a3 (a := 1) (b := 99) (by decide) (by decide) with q | ⟨v, hv1, hv, rfl, q⟩
    · refine mk0 (r := -1) hI ?_ ?_
      · unfold fX8_grow
        simp only [Nat.zero_add]
        rw [c_hasValue_y hd LC7 hC.1 hi ha, bd_s, if_neg (by decide), show fX8_isStep LL a3 μ = some (0, μ) from q LL μ, bd_s, if_pos rfl]
      · unfold fX9_grow
        rw [q_isValue_y hd LR56 hR.1 hi ha, bd_s, if_neg (by decide), show fX9_isIn LL a3 1 99 μ = some (0, μ) from q LL μ, bd_s, if_pos rfl]
    · have hk := Sp.Us (d := d) hi ha
      refine mkM (r := nI (sm d.tp (g (si i a)) v)) (g' := smG d.tp v (si i a) g) (ZC := nF) (ZRf := nF) hP hC hR (gb_sm hb) (fun _ q => q.elim) (fun _ q => q.elim) ?_ ?_
      · intro μ1 k1 hC1 hg1
        have hS : Sto d nF (7 + 7 + 1) cx μ1 (up μ1 (7 + 7 + 1) (cx (si i a)) (nI (sm d.tp (g (si i a)) v))) (smG d.tp v (si i a) g) := Sto.up (Sto.rf hg1) (cx_inj hd) hk
        refine ⟨_, ?_, hS⟩
        unfold fX8_grow
        simp only [Nat.zero_add]
        rw [c_hasValue_y hd LC7 hC.1 hi ha, bd_s, if_neg (by decide), show fX8_isStep LL (nI v) μ = some (1, μ) from q LL μ, bd_s, if_neg (by decide), k1, bv_s]
        unfold fX0_growSingle
        rw [c_singleAt, bd_s, ← cx_s hd hi ha, c_enlarge hd LC7 hC1 hg1 hb hk (by omega), bv_s, bv_s, c_single hd LC7 hS.2.2 hi ha, bd_s, smG, gu_at]
      · intro μ0 μ1 hR0 k1 hR1 hg1
        have hS : Sto d nF (56 + 6) ei μ1 (up μ1 (56 + 6) (ei (si i a)) (nI (sm d.tp (g (si i a)) v))) (smG d.tp v (si i a) g) := Sto.up (Sto.rf hg1) ei_inj hk
        refine ⟨_, ?_, hS⟩
        have b1 := hb _ hk
        unfold fX9_grow
        rw [q_isValue_y hd LR56 hR0.1 hi ha, bd_s, if_neg (by decide), show fX9_isIn LL (nI v) 1 99 μ0 = some (1, μ0) from q LL μ0, bd_s, if_neg (by decide), k1, bv_s, q_si, q_get hd LR56 hg1 hk, q_sum hd hR1 (by omega) (by omega), bd_s, q_put hd LR56 hk, q_get hd LR56 (g := smG d.tp v (si i a) g) hS.2.2 hk, smG, gu_at]
  · refine mk0 (r := -1) hI ?_ ?_
    · unfold fX8_grow
      simp only [Nat.zero_add]
      rw [c_hasValue_n hd LC7 hC.1 h1, bd_s, if_pos rfl]
    · unfold fX9_grow
      rw [q_isValue_n hd LR56 hR.1 h1, bd_s, if_pos rfl]
theorem Q11 : Q_11 Inv := by
  intro μ a1 a2 a3 a4 hI
  obtain ⟨d, g, c, h, tv, n, x, hP, hC, hR⟩ := id hI
  have hd := hP.1
  have hb := hP.2.2.1
  have htp := hd.2.2.2.2.2
  by_cases h1 : Ox d a1 a2 a3
  · obtain ⟨t, s, a, ht, hs, ha, rfl, rfl, rfl⟩ := h1
    rcases isIn_c a4 (a := 1) (b := 99) (by decide) (by decide) with q | ⟨v, hv1, hv, rfl, q⟩
    · refine mk0 (r := -1) hI ?_ ?_
      · unfold fX8_project
        simp only [Nat.zero_add]
        rw [c_hasOn_y hd LC7 hC.1 ht hs ha, bd_s, if_neg (by decide), show fX8_isStep LL a4 μ = some (0, μ) from q LL μ, bd_s, if_pos rfl]
      · unfold fX9_project
        rw [q_isMoved_n hd LR56 hR.1 (Or.inr q), bd_s, if_pos rfl]
    · have hm := mn_le (fun b => g (pk t s a b)) d.tp (d.z (d.nm (1 - s) t))
      have hat := mn_at (fun b => g (pk t s a b)) d.tp (d.z (d.nm (1 - s) t))
      by_cases hle : v ≤ mn (fun b => g (pk t s a b)) d.tp (d.z (d.nm (1 - s) t))
      · have hk := Sp.Us (d := d) (Sp.nm_lt hd (s := s) ht) ha
        refine mkM (r := nI (mvV d t s a v g (si (d.nm s t) a))) (g' := mvV d t s a v g) (ZC := nF) (ZRf := nF) hP hC hR (gb_mvV hd hb hs ht ha) (fun _ q => q.elim) (fun _ q => q.elim) ?_ ?_
        · intro μ1 k1 hC1 hg1
          obtain ⟨μ2, m1, m2⟩ := c_moveToValue hd LC7 hC1 (nZF 7) (Sto.rf hg1) hb hs ht ha (x := v) (by omega) (fun b hb2 => by have := hat b hb2; omega)
          refine ⟨μ2, ?_, m2⟩
          unfold fX8_project
          simp only [Nat.zero_add]
          rw [c_hasOn_y hd LC7 hC.1 ht hs ha, bd_s, if_neg (by decide), show fX8_isStep LL (nI v) μ = some (1, μ) from q LL μ, bd_s, if_neg (by decide), c_leastPairOf hd LC7 hC.1 hC.2.1 hb hs ht ha, bd_s, if_pos (nI_le hle (by omega)), k1, bv_s, m1, bv_s, c_nameOn hd LC7 (hC1.sto m2 (nZF 7)) hs ht, bd_s, c_single hd LC7 m2.2.2 (Sp.nm_lt hd ht) ha, bd_s]
        · intro μ0 μ1 hR0 k1 hR1 hg1
          obtain ⟨μ2, m1, m2⟩ := q_projects hd LR56 hR1 (rZF 56) (Sto.rf hg1) hb hs ht ha (x := v) (by omega) (fun b hb2 => by have := hat b hb2; omega)
          refine ⟨μ2, ?_, m2⟩
          unfold fX9_project
          rw [q_isMoved_y hd LR56 hR0.1 ht hs ha q, bd_s, if_neg (by decide), q_leastPair hd LR56 hR0.1 hR0.2.1 hb hs ht ha, bd_s, if_pos (nI_le hle (by omega)), k1, bv_s, m1, bv_s, q_nameOf hd LR56 (hR1.sto m2 (rZF 56)) hs ht, bd_s, q_si, q_get hd LR56 m2.2.2 hk]
      · refine mk0 (r := -2) hI ?_ ?_
        · unfold fX8_project
          simp only [Nat.zero_add]
          rw [c_hasOn_y hd LC7 hC.1 ht hs ha, bd_s, if_neg (by decide), show fX8_isStep LL (nI v) μ = some (1, μ) from q LL μ, bd_s, if_neg (by decide), c_leastPairOf hd LC7 hC.1 hC.2.1 hb hs ht ha, bd_s, if_neg (nI_ge (by omega) (by omega))]
        · unfold fX9_project
          rw [q_isMoved_y hd LR56 hR.1 ht hs ha q, bd_s, if_neg (by decide), q_leastPair hd LR56 hR.1 hR.2.1 hb hs ht ha, bd_s, if_neg (nI_ge (by omega) (by omega))]
  · refine mk0 (r := -1) hI ?_ ?_
    · unfold fX8_project
      simp only [Nat.zero_add]
      rw [c_hasOn_n hd LC7 hC.1 h1, bd_s, if_pos rfl]
    · unfold fX9_project
      rw [q_isMoved_n hd LR56 hR.1 (Or.inl h1), bd_s, if_pos rfl]
theorem Q12 : Q_12 Inv := by
  intro μ a1 a2 a3 a4 hI
  obtain ⟨d, g, c, h, tv, n, x, hP, hC, hR⟩ := id hI
  have hd := hP.1
  have hb := hP.2.2.1
  have htp := hd.2.2.2.2.2
  by_cases h1 : Ox d a1 a2 a3
  · obtain ⟨t, s, a, ht, hs, ha, rfl, rfl, rfl⟩ := h1
    have hk := Sp.Us (d := d) (Sp.nm_lt hd (s := s) ht) ha
    have b1 := hb _ hk
    rcases isIn_c a4 (a := 1) (b := 99) (by decide) (by decide) with q | ⟨v, hv1, hv, rfl, q⟩
    · refine mk0 (r := -1) hI ?_ ?_
      · unfold fX8_extend
        simp only [Nat.zero_add]
        rw [c_hasOn_y hd LC7 hC.1 ht hs ha, bd_s, if_neg (by decide), show fX8_isStep LL a4 μ = some (0, μ) from q LL μ, bd_s, if_pos rfl]
      · unfold fX9_extend
        rw [q_isMoved_n hd LR56 hR.1 (Or.inr q), bd_s, if_pos rfl]
    · by_cases hle : v ≤ g (si (d.nm s t) a)
      · refine mkM (r := nI (mvT d t s a v g (si (d.nm s t) a))) (g' := mvT d t s a v g) (ZC := nF) (ZRf := nF) hP hC hR (gb_mvT hd hb ht ha) (fun _ q => q.elim) (fun _ q => q.elim) ?_ ?_
        · intro μ1 k1 hC1 hg1
          obtain ⟨μ2, m1, m2⟩ := c_moveToTable hd LC7 hC1 (nZF 7) (Sto.rf hg1) hb hs ht ha (x := v) (by omega) hle
          refine ⟨μ2, ?_, m2⟩
          unfold fX8_extend
          simp only [Nat.zero_add]
          rw [c_hasOn_y hd LC7 hC.1 ht hs ha, bd_s, if_neg (by decide), show fX8_isStep LL (nI v) μ = some (1, μ) from q LL μ, bd_s, if_neg (by decide), c_nameOn hd LC7 hC.1 hs ht, bd_s, c_single hd LC7 hC.2.1 (Sp.nm_lt hd ht) ha, bd_s, if_pos (nI_le hle (by omega)), k1, bv_s, m1, bv_s, c_single hd LC7 m2.2.2 (Sp.nm_lt hd ht) ha, bd_s]
        · intro μ0 μ1 hR0 k1 hR1 hg1
          obtain ⟨μ2, m1, m2⟩ := q_extendsBy hd LR56 hR1 (rZF 56) (Sto.rf hg1) hb hs ht ha (x := v) (by omega) hle
          refine ⟨μ2, ?_, m2⟩
          unfold fX9_extend
          rw [q_isMoved_y hd LR56 hR0.1 ht hs ha q, bd_s, if_neg (by decide), q_nameOf hd LR56 hR0.1 hs ht, bd_s, q_si, q_get hd LR56 hR0.2.1 hk, if_pos (nI_le hle (by omega)), k1, bv_s, m1, bv_s, q_nameOf hd LR56 (hR1.sto m2 (rZF 56)) hs ht, bd_s, q_si, q_get hd LR56 m2.2.2 hk]
      · refine mk0 (r := -2) hI ?_ ?_
        · unfold fX8_extend
          simp only [Nat.zero_add]
          rw [c_hasOn_y hd LC7 hC.1 ht hs ha, bd_s, if_neg (by decide), show fX8_isStep LL (nI v) μ = some (1, μ) from q LL μ, bd_s, if_neg (by decide), c_nameOn hd LC7 hC.1 hs ht, bd_s, c_single hd LC7 hC.2.1 (Sp.nm_lt hd ht) ha, bd_s, if_neg (nI_ge (by omega) (by omega))]
        · unfold fX9_extend
          rw [q_isMoved_y hd LR56 hR.1 ht hs ha q, bd_s, if_neg (by decide), q_nameOf hd LR56 hR.1 hs ht, bd_s, q_si, q_get hd LR56 hR.2.1 hk, if_neg (nI_ge (by omega) (by omega))]
  · refine mk0 (r := -1) hI ?_ ?_
    · unfold fX8_extend
      simp only [Nat.zero_add]
      rw [c_hasOn_n hd LC7 hC.1 h1, bd_s, if_pos rfl]
    · unfold fX9_extend
      rw [q_isMoved_n hd LR56 hR.1 (Or.inl h1), bd_s, if_pos rfl]
theorem Q13 : Q_13 Inv := by
  intro μ a1 a2 hI
  obtain ⟨d, g, c, h, tv, n, x, hP, hC, hR⟩ := id hI
  have hd := hP.1
  have hb := hP.2.2.1
  have htp := hd.2.2.2.2.2
  by_cases h1 : Ix a1 d.N
  · obtain ⟨i, hi, rfl⟩ := h1
    rcases isIn_c a2 (a := 1) (b := 99) (by decide) (by decide) with q | ⟨v, hv1, hv, rfl, q⟩
    · refine mk0 (r := -1) hI ?_ ?_
      · unfold fX8_raise
        simp only [Nat.zero_add]
        rw [c_hasName_y hd hC.1 hi, bd_s, if_neg (by decide), show fX8_isStep LL a2 μ = some (0, μ) from q LL μ, bd_s, if_pos rfl]
      · unfold fX9_raise
        rw [q_isName_y hd hR.1 hi, bd_s, if_neg (by decide), show fX9_isIn LL a2 1 99 μ = some (0, μ) from q LL μ, bd_s, if_pos rfl]
    · have hm := mn_le (fun a => g (si i a)) d.tp (d.z i)
      have hat := mn_at (fun a => g (si i a)) d.tp (d.z i)
      by_cases hle : v ≤ mn (fun a => g (si i a)) d.tp (d.z i)
      · refine mkM (r := nI (mvC d i v g 168)) (g' := mvC d i v g) (ZC := nF) (ZRf := nF) hP hC hR (gb_mvC hb hi) (fun _ q => q.elim) (fun _ q => q.elim) ?_ ?_
        · intro μ1 k1 hC1 hg1
          obtain ⟨μ2, m1, m2⟩ := c_moveToConstant hd LC7 hC1 (nZF 7) (Sto.rf hg1) hb hi (x := v) (by omega) (fun b hb2 => by have := hat b hb2; omega)
          refine ⟨μ2, ?_, m2⟩
          unfold fX8_raise
          simp only [Nat.zero_add]
          rw [c_hasName_y hd hC.1 hi, bd_s, if_neg (by decide), show fX8_isStep LL (nI v) μ = some (1, μ) from q LL μ, bd_s, if_neg (by decide), c_leastSingle hd LC7 hC.1 hC.2.1 hb hi, bd_s, if_pos (nI_le hle (by omega)), k1, bv_s, m1, bv_s, c_constant hd LC7 m2.2.2, bd_s]
        · intro μ0 μ1 hR0 k1 hR1 hg1
          obtain ⟨μ2, m1, m2⟩ := q_raises hd LR56 hR1 (rZF 56) (Sto.rf hg1) hb hi (x := v) (by omega) (fun b hb2 => by have := hat b hb2; omega)
          refine ⟨μ2, ?_, m2⟩
          unfold fX9_raise
          rw [q_isName_y hd hR0.1 hi, bd_s, if_neg (by decide), show fX9_isIn LL (nI v) 1 99 μ0 = some (1, μ0) from q LL μ0, bd_s, if_neg (by decide), q_leastSingle hd LR56 hR0.1 hR0.2.1 hb hi, bd_s, if_pos (nI_le hle (by omega)), k1, bv_s, m1, bv_s, show (168 : Int32) = nI 168 from rfl, q_get hd LR56 m2.2.2 Sp.Uc]
      · refine mk0 (r := -2) hI ?_ ?_
        · unfold fX8_raise
          simp only [Nat.zero_add]
          rw [c_hasName_y hd hC.1 hi, bd_s, if_neg (by decide), show fX8_isStep LL (nI v) μ = some (1, μ) from q LL μ, bd_s, if_neg (by decide), c_leastSingle hd LC7 hC.1 hC.2.1 hb hi, bd_s, if_neg (nI_ge (by omega) (by omega))]
        · unfold fX9_raise
          rw [q_isName_y hd hR.1 hi, bd_s, if_neg (by decide), show fX9_isIn LL (nI v) 1 99 μ = some (1, μ) from q LL μ, bd_s, if_neg (by decide), q_leastSingle hd LR56 hR.1 hR.2.1 hb hi, bd_s, if_neg (nI_ge (by omega) (by omega))]
  · refine mk0 (r := -1) hI ?_ ?_
    · unfold fX8_raise
      simp only [Nat.zero_add]
      rw [c_hasName_n hd hC.1 h1, bd_s, if_pos rfl]
    · unfold fX9_raise
      rw [q_isName_n hd hR.1 h1, bd_s, if_pos rfl]
theorem gb_st (hd : d.ok) {kind : Nat} : ∀ (r n : Nat) (g : Nat → Nat), gb d g → gb d (stG d kind r n g).2
  | 0, _, _, hb => hb
  | r + 1, n, g, hb => by
    unfold stG
    split
    · exact gb_sw hd hb kind
    · exact gb_st hd r (n + 1) _ (gb_sw hd hb kind)
theorem Q15 : Q_15 Inv := by
  intro μ a1 hI
  obtain ⟨d, g, c, h, tv, n, x, hP, hC, hR⟩ := id hI
  have hd := hP.1
  have hb := hP.2.2.1
  rcases isIn_c a1 (a := 0) (b := 2) (by decide) (by decide) with q | ⟨v, _, hv, rfl, q⟩
  · refine mk0 (r := -1) hI ?_ ?_
    · unfold fX8_settle
      rw [show fX8_isSweep LL a1 μ = some (0, μ) from q LL μ, bd_s, if_pos rfl]
    · unfold fX9_settle
      rw [show fX9_isIn LL a1 0 2 μ = some (0, μ) from q LL μ, bd_s, if_pos rfl]
  · refine mkM (r := nI (stG d v 20 0 g).1) (g' := (stG d v 20 0 g).2) (ZC := ZS 27) (ZRf := ZQ 56) hP hC hR (gb_st hd 20 0 g hb) (fun x q => by unfold ZS at q; omega) (fun x q => by unfold ZQ at q; omega) ?_ ?_
    · intro μ1 k1 hC1 hg1
      obtain ⟨μ2, m1, m2⟩ := s_settle hd LC7 LS27 (by decide) hC1 (Sto.rf hg1) hb (kind := v) (by omega)
      refine ⟨μ2, ?_, m2⟩
      unfold fX8_settle
      simp only [Nat.zero_add]
      rw [show fX8_isSweep LL (nI v) μ = some (1, μ) from q LL μ, bd_s, if_neg (by decide), k1, bv_s, m1, bd_s]
    · intro μ0 μ1 hR0 k1 hR1 hg1
      obtain ⟨μ2, m1, m2⟩ := q_settle hd LR56 hR1 (Sto.rf hg1) hb (kind := v) (by omega)
      refine ⟨μ2, ?_, m2⟩
      unfold fX9_settle
      rw [show fX9_isIn LL (nI v) 0 2 μ0 = some (1, μ0) from q LL μ0, bd_s, if_neg (by decide), k1, bv_s, m1, bd_s]
end PM
