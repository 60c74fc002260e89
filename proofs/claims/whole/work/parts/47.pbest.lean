/-! what is best -/
section PB2
variable {μ : Mem} {d : Sp} {g : Nat → Nat} {c : Nat} {h : Nat → Nat → Nat} {tv : Nat → Nat} {n : Nat} {x : Nat → Nat}
theorem none_n (hd : d.ok) {v : Int32} (hv : v < 0) : ∀ k, k < d.N → (nI k = v ↔ k = 1000) := by
  intro k hk
  have hN := hd.1
  refine ⟨fun q => ?_, fun q => by omega⟩
  subst q
  exact absurd hv (nI_pos (by omega))
theorem CI.find {vi va vo : Int32} {wo fi fa : Nat} (H : CI μ d g c h tv n x) (hd : d.ok) (hb : gb d g) (hvi : ∀ k, k < d.N → (nI k = vi ↔ k = fi)) (hva : ∀ a, a < 4 → fi < d.N → (nI a = va ↔ a = fa)) (hvo : ∀ t, t < d.T → (nI t = vo ↔ t = wo)) : ∃ μ1, fX4_goThrough LL 48 7 vi va vo μ = some μ1 ∧ CI μ1 d g c h tv n x ∧ (∀ x, 56 ≤ x → μ1 x = μ x) ∧ μ1 48 5 = nI d.tp ∧ Sr 48 μ1 d (Fin d g wo fi fa) := by
  obtain ⟨μ1, s1, s2, s3, s4⟩ := c_goThrough (w := 48) (o := 7) hd LC7 (by decide) rfl rfl H.1 H.2.1 hb hvi hva hvo
  exact ⟨μ1, s1, H.fr (fun x hx => s2 x (by unfold kc at hx; omega) (by unfold kc at hx; omega) (by unfold kc at hx; omega)), fun x hx => s2 x (by omega) (by omega) (by omega), s3, s4⟩
theorem CI.find0 (H : CI μ d g c h tv n x) (hd : d.ok) (hb : gb d g) : ∃ μ1, fX4_goThrough LL 48 7 (-1) 0 (-1) μ = some μ1 ∧ CI μ1 d g c h tv n x ∧ (∀ x, 56 ≤ x → μ1 x = μ x) ∧ μ1 48 5 = nI d.tp ∧ Sr 48 μ1 d (Fin d g 1000 1000 0) := H.find hd hb (none_n hd (by decide)) (fun a _ q => by have := hd.1; omega) (none_w d hd (by decide))
theorem RI.rk {μ' : Mem} (H : RI μ d g c h tv n x) (hk : Rk 56 μ' μ) : RI μ' d g c h tv n x ∧ ∀ x, x < 56 → μ' x = μ x := ⟨H.fr (fun j hj => hk.2 j (by omega)) (fun x h1 h2 => hk.1 x (by omega) (by omega) (by omega)), fun x hx => hk.1 x (by omega) (by omega) (by omega)⟩
theorem RI.find (H : RI μ d g c h tv n x) (hd : d.ok) (hb : gb d g) : ∃ μ1, fX9_looks LL 56 μ = some μ1 ∧ RI μ1 d g c h tv n x ∧ (∀ x, x < 56 → μ1 x = μ x) ∧ Rr 56 μ1 d (Fin d g 1000 1000 0) := by
  obtain ⟨μ1, s1, s2, s3⟩ := q_looks hd LR56 H.1 H.2.1 hb
  exact ⟨μ1, s1, (H.rk s2).1, (H.rk s2).2, s3⟩
theorem Fin_J (d : Sp) (g : Nat → Nat) (w fi fa : Nat) : J6 d (Fin d g w fi fa) := fo_J6 (J6_0 d) (dg d) _
theorem Fin_b (hd : d.ok) (g : Nat → Nat) (w fi fa : Nat) : (Fin d g w fi fa).2.2.1 ≤ 4096 ∧ (Fin d g w fi fa).2.2.2.1 ≤ 4096 := by
  have h1 := fo_b6 (d := d) (g := g) (w := w) (fi := fi) (fa := fa) (s := s0 d) rfl rfl (dg d) (Wc d d.N 0)
  have h2 := Wc_top hd
  unfold Fin
  omega
theorem c_found {s : S6} (hs : Sr 48 μ d s) (hb : s.2.2.1 ≤ 4096) : fX4_hasFound LL 48 μ = some ((if s.2.2.1 = 0 then 0 else 1), μ) := by
  unfold fX4_hasFound
  rw [hs.2.2.1]
  by_cases q : s.2.2.1 = 0
  · rw [if_pos q, q, if_pos (by decide)]
  · rw [if_neg q, if_neg (nI_nle (by omega) (by omega))]
theorem Q20 : Q_20 Inv := by
  intro μ hI
  obtain ⟨d, g, c, h, tv, n, x, hP, hC, hR⟩ := id hI
  have hd := hP.1
  have hb := hP.2.2.1
  have hJ := Fin_J d g 1000 1000 0
  have hB := Fin_b hd g 1000 1000 0
  refine mkQ (r := if (Fin d g 1000 1000 0).2.2.1 = 0 then -4 else (Fin d g 1000 1000 0).2.2.2.2.1) hR hP ?_ ?_
  · obtain ⟨μ1, s1, s2, s3, s4, s5⟩ := hC.find0 hd hb
    refine ⟨μ1, ?_, s2, s3⟩
    unfold fX8_backbone fX4_commonValues
    simp only [Nat.zero_add]
    rw [s1, bv_s, c_found s5 hB.1, bd_s, bd_s, s5.2.2.2.2.1]
    split
    · rw [if_pos rfl]
    · rw [if_neg (by decide)]
  · intro μ0 hR0
    obtain ⟨μ1, s1, s2, s3, s4⟩ := hR0.find hd hb
    refine ⟨μ1, ?_, s2, s3⟩
    unfold fX9_backbone
    rw [s1, bv_s, s4.2.2.2.1]
    by_cases q : (Fin d g 1000 1000 0).2.2.1 = 0
    · rw [if_pos q, hJ.2.2.1.mp q, if_pos (by decide)]
    · rw [if_neg q, if_neg (nI_ne0 (by have := hJ.2.2.1.mpr; omega) (by omega)), (s4.2.2.2.2 (by omega)).1]
theorem Q19 : Q_19 Inv := by
  intro μ a1 hI
  obtain ⟨d, g, c, h, tv, n, x, hP, hC, hR⟩ := id hI
  have hd := hP.1
  have hb := hP.2.2.1
  have htp := hd.2.2.2.2.2
  have hJ := Fin_J d g 1000 1000 0
  have hB := Fin_b hd g 1000 1000 0
  rcases isIn_c a1 (a := 0) (b := 1) (by decide) (by decide) with q | ⟨v, _, hv, rfl, q⟩
  · refine mk0 (r := -1) hI ?_ ?_
    · unfold fX8_next
      rw [if_neg (show ¬ a1 = (0 : Int32) from isIn_ne (k := 0) (by decide) q (by decide) (by decide)), if_neg (show ¬ a1 = (1 : Int32) from isIn_ne (k := 1) (by decide) q (by decide) (by decide))]
    · unfold fX9_next
      rw [show fX9_isIn LL a1 0 1 μ = some (0, μ) from q LL μ, bd_s, if_pos rfl]
  · have e1 : fX8_next LL 0 (nI v) μ = fX8_next_11 LL 0 (nI v) μ := by
      unfold fX8_next
      rcases (show v = 0 ∨ v = 1 by omega) with rfl | rfl
      · rw [if_pos (by decide)]
      · rw [if_neg (by decide), if_pos (by decide)]
    have hlt : (Fin d g 1000 1000 0).2.1 ≤ d.tp := hJ.2.1
    rcases (show v = 0 ∨ v = 1 by omega) with rfl | rfl
    · refine mkQ (r := if (Fin d g 1000 1000 0).2.1 < d.tp then nI (Fin d g 1000 1000 0).2.1 else -4) hR hP ?_ ?_
      · obtain ⟨μ1, s1, s2, s3, s4, s5⟩ := hC.find0 hd hb
        refine ⟨μ1, ?_, s2, s3⟩
        rw [e1]
        unfold fX8_next_11 fX4_hasSecond fX4_secondTotal
        simp only [Nat.zero_add]
        rw [s1, bv_s, if_neg (by decide), s4, s5.2.1]
        by_cases q2 : (Fin d g 1000 1000 0).2.1 < d.tp
        · rw [if_pos q2, if_neg (nI_ge q2 (by omega)), bd_s, if_neg (by decide), bd_s, s5.2.1]
        · rw [if_neg q2, if_pos (nI_le (by omega) (by omega)), bd_s, if_pos rfl]
      · intro μ0 hR0
        obtain ⟨μ1, s1, s2, s3, s4⟩ := hR0.find hd hb
        refine ⟨μ1, ?_, s2, s3⟩
        unfold fX9_next
        rw [show fX9_isIn LL (nI 0) 0 1 μ0 = some (1, μ0) from q LL μ0, bd_s, if_neg (by decide), s1, bv_s, if_neg (by decide), s2.1.2.2.1, s4.2.1]
        by_cases q2 : (Fin d g 1000 1000 0).2.1 < d.tp
        · rw [if_pos q2, if_neg (nI_ge q2 (by omega))]
        · rw [if_neg q2, if_pos (nI_le (by omega) (by omega))]
    · refine mkQ (r := nI (Fin d g 1000 1000 0).2.2.2.1) hR hP ?_ ?_
      · obtain ⟨μ1, s1, s2, s3, s4, s5⟩ := hC.find0 hd hb
        refine ⟨μ1, ?_, s2, s3⟩
        rw [e1]
        unfold fX8_next_11 fX4_choicesBelowTop
        simp only [Nat.zero_add]
        rw [s1, bv_s, if_pos (by decide), bd_s, s5.2.2.2.1]
      · intro μ0 hR0
        obtain ⟨μ1, s1, s2, s3, s4⟩ := hR0.find hd hb
        refine ⟨μ1, ?_, s2, s3⟩
        unfold fX9_next
        rw [show fX9_isIn LL (nI 1) 0 1 μ0 = some (1, μ0) from q LL μ0, bd_s, if_neg (by decide), s1, bv_s, if_pos (by decide), s4.2.2.2.1]
theorem Q21 : Q_21 Inv := by
  intro μ a1 a2 hI
  obtain ⟨d, g, c, h, tv, n, x, hP, hC, hR⟩ := id hI
  have hd := hP.1
  have hN := hd.1
  have hb := hP.2.2.1
  have htp := hd.2.2.2.2.2
  by_cases h1 : Vx d a1 a2
  · obtain ⟨i, a, hi, ha, rfl, rfl⟩ := h1
    have hz := Sp.hz hd hi
    have hJ := Fin_J d g 1000 i a
    have hB := Fin_b hd g 1000 i a
    refine mkQ (r := if (Fin d g 1000 i a).1 < d.tp then nI (Fin d g 1000 i a).1 else -4) hR hP ?_ ?_
    · obtain ⟨μ1, s1, s2, s3, s4, s5⟩ := hC.find (wo := 1000) (vo := -1) (vi := nI i) (va := nI a) (fi := i) (fa := a) hd hb (fun k hk => nI_eq (by omega) (by omega)) (fun b hb _ => nI_eq (by omega) (by omega)) (none_w d hd (by decide))
      refine ⟨μ1, ?_, s2, s3⟩
      unfold fX8_with fX4_leastTotal
      simp only [Nat.zero_add]
      rw [c_hasValue_y hd LC7 hC.1 hi ha, bd_s, if_neg (by decide), s1, bv_s, c_found s5 hB.1, bd_s, bd_s, s5.1]
      by_cases q : (Fin d g 1000 i a).2.2.1 = 0
      · rw [if_pos q, if_pos rfl, if_neg (by have := hJ.2.2.2.1 q; omega)]
      · rw [if_neg q, if_neg (by decide), if_pos (hJ.2.2.2.2 (by omega))]
    · intro μ0 hR0
      obtain ⟨μ1, s1, s2⟩ := q_least (vi := nI i) (va := nI a) (vo := -4) (wo := 1000) (fi := i) (fa := a) hd LR56 hR0.1 hR0.2.1 hb (none_w d hd (by decide)) (Or.inr ⟨rfl, hi, rfl, by omega⟩)
      refine ⟨μ1, ?_, (hR0.rk s2).1, (hR0.rk s2).2⟩
      unfold fX9_with
      rw [q_isValue_y hd LR56 hR0.1 hi ha, bd_s, if_neg (by decide), s1, bd_s]
  · refine mk0 (r := -1) hI ?_ ?_
    · unfold fX8_with
      simp only [Nat.zero_add]
      rw [c_hasValue_n hd LC7 hC.1 h1, bd_s, if_pos rfl]
    · unfold fX9_with
      rw [q_isValue_n hd LR56 hR.1 h1, bd_s, if_pos rfl]
theorem Q22 : Q_22 Inv := by
  intro μ a1 hI
  obtain ⟨d, g, c, h, tv, n, x, hP, hC, hR⟩ := id hI
  have hd := hP.1
  have hN := hd.1
  have hT := hd.2.2.1
  have hb := hP.2.2.1
  have htp := hd.2.2.2.2.2
  by_cases h1 : Ix a1 d.T
  · obtain ⟨t, ht, rfl⟩ := h1
    have hJ := Fin_J d g t 1000 0
    have hB := Fin_b hd g t 1000 0
    refine mkQ (r := if (Fin d g t 1000 0).1 < d.tp then nI (Fin d g t 1000 0).1 else -4) hR hP ?_ ?_
    · obtain ⟨μ1, s1, s2, s3, s4, s5⟩ := hC.find (wo := t) (vo := nI t) (vi := -1) (va := 0) (fi := 1000) (fa := 0) hd hb (none_n hd (by decide)) (fun b hb q => by omega) (fun t' ht' => nI_eq (by omega) (by omega))
      refine ⟨μ1, ?_, s2, s3⟩
      unfold fX8_without fX4_leastTotal
      simp only [Nat.zero_add]
      rw [c_hasTable_y hd hC.1 ht, bd_s, if_neg (by decide), s1, bv_s, c_found s5 hB.1, bd_s, bd_s, s5.1]
      by_cases q : (Fin d g t 1000 0).2.2.1 = 0
      · rw [if_pos q, if_pos rfl, if_neg (by have := hJ.2.2.2.1 q; omega)]
      · rw [if_neg q, if_neg (by decide), if_pos (hJ.2.2.2.2 (by omega))]
    · intro μ0 hR0
      obtain ⟨μ1, s1, s2⟩ := q_least (vi := -4) (va := 0) (vo := nI t) (wo := t) (fi := 1000) (fa := 0) hd LR56 hR0.1 hR0.2.1 hb (fun t' ht' => nI_eq (by omega) (by omega)) (Or.inl ⟨by decide, by omega⟩)
      refine ⟨μ1, ?_, (hR0.rk s2).1, (hR0.rk s2).2⟩
      unfold fX9_without
      rw [q_isTable_y hd hR0.1 ht, bd_s, if_neg (by decide), s1, bd_s]
  · refine mk0 (r := -1) hI ?_ ?_
    · unfold fX8_without
      simp only [Nat.zero_add]
      rw [c_hasTable_n hd hC.1 h1, bd_s, if_pos rfl]
    · unfold fX9_without
      rw [q_isTable_n hd hR.1 h1, bd_s, if_pos rfl]
theorem Q18 : Q_18 Inv := by
  intro μ a1 hI
  obtain ⟨d, g, c, h, tv, n, x, hP, hC, hR⟩ := id hI
  have hd := hP.1
  have hN := hd.1
  have hb := hP.2.2.1
  have htp := hd.2.2.2.2.2
  have hJ := Fin_J d g 1000 1000 0
  have hB := Fin_b hd g 1000 1000 0
  have hbz : ¬ (Fin d g 1000 1000 0).2.2.1 = 0 → 0 < (Fin d g 1000 1000 0).2.2.2.1 := fun q => by have := hJ.2.2.1.mpr; omega
  have hdom : (¬ (a1 = -1 ∨ a1 = -2 ∨ Ix a1 d.N) ∧ ∀ μ, fX9_isIn LL a1 (-2) (nI d.N - 1) μ = some (0, μ)) ∨ ((a1 = -1 ∨ a1 = -2 ∨ Ix a1 d.N) ∧ ∀ μ, fX9_isIn LL a1 (-2) (nI d.N - 1) μ = some (1, μ)) := by
    by_cases q : a1 = -1 ∨ a1 = -2 ∨ Ix a1 d.N
    · right
      refine ⟨q, fun μ => ?_⟩
      unfold fX9_isIn
      simp only [sub1_lt a1 (show d.N < 2 ^ 30 by omega)]
      rcases q with rfl | rfl | ⟨j, hj, rfl⟩
      · rw [if_neg (by decide), if_neg (fun e => absurd (Int32.le_trans (nI_pos' (show d.N < 2 ^ 31 by omega)) e) (by decide))]
      · rw [if_neg (by decide), if_neg (fun e => absurd (Int32.le_trans (nI_pos' (show d.N < 2 ^ 31 by omega)) e) (by decide))]
      · rw [if_neg (fun e => nI_pos (show j < 2 ^ 31 by omega) (Int32.lt_trans e (by decide))), if_neg (nI_ge hj (by omega))]
    · left
      refine ⟨q, fun μ => ?_⟩
      unfold fX9_isIn
      simp only [sub1_lt a1 (show d.N < 2 ^ 30 by omega)]
      rcases pk_ix a1 (show d.N < 2 ^ 31 by omega) with e | e | e
      · have h2 : a1 < -2 := by
          rw [Int32.lt_iff_toInt_lt] at e ⊢
          have n1 : a1.toInt ≠ (-1 : Int32).toInt := fun z => q (Or.inl (Int32.toInt_inj.mp z))
          have n2 : a1.toInt ≠ (-2 : Int32).toInt := fun z => q (Or.inr (Or.inl (Int32.toInt_inj.mp z)))
          have e0 : (0 : Int32).toInt = 0 := rfl
          have e1 : (-1 : Int32).toInt = -1 := rfl
          have e2 : (-2 : Int32).toInt = -2 := rfl
          omega
        rw [if_pos h2]
      · rw [if_pos e]
        split <;> rfl
      · exact absurd (Or.inr (Or.inr e)) q
  rcases hdom with ⟨q, e⟩ | ⟨q, e⟩
  · refine mk0 (r := -1) hI ?_ ?_
    · unfold fX8_best
      simp only [Nat.zero_add]
      rw [if_neg (fun z => q (Or.inl z)), if_neg (fun z => q (Or.inr (Or.inl z))), c_hasName_n hd hC.1 (fun z => q (Or.inr (Or.inr z))), bd_s, if_pos rfl]
    · unfold fX9_best
      rw [hR.1.1, e, bd_s, if_pos rfl]
  · have e1 : fX8_best LL 0 a1 μ = fX8_best_24 LL 0 a1 μ := by
      unfold fX8_best
      simp only [Nat.zero_add]
      by_cases q1 : a1 = -1
      · rw [if_pos q1]
      · by_cases q2 : a1 = -2
        · rw [if_neg q1, if_pos q2]
        · rcases q with q | q | ⟨j, hj, rfl⟩
          · exact absurd q q1
          · exact absurd q q2
          · rw [if_neg q1, if_neg q2, c_hasName_y hd hC.1 hj, bd_s, if_neg (by decide)]
    have fin : ∀ (r : Int32), (∀ μ1, Sr 48 μ1 d (Fin d g 1000 1000 0) → (if (Fin d g 1000 1000 0).2.2.1 = 0 then some ((-4 : Int32), μ1) else (if a1 = (-2 : Int32) then bd (fX4_waysOfLeast LL 48 μ1) (fun b5 μ4 => some (b5, μ4)) else (if a1 = (-1 : Int32) then bd (fX4_leastTotal LL 48 μ1) (fun b7 μ6 => some (b7, μ6)) else bd (fX4_firstValueOf LL 48 a1 μ1) (fun b9 μ8 => some (b9, μ8))))) = some (r, μ1)) → (∀ μ1, Rr 56 μ1 d (Fin d g 1000 1000 0) → (if (Fin d g 1000 1000 0).2.2.1 = 0 then some ((-4 : Int32), μ1) else (if a1 = (-1 : Int32) then some ((μ1 56 26), μ1) else (if a1 = (-2 : Int32) then some ((μ1 56 27), μ1) else ald LL μ1 (56 + 16) a1 (fun a4 => some (a4, μ1))))) = some (r, μ1)) → ∃ (r : Int32) (μ1 μ2 : Mem), fX8_best LL 0 a1 μ = some (r, μ1) ∧ fX9_best LL 56 a1 μ1 = some (r, μ2) ∧ Inv μ2 := by
      intro r f1 f2
      refine mkQ (r := r) hR hP ?_ ?_
      · obtain ⟨μ1, s1, s2, s3, s4, s5⟩ := hC.find0 hd hb
        refine ⟨μ1, ?_, s2, s3⟩
        rw [e1]
        unfold fX8_best_24
        simp only [Nat.zero_add]
        rw [s1, bv_s, c_found s5 hB.1, bd_s, ← f1 μ1 s5]
        by_cases qz : (Fin d g 1000 1000 0).2.2.1 = 0
        · rw [if_pos qz, if_pos qz, if_pos rfl]
        · rw [if_neg qz, if_neg qz, if_neg (by decide)]
      · intro μ0 hR0
        obtain ⟨μ1, s1, s2, s3, s4⟩ := hR0.find hd hb
        refine ⟨μ1, ?_, s2, s3⟩
        unfold fX9_best
        rw [hR0.1.1, e, bd_s, if_neg (by decide), s1, bv_s, s4.2.2.2.1, ← f2 μ1 s4]
        by_cases qz : (Fin d g 1000 1000 0).2.2.1 = 0
        · rw [if_pos qz, hJ.2.2.1.mp qz, if_pos (by decide)]
        · rw [if_neg qz, if_neg (nI_ne0 (hbz qz) (by omega))]
    by_cases qz : (Fin d g 1000 1000 0).2.2.1 = 0
    · exact fin (-4) (fun μ1 _ => by rw [if_pos qz]) (fun μ1 _ => by rw [if_pos qz])
    · rcases q with rfl | rfl | ⟨j, hj, rfl⟩
      · refine fin (nI (Fin d g 1000 1000 0).1) (fun μ1 s => ?_) (fun μ1 s => ?_)
        · unfold fX4_leastTotal
          rw [if_neg qz, if_neg (by decide), if_pos rfl, bd_s, s.1]
        · rw [if_neg qz, if_pos rfl, s.1]
      · refine fin (nI (Fin d g 1000 1000 0).2.2.1) (fun μ1 s => ?_) (fun μ1 s => ?_)
        · unfold fX4_waysOfLeast
          rw [if_neg qz, if_pos rfl, bd_s, s.2.2.1]
        · rw [if_neg qz, if_neg (by decide), if_pos rfl, s.2.2.1]
      · have n1 : ¬ nI j = (-1 : Int32) := fun z => nI_pos (show j < 2 ^ 31 by omega) (by rw [z]; decide)
        have n2 : ¬ nI j = (-2 : Int32) := fun z => nI_pos (show j < 2 ^ 31 by omega) (by rw [z]; decide)
        have h52 : LL (48 + 3 + 1) = 6 := rfl
        have h72 : LL (56 + 16) = 6 := rfl
        refine fin (nI ((Fin d g 1000 1000 0).2.2.2.2.2 j)) (fun μ1 s => ?_) (fun μ1 s => ?_)
        · unfold fX4_firstValueOf
          rw [if_neg qz, if_neg n2, if_neg n1, rget h52 (by omega) (by decide), bd_s, bd_s, s.2.2.2.2.2 (by omega) j hj]
        · rw [if_neg qz, if_neg n1, if_neg n2, ald_s (by omega) (by omega), (s.2.2.2.2 (by omega)).2 j hj]
end PB2
