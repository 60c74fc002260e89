/-! the reference reads all; laying -/
section PRt
variable {L : Nat → Nat} {o : Nat} {μ μ0 : Mem} {n : Nat} {x : Nat → Nat} {d : Sp} {g v : Nat → Nat}
theorem res_zr {c s : Nat} {z : Option (Int32 × Mem)} (h : Res o μ n x d g c s z) : Res o μ n x d g c s (bd z (fun b μ => zr b μ)) := by
  obtain ⟨μ', hf, h | h⟩ := h
  · obtain ⟨e, h⟩ := h
    rw [e]
    exact ⟨μ', hf, Or.inl ⟨rfl, h⟩⟩
  · obtain ⟨e, h⟩ := h
    rw [e]
    exact ⟨μ', hf, Or.inr ⟨rfl, h⟩⟩
theorem q_readsItem (hP : PS d g) (hL : LR L o) (hT : RT o μ n x) (hn : n ≤ 200) (hx : ∀ j, j < n → 32 ≤ x j ∧ x j ≤ 126) (hK : KR o μ d g) {c s : Nat} (hc : c ≤ 126) (hs : s ≤ 300) : Res o μ n x d g c s (fX9_readsItem L o (nI c) (nI s) μ) := by
  unfold fX9_readsItem
  by_cases q0 : mk c = 0
  · have e : ∀ k : Nat, k < 2 ^ 31 → 0 < mk k → ¬ nI c = nI k := fun k hk hm q => by
      have := (nI_eq (by omega) hk).mp q
      rw [this] at q0
      omega
    rw [if_neg (show ¬ nI c = (98 : Int32) from e 98 (by decide) (by decide)), if_neg (show ¬ nI c = (99 : Int32) from e 99 (by decide) (by decide)), if_neg (show ¬ nI c = (116 : Int32) from e 116 (by decide) (by decide)), if_neg (show ¬ nI c = (117 : Int32) from e 117 (by decide) (by decide)), if_neg (show ¬ nI c = (118 : Int32) from e 118 (by decide) (by decide))]
    exact Res.no ⟨fun _ _ _ _ _ _ => rfl, fun _ _ => rfl⟩ rfl (fun z => mk_0 q0 _ _ z.2.2)
  · rcases mk_c (show 0 < mk c by omega) with rfl | rfl | rfl | rfl | rfl
    · rw [if_pos (by decide)]
      exact res_zr (q_readsTable hP hL hT hn hx hK hs)
    · rw [if_neg (by decide), if_pos (by decide)]
      exact res_zr (q_readsPair hP hL hT hn hx hK hs)
    · rw [if_neg (by decide), if_neg (by decide), if_pos (by decide)]
      exact q_readsTop hP hL hT hn hx hK hs
    · rw [if_neg (by decide), if_neg (by decide), if_neg (by decide), if_pos (by decide)]
      exact res_zr (q_readsSingle hP hL hT hn hx hK hs)
    · rw [if_neg (by decide), if_neg (by decide), if_neg (by decide), if_neg (by decide), if_pos (by decide)]
      exact res_zr (q_readsName hP hL hT hn hx hK hs)
theorem Ok_Nd {p : Nat} : Ok n x d p ↔ (Nd n x d (x p) (p + 1) ∧ nx n x (qs n x (p + 1) (mk (x p) - 1)) < n ∧ x (nx n x (qs n x (p + 1) (mk (x p) - 1))) = 59) := by
  constructor
  · intro ⟨h1, h2⟩
    have hm : 0 < mk (x p) := by
      by_cases q : mk (x p) = 0
      · exact absurd h2 (mk_0 q _ _)
      · omega
    refine ⟨⟨fun k hk => (h1 k hk).1, fun k hk => ?_, h2⟩, ?_⟩
    · have := (h1 k (by omega)).2
      rw [if_neg (by omega)] at this
      exact this
    · have := (h1 (mk (x p) - 1) (by omega)).2
      rw [if_pos (by omega)] at this
      exact this
  · intro ⟨⟨h1, h2, h3⟩, h4⟩
    refine ⟨fun k hk => ⟨h1 k hk, ?_⟩, h3⟩
    by_cases q : k + 1 = mk (x p)
    · rw [if_pos q, show k = mk (x p) - 1 by omega]
      exact h4
    · rw [if_neg q]
      exact h2 k (by omega)
theorem q_reads (hL : LR L o) (hT : RT o μ n x) (hn : n ≤ 200) (hx : ∀ j, j < n → 32 ≤ x j ∧ x j ≤ 126) :
    ∃ μ', fX9_reads L o μ = some (fr (Rd n x (n + 1) 0 d0 (fun _ => 0)).1, μ') ∧ FrX o μ' μ ∧ ((Rd n x (n + 1) 0 d0 (fun _ => 0)).1 = none → KR o μ' (Rd n x (n + 1) 0 d0 (fun _ => 0)).2.1 (Rd n x (n + 1) 0 d0 (fun _ => 0)).2.2) := by
  have h1 := hL.1
  have h12 := hL.2.2.2.2.2.2.2.2.2.2.2.1
  have key : ∀ (r p f : Nat) (d : Sp) (g : Nat → Nat) (μ' : Mem), n < p + r → p ≤ n → r < f → PS d g → FrX o μ' μ → KR o μ' d g →
      ∃ μ2, fX9_reads_40 L o f (nI p) μ' = some (fr (Rd n x r p d g).1, μ2) ∧ FrX o μ2 μ ∧ ((Rd n x r p d g).1 = none → KR o μ2 (Rd n x r p d g).2.1 (Rd n x r p d g).2.2) := by
    intro r
    induction r with
    | zero => intro p f d g μ' h1 h2; omega
    | succ r ih =>
      intro p f d g μ' h1 h2 h4 hP hF hK
      obtain ⟨f, rfl⟩ : ∃ j, f = j + 1 := ⟨f - 1, by omega⟩
      have hT1 := hT.frx hF
      simp only [fX9_reads_40]
      unfold fX9_reads_40_b
      rw [hT1.1]
      by_cases q : n ≤ p
      · have eR : Rd n x (r + 1) p d g = (none, d, g) := by unfold Rd; rw [if_pos q]
        rw [if_pos (nI_le q (by omega)), eR]
        exact ⟨μ', rfl, hF, fun _ => hK⟩
      · have hxp := hx p (by omega)
        rw [if_neg (nI_ge (by omega) (by omega)), ald_s (by omega) (by omega), hT1.2 p (by omega), nI_1]
        obtain ⟨μ2, f2, h5⟩ := q_readsItem hP hL hT1 hn hx hK (c := x p) (s := p + 1) (by omega) (by omega)
        have hF2 := FrX.trans hF f2
        rcases h5 with ⟨e, h6, h7, h8⟩ | ⟨e, h6⟩
        · have hm : 0 < mk (x p) := by
            by_cases q : mk (x p) = 0
            · exact absurd h6.2.2 (mk_0 q _ _)
            · omega
          have hml := mk_le (x p)
          have hq := qs_le n x (p + 1) (mk (x p) - 1)
          have hnx := nx_le n x (qs n x (p + 1) (mk (x p) - 1))
          rw [e, bd_s, if_neg (by decide), h8, q_letterAt hL (hT.frx hF2) hn (by omega), bd_s, h8, ltx_s, nI_1]
          by_cases q2 : nx n x (qs n x (p + 1) (mk (x p) - 1)) < n ∧ x (nx n x (qs n x (p + 1) (mk (x p) - 1))) = 59
          · have hOk : Ok n x d p := Ok_Nd.mpr ⟨h6, q2⟩
            have eR : Rd n x (r + 1) p d g = Rd n x r (qs n x (p + 1) (mk (x p))) (dN (x p) d (vs n x (p + 1))) (gN (x p) d g (vs n x (p + 1))) := by
              conv => lhs; unfold Rd
              rw [if_neg q, if_pos hOk]
            have eq : nx n x (qs n x (p + 1) (mk (x p) - 1)) + 1 = qs n x (p + 1) (mk (x p)) := by
              obtain ⟨m', hm'⟩ : ∃ m', mk (x p) = m' + 1 := ⟨mk (x p) - 1, by omega⟩
              rw [hm']
              rfl
            rw [if_pos (show lr n x (nx n x (qs n x (p + 1) (mk (x p) - 1))) = (59 : Int32) from (lr_is (c := 59) hx (by decide) (by decide)).mpr q2), eq, eR]
            exact ih _ f _ _ μ2 (by omega) (by omega) (by omega) (PS_step hP h6.2.2) hF2 h7
          · have hOk : ¬ Ok n x d p := fun z => q2 (Ok_Nd.mp z).2
            have eR : Rd n x (r + 1) p d g = (some p, d, g) := by unfold Rd; rw [if_neg q, if_neg hOk]
            rw [if_neg (show ¬ lr n x (nx n x (qs n x (p + 1) (mk (x p) - 1))) = (59 : Int32) from fun z => q2 ((lr_is (c := 59) hx (by decide) (by decide)).mp z)), eR]
            exact ⟨μ2, rfl, hF2, fun z => absurd z (by simp)⟩
        · have hOk : ¬ Ok n x d p := fun z => h6 (Ok_Nd.mp z).1
          have eR : Rd n x (r + 1) p d g = (some p, d, g) := by unfold Rd; rw [if_neg q, if_neg hOk]
          rw [e, bd_s, if_pos rfl, eR]
          exact ⟨μ2, rfl, hF2, fun z => absurd z (by simp)⟩
  unfold fX9_reads
  simp only [pu_s]
  refine Exists.elim (lpI (fun k a μ => fX9_reads_18 L o k (nI a) μ) (fun μ => fX9_reads_40 L o FU (0 : Int32) μ) (fun a μ' => (∀ x, x ≠ o + 12 → μ' x = up (up (up μ o 13 0) o 15 0) o 18 20 x) ∧ ∀ j, j < a → μ' (o + 12) j = 0) 169 ?_ ?_ 169 0 (up (up (up μ o 13 0) o 15 0) o 18 20) FU rfl (FU_gt (by decide)) ⟨fun _ _ => rfl, fun j h => by omega⟩) ?_
  · intro k μ' _
    simp only [fX9_reads_18]
    unfold fX9_reads_18_b
    rw [if_pos (by decide)]
  · intro k a μ' ha ⟨a1, a2⟩
    have hna : ¬ (169 : Int32) ≤ nI a := nI_ge (b := 169) (by omega) (by decide)
    simp only [fX9_reads_18]
    unfold fX9_reads_18_b
    rw [if_neg hna, ast_s (by omega) (by omega), ltx_s, nI_1]
    refine ⟨_, rfl, fun x hx => by rw [up_ne hx]; exact a1 x hx, fun j hj => ?_⟩
    by_cases q : j = a
    · subst q
      rw [up_aa]
    · rw [up_an q]
      exact a2 j (by omega)
  · intro μ1 ⟨l1, l2, l3⟩
    have l1' : fX9_reads_18 L o FU (0 : Int32) (up (up (up μ o 13 0) o 15 0) o 18 20) = _ := l1
    rw [l1']
    refine key (n + 1) 0 FU d0 (fun _ => 0) μ1 (by omega) (by omega) (FU_gt (by omega)) PS0 ⟨fun x q1 _ _ _ q5 => by rw [l2 x q5, up_ne q1, up_ne q1, up_ne q1], fun j hj => by rw [l2 o (by omega), up_an (by omega), up_an (by omega), up_an (by omega)]⟩ ⟨?_, ?_, ?_, fun i hi => absurd hi (Nat.not_lt_zero _), fun i hi => absurd hi (Nat.not_lt_zero _), fun i hi => absurd hi (Nat.not_lt_zero _), fun k hk => ?_, ?_, fun t a b ht => absurd ht (Nat.not_lt_zero _)⟩
    · rw [l2 o (by omega), up_an (by decide), up_an (by decide), up_aa]; rfl
    · rw [l2 o (by omega), up_an (by decide), up_aa]; rfl
    · rw [l2 o (by omega), up_aa]; rfl
    · rw [l3 k (by omega)]; rfl
    · rw [l3 168 (by omega)]; rfl
theorem q_lay2 (hP : PS d g) (hL : LR L o) (h2 : μ o 2 = nI d.N) (h4 : μ o 4 = nI d.T) (h7 : μ o 7 = nI d.tp) (hK : KR o μ d g) : ∃ μ', fX9_lay_45 L o FU (0 : Int32) μ = some (nI d.N, μ') ∧ RS o μ' d ∧ Rg o μ' d (fun k => min d.tp (g k)) ∧ μ' o 11 = nI 0 ∧ (∀ i, i < 6 → μ' (o + 5) i = nI 0) ∧ (∀ j, j ≠ 11 → μ' o j = μ o j) ∧ ∀ x, x ≠ o → x ≠ o + 2 → x ≠ o + 3 → x ≠ o + 4 → x ≠ o + 5 → x ≠ o + 6 → μ' x = μ x := by
  have hd := hP.1
  have hN := hd.1
  have hT9 := hd.2.2.1
  have htp := hd.2.2.2.2.2
  have l2 := hL.2.1
  have l3 := hL.2.2.1
  have l4 := hL.2.2.2.1
  have l5 := hL.2.2.2.2.1
  have l6 := hL.2.2.2.2.2.1
  have l9 := hL.2.2.2.2.2.2.2.2.1
  have l10 := hL.2.2.2.2.2.2.2.2.2.1
  have l11 := hL.2.2.2.2.2.2.2.2.2.2.1
  have l12 := hL.2.2.2.2.2.2.2.2.2.2.2.1
  refine Exists.elim (lpI (fun k a μ => fX9_lay_45 L o k (nI a) μ) (fun μ => fX9_lay_78 L o FU (0 : Int32) μ) (fun a μ' => (∀ x, x ≠ o + 2 → x ≠ o + 5 → μ' x = μ x) ∧ ∀ j, j < a → μ' (o + 2) j = μ (o + 9) j ∧ μ' (o + 5) j = 0) 6 ?_ ?_ 6 0 μ FU rfl (FU_gt (by decide)) ⟨fun _ _ _ => rfl, fun j h => by omega⟩) ?_
  · intro k μ' _
    simp only [fX9_lay_45]
    unfold fX9_lay_45_b
    rw [if_pos (by decide)]
  · intro k a μ' ha ⟨a1, a2⟩
    have hna : ¬ (6 : Int32) ≤ nI a := nI_ge (b := 6) (by omega) (by decide)
    simp only [fX9_lay_45]
    unfold fX9_lay_45_b
    rw [if_neg hna, ald_s (by omega) (by omega), ast_s (by omega) (by omega), ast_s (by omega) (by omega), ltx_s, nI_1, a1 _ (by omega) (by omega)]
    refine ⟨_, rfl, fun x q1 q2 => by rw [up_ne q2, up_ne q1]; exact a1 x q1 q2, fun j hj => ?_⟩
    by_cases q : j = a
    · subst q
      rw [up_ne (show o + 2 ≠ o + 5 by omega), up_aa, up_aa]
      exact ⟨rfl, rfl⟩
    · rw [up_ne (show o + 2 ≠ o + 5 by omega), up_an q, up_an q, up_ne (show o + 5 ≠ o + 2 by omega)]
      exact a2 j (by omega)
  · intro μ1 ⟨c1, c2, c3⟩
    have c1' : fX9_lay_45 L o FU (0 : Int32) μ = _ := c1
    rw [c1']
    refine Exists.elim (lpI (fun k a μ => fX9_lay_78 L o k (nI a) μ) (fun μ => fX9_lay_116 L o FU (0 : Int32) μ) (fun a μ' => (∀ x, x ≠ o + 3 → x ≠ o + 4 → μ' x = μ1 x) ∧ ∀ j, j < a → μ' (o + 3) j = μ1 (o + 10) j ∧ μ' (o + 4) j = μ1 (o + 11) j) 9 ?_ ?_ 9 0 μ1 FU rfl (FU_gt (by decide)) ⟨fun _ _ _ => rfl, fun j h => by omega⟩) ?_
    · intro k μ' _
      simp only [fX9_lay_78]
      unfold fX9_lay_78_b
      rw [if_pos (by decide)]
    · intro k a μ' ha ⟨a1, a2⟩
      have hna : ¬ (9 : Int32) ≤ nI a := nI_ge (b := 9) (by omega) (by decide)
      simp only [fX9_lay_78]
      unfold fX9_lay_78_b
      rw [if_neg hna, ald_s (by omega) (by omega), ast_s (by omega) (by omega), ald_s (by omega) (by omega), ast_s (by omega) (by omega), ltx_s, nI_1, up_ne (show o + 11 ≠ o + 3 by omega), a1 _ (by omega) (by omega), a1 _ (by omega) (by omega)]
      refine ⟨_, rfl, fun x q1 q2 => by rw [up_ne q2, up_ne q1]; exact a1 x q1 q2, fun j hj => ?_⟩
      by_cases q : j = a
      · subst q
        rw [up_ne (show o + 3 ≠ o + 4 by omega), up_aa, up_aa]
        exact ⟨rfl, rfl⟩
      · rw [up_ne (show o + 3 ≠ o + 4 by omega), up_an q, up_an q, up_ne (show o + 4 ≠ o + 3 by omega)]
        exact a2 j (by omega)
    · intro μ2 ⟨e1, e2, e3⟩
      have e1' : fX9_lay_78 L o FU (0 : Int32) μ1 = _ := e1
      rw [e1']
      have e7 : μ2 o 7 = nI d.tp := by rw [e2 o (by omega) (by omega), c2 o (by omega) (by omega)]; exact h7
      refine Exists.elim (lpI (fun k a μ => fX9_lay_116 L o k (nI a) μ) (fun μ => pu μ o 11 (0 : Int32) (fun μ1 => some ((μ1 o 2), μ1))) (fun a μ' => (∀ x, x ≠ o + 6 → μ' x = μ2 x) ∧ ∀ j, j < a → μ' (o + 6) j = (if nI d.tp ≤ μ2 (o + 12) j + 0 then nI d.tp else μ2 (o + 12) j + 0)) 169 ?_ ?_ 169 0 μ2 FU rfl (FU_gt (by decide)) ⟨fun _ _ => rfl, fun j h => by omega⟩) ?_
      · intro k μ' _
        simp only [fX9_lay_116]
        unfold fX9_lay_116_b
        rw [if_pos (by decide)]
      · intro k a μ' ha ⟨a1, a2⟩
        have hna : ¬ (169 : Int32) ≤ nI a := nI_ge (b := 169) (by omega) (by decide)
        simp only [fX9_lay_116]
        unfold fX9_lay_116_b fX9_sum
        rw [if_neg hna, ald_s (by omega) (by omega), a1 o (by omega), e7, a1 _ (by omega)]
        have hput : ∀ u : Int32, u = (if nI d.tp ≤ μ2 (o + 12) a + 0 then nI d.tp else μ2 (o + 12) a + 0) → ∃ μ'_1, (bd (some (u, μ')) fun b4 μ3 => ast L μ3 (o + 6) (nI a) b4 fun μ5 => lt' (nI a + 1) fun a6 => fX9_lay_116 L o k a6 μ5) = fX9_lay_116 L o k (nI (a + 1)) μ'_1 ∧ (∀ x, x ≠ o + 6 → μ'_1 x = μ2 x) ∧ ∀ j, j < a + 1 → μ'_1 (o + 6) j = (if nI d.tp ≤ μ2 (o + 12) j + 0 then nI d.tp else μ2 (o + 12) j + 0) := by
          intro u hu
          rw [bd_s, ast_s (by omega) (by omega), ltx_s, nI_1]
          refine ⟨_, rfl, fun x hx => by rw [up_ne hx]; exact a1 x hx, fun j hj => ?_⟩
          by_cases q : j = a
          · subst q
            rw [up_aa, hu]
          · rw [up_an q]
            exact a2 j (by omega)
        by_cases q : nI d.tp ≤ μ2 (o + 12) a + 0
        · rw [if_pos q]
          exact hput _ (by rw [if_pos q])
        · rw [if_neg q]
          exact hput _ (by rw [if_neg q])
      · intro μ3 ⟨f1, f2, f3⟩
        have f1' : fX9_lay_116 L o FU (0 : Int32) μ2 = _ := f1
        have hread : ∀ k, k ≤ 168 → g k ≤ 99 → μ (o + 12) k = nI (g k) → up μ3 o 11 0 (o + 6) k = nI (min d.tp (g k)) := fun k hk hg he => by
          rw [up_ne (by omega), f3 k (by omega), e2 _ (by omega) (by omega), c2 _ (by omega) (by omega), he, n0, sum_eq htp (by omega) (by decide), sm_min, Nat.add_zero]
        have hro : ∀ j, j ≠ 11 → up μ3 o 11 0 o j = μ o j := fun j hj => by rw [up_an hj, f2 o (by omega), e2 o (by omega) (by omega), c2 o (by omega) (by omega)]
        rw [f1', pu_s, hro 2 (by decide), h2]
        obtain ⟨a1, a2, a3, a4, a5, a6, a7, a8, a9⟩ := hK
        refine ⟨_, rfl, ⟨?_, ?_, ?_, fun i hi => ?_, fun t ht => ?_, fun t ht => ?_⟩, fun k hk => ?_, up_aa _ _ _ _, fun i hi => ?_, hro, fun x q1 q2 q3 q4 q5 q6 => ?_⟩
        · rw [hro 2 (by decide)]; exact h2
        · rw [hro 4 (by decide)]; exact h4
        · rw [hro 7 (by decide)]; exact h7
        · rw [up_ne (by omega), f2 _ (by omega), e2 _ (by omega) (by omega), (c3 i (by omega)).1]; exact a4 i hi
        · rw [up_ne (by omega), f2 _ (by omega), (e3 t (by omega)).1, c2 _ (by omega) (by omega)]; exact a5 t ht
        · rw [up_ne (by omega), f2 _ (by omega), (e3 t (by omega)).2, c2 _ (by omega) (by omega)]; exact a6 t ht
        · have hk8 := Sp.Ult hd hk
          refine hread k hk8 (hP.2.1 k hk8) ?_
          rcases hk with rfl | ⟨i, a, hi, ha, rfl⟩ | ⟨t, a, b, ht, ha, hb, rfl⟩
          · exact a8
          · exact a7 _ (si_lt hd hi ha)
          · exact a9 t a b ht ha hb
        · rw [up_ne (by omega), f2 _ (by omega), e2 _ (by omega) (by omega), (c3 i (by omega)).2]; rfl
        · rw [up_ne q1, f2 x q6, e2 x q3 q4, c2 x q2 q5]
end PRt
theorem Q2 : Q_2 Inv := by
  intro μ hI
  obtain ⟨d, g, c, h, tv, n, x, hP, hC, hR⟩ := id hI
  have hn := hP.2.2.2.2.2.1
  have hx := hP.2.2.2.2.2.2
  refine mkQ (r := fr (Rd n x (n + 1) 0 d0 (fun _ => 0)).1) hR hP ?_ ?_
  · obtain ⟨μ1, s1, s2, s3⟩ := c_readAll (to := 1) (ro := 4) (co := 16) (L := LL) (μ := μ) LC16 rfl rfl (by decide) (by decide) ⟨hC.2.2.2.2.1, hC.2.2.2.2.2⟩ hn hx
    have hf : ∀ x, x ≠ 4 → x ≠ 6 → ¬ (16 ≤ x ∧ x ≤ 24) → μ1 x = μ x := fun x q1 q2 q3 => s2 x (by omega) (by omega) (by omega) (by omega) (by omega) (by omega) (by omega)
    refine ⟨μ1, ?_, hC.fr (fun x hx => by unfold kc at hx; exact hf x (by omega) (by omega) (by omega)), fun x hx => hf x (by omega) (by omega) (by omega)⟩
    unfold fX8_fault
    simp only [Nat.zero_add]
    rw [s1, bd_s]
  · intro μ0 hR0
    obtain ⟨μ1, s1, s2, s3⟩ := q_reads LR56 ⟨hR0.2.2.2.2.1, hR0.2.2.2.2.2⟩ hn hx
    refine ⟨μ1, ?_, hR0.fr (fun j hj => s2.2 j (by omega)) (fun x h1 h2 => s2.1 x (by omega) (by omega) (by omega) (by omega) (by omega)), fun x hx => s2.1 x (by omega) (by omega) (by omega) (by omega) (by omega)⟩
    unfold fX9_fault
    rw [s1, bd_s]
theorem fr_n {p : Nat} (hp : p < 2 ^ 31) : ¬ fr (some p) = -4 := fun e => absurd (show nI p < 0 by rw [show nI p = -4 from e]; decide) (nI_pos hp)
theorem Rd_le {n : Nat} {x : Nat → Nat} : ∀ (r p : Nat) (d : Sp) (g : Nat → Nat) (q : Nat), p ≤ n → (Rd n x r p d g).1 = some q → q ≤ n
  | 0, p, d, g, q, hp, h => by
    have : p = q := by simpa [Rd] using h
    omega
  | r + 1, p, d, g, q, hp, h => by
    unfold Rd at h
    by_cases c1 : n ≤ p
    · rw [if_pos c1] at h
      exact absurd h (by simp)
    · rw [if_neg c1] at h
      by_cases c2 : Ok n x d p
      · rw [if_pos c2] at h
        refine Rd_le r _ _ _ q ?_ h
        by_cases z : mk (x p) = 0
        · exact absurd c2.2 (mk_0 z _ _)
        · obtain ⟨m', hm'⟩ : ∃ m', mk (x p) = m' + 1 := ⟨mk (x p) - 1, by omega⟩
          have := (c2.1 m' (by omega)).2.1
          rw [hm']
          exact this
      · rw [if_neg c2] at h
        have : p = q := by simpa using h
        omega
theorem Q3 : Q_3 Inv := by
  intro μ hI
  obtain ⟨d, g, c, h, tv, n, x, hP, hC, hR⟩ := id hI
  have hn := hP.2.2.2.2.2.1
  have hx := hP.2.2.2.2.2.2
  have hPS := Rd_PS (n := n) (x := x) (n + 1) 0 d0 (fun _ => 0) PS0
  have hle := Rd_le (n := n) (x := x) (n + 1) 0 d0 (fun _ => 0)
  have hc1 := fun (μ : Mem) (hC : CI μ d g c h tv n x) => c_readAll (to := 1) (ro := 4) (co := 16) (L := LL) (μ := μ) LC16 rfl rfl (by decide) (by decide) ⟨hC.2.2.2.2.1, hC.2.2.2.2.2⟩ hn hx
  have hr1 := fun (μ0 : Mem) (hR0 : RI μ0 d g c h tv n x) => q_reads (L := LL) (μ := μ0) LR56 ⟨hR0.2.2.2.2.1, hR0.2.2.2.2.2⟩ hn hx
  generalize Rd n x (n + 1) 0 d0 (fun _ => 0) = R at *
  obtain ⟨f, D, G⟩ := R
  have hd : D.ok := hPS.1
  have hN6 := hd.1
  by_cases hbad : f ≠ none ∨ D.N = 0
  · refine mkQ (r := -2) hR hP ?_ ?_
    · obtain ⟨μ1, s1, s2, s3⟩ := hc1 μ hC
      have hf : ∀ x, x ≠ 4 → x ≠ 6 → ¬ (16 ≤ x ∧ x ≤ 24) → μ1 x = μ x := fun x q1 q2 q3 => s2 x (by omega) (by omega) (by omega) (by omega) (by omega) (by omega) (by omega)
      refine ⟨μ1, ?_, hC.fr (fun x hx => by unfold kc at hx; exact hf x (by omega) (by omega) (by omega)), fun x hx => hf x (by omega) (by omega) (by omega)⟩
      unfold fX8_lay fX0_names
      simp only [Nat.zero_add]
      rw [s1, bd_s, bd_s]
      cases f with
      | none =>
        have h0 : D.N = 0 := by rcases hbad with q | q; exact absurd rfl q; exact q
        rw [if_pos (show fr ((none : Option Nat), D, G).1 = -4 from rfl), (s3 rfl).1.1, if_pos (show nI D.N = (0 : Int32) by rw [h0]; rfl)]
      | some p => rw [if_neg (fr_n (by have := hle p (Nat.zero_le _) rfl; omega))]
    · intro μ0 hR0
      obtain ⟨μ1, s1, s2, s3⟩ := hr1 μ0 hR0
      refine ⟨μ1, ?_, hR0.fr (fun j hj => s2.2 j (by omega)) (fun x h1 h2 => s2.1 x (by omega) (by omega) (by omega) (by omega) (by omega)), fun x hx => s2.1 x (by omega) (by omega) (by omega) (by omega) (by omega)⟩
      unfold fX9_lay
      rw [s1, bd_s]
      cases f with
      | none =>
        have h0 : D.N = 0 := by rcases hbad with q | q; exact absurd rfl q; exact q
        rw [if_pos (show fr ((none : Option Nat), D, G).1 = -4 from rfl), (s3 rfl).1, if_pos (show nI D.N = (0 : Int32) by rw [h0]; rfl)]
      | some p => rw [if_neg (fr_n (by have := hle p (Nat.zero_le _) rfl; omega))]
  · have hf0 : f = none := Classical.byContradiction (fun q => hbad (Or.inl q))
    have hN0 : ¬ D.N = 0 := fun q => hbad (Or.inr q)
    subst hf0
    refine mkQ (r := nI D.N) (d' := D) (g' := fun k => min D.tp (G k)) (c' := 0) (h' := h) (tv' := fun _ => 0) (n' := n) (x' := x) hR ⟨hd, by omega, fun k hk => Nat.min_le_left _ _, fun j hj => absurd hj (Nat.not_lt_zero _), fun i hi => by have := Sp.hz hd hi; show 0 < D.z i; omega, hn, hx⟩ ?_ ?_
    · obtain ⟨μ1, s1, s2, s3⟩ := hc1 μ hC
      have s3' := s3 rfl
      have hf : ∀ x, x ≠ 4 → x ≠ 6 → ¬ (16 ≤ x ∧ x ≤ 24) → μ1 x = μ x := fun x q1 q2 q3 => s2 x (by omega) (by omega) (by omega) (by omega) (by omega) (by omega) (by omega)
      obtain ⟨μ2, t1, t2, t3, t4⟩ := c_takeAll (μ := μ1) (d := D) LC7 LC16 (Or.inr (by decide))
      obtain ⟨μ3, u1, u2, u3⟩ := r_clear (L := LL) (μ := μ2) (r := 25) (m := 6) rfl (by decide)
      have hf3 : ∀ x, x = 1 ∨ x = 3 ∨ 34 ≤ x → μ3 x = μ x := fun x q => by rw [u2 x (by omega), t2 x (by omega) (by omega) (by omega) (by omega) (by omega), hf x (by omega) (by omega) (by omega)]
      obtain ⟨s, hH⟩ := hC.2.2.1
      have hCS3 : CS 7 μ3 D := (t3 hd s3'.1).of (u2 _ (by decide)) (u2 _ (by decide)) (u2 _ (by decide)) (u2 _ (by decide))
      refine ⟨up μ3 34 2 0, ?_, ⟨hCS3.of (up_ne (by decide)) (up_ne (by decide)) (up_ne (by decide)) (up_ne (by decide)), fun k hk => ?_, ⟨s, ?_, hH.2.1, up_aa _ _ _ _, Nat.zero_le _, fun j hj => absurd hj (Nat.not_lt_zero _)⟩, fun i hi => ?_, ?_, fun j hj => ?_⟩, fun x hx => ?_⟩
      · unfold fX8_lay fX0_names fX1_clear
        simp only [Nat.zero_add]
        rw [s1, bd_s, if_pos (show fr ((none : Option Nat), D, G).1 = -4 from rfl), bd_s, s3'.1.1, if_neg (show ¬ nI D.N = 0 from nI_ne0 (by omega) (by omega)), t1, bv_s, u1, bv_s, pu_s, bv_s, bd_s, up_ne (show (7 : Nat) ≠ 34 by decide), hCS3.1]
      · have hk8 := Sp.Ult hd hk
        rw [up_ne (by decide), u2 _ (by decide), t4 _ (by unfold cx; split <;> omega)]
        exact s3'.2 k hk8
      · rw [up_an (by decide), hf3 34 (by omega)]; exact hH.1
      · rw [up_ne (by decide)]; exact u3 i (by omega)
      · rw [up_ne (by decide), hf3 1 (by omega)]; exact hC.2.2.2.2.1
      · rw [up_ne (by decide), hf3 3 (by omega)]; exact hC.2.2.2.2.2 j hj
      · rw [up_ne (by omega), hf3 x (by omega)]
    · intro μ0 hR0
      obtain ⟨μ1, s1, s2, s3⟩ := hr1 μ0 hR0
      have hK := s3 rfl
      obtain ⟨a1, a2, a3, a4, a5, a6, a7, a8, a9⟩ := id hK
      obtain ⟨μ2, hm⟩ : ∃ m, m = up (up (up μ1 56 2 (nI D.N)) 56 4 (nI D.T)) 56 7 (nI D.tp) := ⟨_, rfl⟩
      have hf2 : ∀ x, x ≠ 56 → μ2 x = μ1 x := fun x q => by rw [hm, up_ne q, up_ne q, up_ne q]
      have ho2 : ∀ j, j ≠ 2 → j ≠ 4 → j ≠ 7 → μ2 56 j = μ1 56 j := fun j q1 q2 q3 => by rw [hm, up_an q3, up_an q2, up_an q1]
      have hK2 : KR 56 μ2 D G := ⟨by rw [ho2 _ (by decide) (by decide) (by decide)]; exact a1, by rw [ho2 _ (by decide) (by decide) (by decide)]; exact a2, by rw [ho2 _ (by decide) (by decide) (by decide)]; exact a3, fun i hi => by rw [hf2 _ (by decide)]; exact a4 i hi, fun i hi => by rw [hf2 _ (by decide)]; exact a5 i hi, fun i hi => by rw [hf2 _ (by decide)]; exact a6 i hi, fun i hi => by rw [hf2 _ (by decide)]; exact a7 i hi, by rw [hf2 _ (by decide)]; exact a8, fun t a b h1 h2 h3 => by rw [hf2 _ (by decide)]; exact a9 t a b h1 h2 h3⟩
      obtain ⟨μ3, t1, t2, t3, t4, t5, t6, t7⟩ := q_lay2 hPS LR56 (by rw [hm, up_an (by decide), up_an (by decide), up_aa]) (by rw [hm, up_an (by decide), up_aa]) (by rw [hm, up_aa]) hK2
      refine ⟨μ3, ?_, ⟨t2, t3, ⟨t4, Nat.zero_le _, fun j hj => absurd hj (Nat.not_lt_zero _)⟩, fun i hi => t5 i (by omega), ?_, fun j hj => ?_⟩, fun x hx => ?_⟩
      · unfold fX9_lay
        rw [s1, bd_s, if_pos (show fr ((none : Option Nat), D, G).1 = -4 from rfl), a1, if_neg (show ¬ nI D.N = 0 from nI_ne0 (by omega) (by omega))]
        simp only [pu_s, up_g, reduceIte, Nat.reduceEqDiff]
        rw [a2, a3, ← hm, t1]
      · rw [t6 0 (by decide), ho2 0 (by decide) (by decide) (by decide), s2.2 0 (by decide)]; exact hR0.2.2.2.2.1
      · rw [t7 57 (by decide) (by decide) (by decide) (by decide) (by decide) (by decide), hf2 57 (by decide), s2.1 57 (by decide) (by decide) (by decide) (by decide) (by decide)]; exact hR0.2.2.2.2.2 j hj
      · rw [t7 x (by omega) (by omega) (by omega) (by omega) (by omega) (by omega), hf2 x (by omega), s2.1 x (by omega) (by omega) (by omega) (by omega) (by omega)]
theorem AllInv : AllQ Inv := ⟨Q0, Q1, Q2, Q3, Q4, Q5, Q6, Q7, Q8, Q9, Q10, Q11, Q12, Q13, Q14, Q15, Q16, Q17, Q18, Q19, Q20, Q21, Q22, Q23, Q24⟩
