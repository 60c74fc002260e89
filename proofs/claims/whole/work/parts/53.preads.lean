/-! the reference's items of costs and tables -/
section PRs
variable {L : Nat → Nat} {o : Nat} {μ μ0 : Mem} {n : Nat} {x : Nat → Nat} {d : Sp} {g v : Nat → Nat}
theorem z_1 (μ : Mem) : zr 1 μ = some (1, μ) := rfl
theorem z_0 (μ : Mem) : zr 0 μ = some (0, μ) := rfl
theorem KR.put {μ' : Mem} (hd : d.ok) (h : KR o μ d g) {k w : Nat} (hk : k ≤ 168) (hf : ∀ x, x ≠ o + 12 → μ' x = μ x) (h1 : μ' (o + 12) k = nI w) (h2 : ∀ j, j ≠ k → μ' (o + 12) j = μ (o + 12) j) : KR o μ' d (gu g k w) := by
  obtain ⟨a1, a2, a3, a4, a5, a6, a7, a8, a9⟩ := h
  have e : ∀ j, μ (o + 12) j = nI (g j) → μ' (o + 12) j = nI (gu g k w j) := fun j hj => by
    by_cases q : j = k
    · rw [q, gu_at]; exact h1
    · rw [gu_ne q, h2 j q]; exact hj
  refine ⟨?_, ?_, ?_, ?_, ?_, ?_, ?_, ?_, ?_⟩
  · rw [hf o (by omega)]; exact a1
  · rw [hf o (by omega)]; exact a2
  · rw [hf o (by omega)]; exact a3
  · intro i hi; rw [hf _ (by omega)]; exact a4 i hi
  · intro i hi; rw [hf _ (by omega)]; exact a5 i hi
  · intro i hi; rw [hf _ (by omega)]; exact a6 i hi
  · intro i hi; exact e i (a7 i hi)
  · exact e _ a8
  · intro t a b h1 h2 h3; exact e _ (a9 t a b h1 h2 h3)
theorem q_readsSingle (hP : PS d g) (hL : LR L o) (hT : RT o μ n x) (hn : n ≤ 200) (hx : ∀ j, j < n → 32 ≤ x j ∧ x j ≤ 126) (hK : KR o μ d g) {s : Nat} (hs : s ≤ 300) : Res o μ n x d g 117 s (fX9_readsSingle L o (nI s) μ) := by
  have h9 := hL.2.2.2.2.2.2.2.2.1
  have h12 := hL.2.2.2.2.2.2.2.2.2.2.2.1
  have hd := hP.1
  have hN := hd.1
  have q1s := qs_le n x s 1
  have q2s := qs_le n x s 2
  have v0 := nvl_le n x (qs n x s 0)
  have v2 := nvl_le n x (qs n x s 2)
  have h99 : (99 : Int32) = nI 100 - 1 := by decide
  unfold fX9_readsSingle
  rw [hK.1, h99]
  obtain ⟨μ1, n1, n2, n3, n4⟩ := q_number hL hT hn hx (p := s) (a := 0) (b := d.N) (by omega) (by omega) (by omega)
  rw [show fX9_number L o (nI s) (0 : Int32) (nI d.N - 1) μ = _ from n1, bd_s]
  by_cases c1 : s < nx n x s ∧ 0 ≤ nvl n x s ∧ nvl n x s < d.N
  · rw [if_pos c1, if_neg (by decide), ltx_s, n3]
    have hK1 := hK.frn n2
    have hi : vs n x s 0 < d.N := c1.2.2
    have hz := Sp.hz hd hi
    rw [ald_s (show nvl n x s < L (o + 9) by omega) (by omega), hK1.2.2.2.1 _ c1.2.2]
    obtain ⟨μ2, m1, m2⟩ := q_more hL (hT.frn n2) hn hx (s := s) (k := 0) (a := 0) (b := d.z (nvl n x s)) (by have := qs_le n x s (0 + 1); omega) (by omega) (by have := Sp.hz hd c1.2.2; omega) n4
    have hF2 := FrN.trans n2 m1
    rcases m2 with ⟨e, c2, m3, m4⟩ | ⟨e, c2⟩
    · rw [show fX9_more L o (0 : Int32) (nI (d.z (nvl n x s)) - 1) μ1 = _ from e, bd_s, if_neg (by decide), ltx_s, m3]
      have ha : vs n x s 1 < d.z (vs n x s 0) := c2.2.2.2
      have hsi := si_lt hd hi ha
      rw [show (4 : Int32) * nI (nvl n x s) + nI (vs n x s 1) = nI (si (vs n x s 0) (vs n x s 1)) from q_si _ _]
      obtain ⟨μ3, p1, p2⟩ := q_more hL (hT.frn hF2) hn hx (s := s) (k := 1) (a := 0) (b := 100) (by have := qs_le n x s (1 + 1); omega) (by omega) (by omega) m4
      have hF3 := FrN.trans hF2 p1
      have hK3 := hK.frn hF3
      have hFX : ∀ w, FrX o (up μ3 (o + 12) (si (vs n x s 0) (vs n x s 1)) w) μ := fun w => FrX.trans hF3.frx ⟨fun x _ _ _ _ q => up_ne q, fun j hj => by rw [up_ne (by omega)]⟩
      rcases p2 with ⟨e3, c3, p3, p4⟩ | ⟨e3, c3⟩
      · rw [show fX9_more L o (0 : Int32) (nI 100 - 1) μ2 = _ from e3, bd_s, ast_s (by omega) (by omega), p3, z_1]
        refine ⟨_, hFX _, Or.inl ⟨rfl, ⟨fun k hk => ?_, fun k hk => ?_, Gd_u.mpr ⟨hi, ha⟩⟩, ?_, ?_⟩⟩
        · have hk : k < 3 := hk
          rcases (show k = 0 ∨ k = 1 ∨ k = 2 by omega) with rfl | rfl | rfl
          · exact c1.1
          · exact c2.2.1
          · exact c3.2.1
        · have hk : k + 1 < 3 := hk
          rcases (show k = 0 ∨ k = 1 by omega) with rfl | rfl
          · exact c2.1
          · exact c3.1
        · rw [dN_u, gN_u]
          exact hK3.put hd (by omega) (fun x q => up_ne q) (up_aa _ _ _ _) (fun j q => up_an q)
        · rw [up_ne (by omega)]; exact p4
      · rw [show fX9_more L o (0 : Int32) (nI 100 - 1) μ2 = _ from e3, bd_s, ast_s (by omega) (by omega), z_0]
        exact Res.no (hFX _) rfl (fun z => c3 ⟨z.2.1 1 (by decide), z.1 2 (by decide), Nat.zero_le _, Nat.lt_succ_of_le (nvl_le _ _ _)⟩)
    · rw [show fX9_more L o (0 : Int32) (nI (d.z (nvl n x s)) - 1) μ1 = _ from e, bd_s, if_pos rfl]
      exact Res.no hF2.frx rfl (fun z => c2 ⟨z.2.1 0 (by decide), z.1 1 (by decide), Nat.zero_le _, (Gd_u.mp z.2.2).2⟩)
  · rw [if_neg c1, if_pos rfl]
    exact Res.no n2.frx rfl (fun z => c1 ⟨z.1 0 (by decide), Nat.zero_le _, (Gd_u.mp z.2.2).1⟩)
theorem q_readsPair (hP : PS d g) (hL : LR L o) (hT : RT o μ n x) (hn : n ≤ 200) (hx : ∀ j, j < n → 32 ≤ x j ∧ x j ≤ 126) (hK : KR o μ d g) {s : Nat} (hs : s ≤ 300) : Res o μ n x d g 99 s (fX9_readsPair L o (nI s) μ) := by
  have h9 := hL.2.2.2.2.2.2.2.2.1
  have h10 := hL.2.2.2.2.2.2.2.2.2.1
  have h11 := hL.2.2.2.2.2.2.2.2.2.2.1
  have h12 := hL.2.2.2.2.2.2.2.2.2.2.2.1
  have hd := hP.1
  have hN := hd.1
  have hT9 := hd.2.2.1
  have q1s := qs_le n x s 1
  have q2s := qs_le n x s 2
  have q3s := qs_le n x s 3
  have v3 := nvl_le n x (qs n x s 3)
  have h99 : (99 : Int32) = nI 100 - 1 := by decide
  unfold fX9_readsPair
  rw [hK.2.1, h99]
  obtain ⟨μ1, n1, n2, n3, n4⟩ := q_number hL hT hn hx (p := s) (a := 0) (b := d.T) (by omega) (by omega) (by omega)
  rw [show fX9_number L o (nI s) (0 : Int32) (nI d.T - 1) μ = _ from n1, bd_s]
  by_cases c1 : s < nx n x s ∧ 0 ≤ nvl n x s ∧ nvl n x s < d.T
  · rw [if_pos c1, if_neg (by decide), ltx_s, n3]
    have hK1 := hK.frn n2
    have ht : vs n x s 0 < d.T := c1.2.2
    have hl := Sp.hl hd ht
    have hz := Sp.hz hd hl.1
    have hz2 := Sp.hz hd hl.2.1
    rw [show nI (nvl n x s) = nI (vs n x s 0) from rfl, ald_s (show vs n x s 0 < L (o + 10) by omega) (by omega), hK1.2.2.2.2.1 _ ht, ald_s (by omega) (by omega), hK1.2.2.2.1 _ hl.1]
    obtain ⟨μ2, m1, m2⟩ := q_more hL (hT.frn n2) hn hx (s := s) (k := 0) (a := 0) (b := d.z (d.lo (vs n x s 0))) (by have := qs_le n x s (0 + 1); omega) (by omega) (by omega) n4
    have hF2 := FrN.trans n2 m1
    rcases m2 with ⟨e, c2, m3, m4⟩ | ⟨e, c2⟩
    · have hK2 := hK.frn hF2
      rw [show fX9_more L o (0 : Int32) (nI (d.z (d.lo (vs n x s 0))) - 1) μ1 = _ from e, bd_s, if_neg (by decide), ltx_s, m3, ald_s (show vs n x s 0 < L (o + 11) by omega) (by omega), hK2.2.2.2.2.2.1 _ ht, ald_s (by omega) (by omega), hK2.2.2.2.1 _ hl.2.1]
      have ha : vs n x s 1 < d.z (d.lo (vs n x s 0)) := c2.2.2.2
      obtain ⟨μ3, p1, p2⟩ := q_more hL (hT.frn hF2) hn hx (s := s) (k := 1) (a := 0) (b := d.z (d.hi (vs n x s 0))) (by have := qs_le n x s (1 + 1); omega) (by omega) (by omega) m4
      have hF3 := FrN.trans hF2 p1
      rcases p2 with ⟨e3, c3, p3, p4⟩ | ⟨e3, c3⟩
      · have hb : vs n x s 2 < d.z (d.hi (vs n x s 0)) := c3.2.2.2
        have hpi := pi_lt hd ht ha hb
        rw [show fX9_more L o (0 : Int32) (nI (d.z (d.hi (vs n x s 0))) - 1) μ2 = _ from e3, bd_s, if_neg (by decide), ltx_s, p3]
        rw [show (24 : Int32) + (16 : Int32) * nI (vs n x s 0) + (4 : Int32) * nI (vs n x s 1) + nI (vs n x s 2) = nI (pi (vs n x s 0) (vs n x s 1) (vs n x s 2)) by
          rw [n24, n16, show (4 : Int32) = nI 4 from rfl, pk_mul, pk_mul, nI_add, nI_add, nI_add]; rfl]
        obtain ⟨μ4, r1, r2⟩ := q_more hL (hT.frn hF3) hn hx (s := s) (k := 2) (a := 0) (b := 100) (by have := qs_le n x s (2 + 1); omega) (by omega) (by omega) p4
        have hF4 := FrN.trans hF3 r1
        have hK4 := hK.frn hF4
        have hFX : ∀ w, FrX o (up μ4 (o + 12) (pi (vs n x s 0) (vs n x s 1) (vs n x s 2)) w) μ := fun w => FrX.trans hF4.frx ⟨fun x _ _ _ _ q => up_ne q, fun j hj => by rw [up_ne (by omega)]⟩
        rcases r2 with ⟨e4, c4, r3, r4⟩ | ⟨e4, c4⟩
        · rw [show fX9_more L o (0 : Int32) (nI 100 - 1) μ3 = _ from e4, bd_s, ast_s (by omega) (by omega), r3, z_1]
          refine ⟨_, hFX _, Or.inl ⟨rfl, ⟨fun k hk => ?_, fun k hk => ?_, Gd_c.mpr ⟨ht, ha, hb⟩⟩, ?_, ?_⟩⟩
          · have hk : k < 4 := hk
            rcases (show k = 0 ∨ k = 1 ∨ k = 2 ∨ k = 3 by omega) with rfl | rfl | rfl | rfl
            · exact c1.1
            · exact c2.2.1
            · exact c3.2.1
            · exact c4.2.1
          · have hk : k + 1 < 4 := hk
            rcases (show k = 0 ∨ k = 1 ∨ k = 2 by omega) with rfl | rfl | rfl
            · exact c2.1
            · exact c3.1
            · exact c4.1
          · rw [dN_c, gN_c]
            exact hK4.put hd (by omega) (fun x q => up_ne q) (up_aa _ _ _ _) (fun j q => up_an q)
          · rw [up_ne (by omega)]; exact r4
        · rw [show fX9_more L o (0 : Int32) (nI 100 - 1) μ3 = _ from e4, bd_s, ast_s (by omega) (by omega), z_0]
          exact Res.no (hFX _) rfl (fun z => c4 ⟨z.2.1 2 (by decide), z.1 3 (by decide), Nat.zero_le _, Nat.lt_succ_of_le (nvl_le _ _ _)⟩)
      · rw [show fX9_more L o (0 : Int32) (nI (d.z (d.hi (vs n x s 0))) - 1) μ2 = _ from e3, bd_s, if_pos rfl]
        exact Res.no hF3.frx rfl (fun z => c3 ⟨z.2.1 1 (by decide), z.1 2 (by decide), Nat.zero_le _, (Gd_c.mp z.2.2).2.2⟩)
    · rw [show fX9_more L o (0 : Int32) (nI (d.z (d.lo (vs n x s 0))) - 1) μ1 = _ from e, bd_s, if_pos rfl]
      exact Res.no hF2.frx rfl (fun z => c2 ⟨z.2.1 0 (by decide), z.1 1 (by decide), Nat.zero_le _, (Gd_c.mp z.2.2).2.1⟩)
  · rw [if_neg c1, if_pos rfl]
    exact Res.no n2.frx rfl (fun z => c1 ⟨z.1 0 (by decide), Nat.zero_le _, (Gd_c.mp z.2.2).1⟩)
/-- the sixteen costs of a new table -/
theorem q_table108 (hL : LR L o) {T i j : Nat} {w : Int32} (hT9 : T < 9) (hT : μ o 15 = nI T) (h20 : μ o 20 = w) (r : Int32) : ∃ μ', fX9_readsTable_108 L o FU (nI i) (nI j) r (0 : Int32) μ = zr r μ' ∧ (∀ x, x ≠ o → x ≠ o + 10 → x ≠ o + 11 → x ≠ o + 12 → μ' x = μ x) ∧ (∀ k, k ≠ 15 → μ' o k = μ o k) ∧ μ' o 15 = nI (T + 1) ∧ (∀ t, μ' (o + 10) t = if t = T then nI i else μ (o + 10) t) ∧ (∀ t, μ' (o + 11) t = if t = T then nI j else μ (o + 11) t) ∧ (∀ k, k < 16 → μ' (o + 12) (24 + 16 * T + k) = (if k % 5 = 0 then w else 0)) ∧ (∀ k, (k < 24 + 16 * T ∨ 24 + 16 * T + 16 ≤ k) → μ' (o + 12) k = μ (o + 12) k) := by
  have h10 := hL.2.2.2.2.2.2.2.2.2.1
  have h11 := hL.2.2.2.2.2.2.2.2.2.2.1
  have h12 := hL.2.2.2.2.2.2.2.2.2.2.2.1
  refine Exists.elim (lpI (fun k a μ => fX9_readsTable_108 L o k (nI i) (nI j) r (nI a) μ) (fun μ => ast L μ (o + 10) (μ o 15) (nI i) (fun μ3 => ast L μ3 (o + 11) (μ3 o 15) (nI j) (fun μ4 => pu μ4 o 15 ((μ4 o 15) + (1 : Int32)) (fun μ5 => zr r μ5)))) (fun a μ' => (∀ x, x ≠ o + 12 → μ' x = μ x) ∧ (∀ k, k < a → μ' (o + 12) (24 + 16 * T + k) = (if k % 5 = 0 then w else 0)) ∧ (∀ k, (k < 24 + 16 * T ∨ 24 + 16 * T + 16 ≤ k) → μ' (o + 12) k = μ (o + 12) k)) 16 ?_ ?_ 16 0 μ FU rfl (FU_gt (by decide)) ⟨fun _ _ => rfl, fun k h => by omega, fun _ _ => rfl⟩) ?_
  · intro k μ' _
    simp only [fX9_readsTable_108]
    unfold fX9_readsTable_108_b
    rw [if_pos (by decide)]
  · intro k a μ' ha ⟨a1, a2, a3⟩
    have hna : ¬ (16 : Int32) ≤ nI a := nI_ge (b := 16) ha (by decide)
    simp only [fX9_readsTable_108]
    unfold fX9_readsTable_108_b fX9_readsTable_147
    rw [if_neg hna, nz_s (by decide), show (5 : Int32) = nI 5 from rfl, pk_rem (by omega) (by decide) (by decide), a1 o (by omega), h20, hT, n24, n16, pk_mul, nI_add, nI_add]
    have hput : ∀ u : Int32, (u = if a % 5 = 0 then w else 0) → ∃ μ'_1, (ast L μ' (o + 12) (nI (24 + 16 * T + a)) u fun μ1 => lt' (nI a + 1) fun a2 => fX9_readsTable_108 L o k (nI i) (nI j) r a2 μ1) = fX9_readsTable_108 L o k (nI i) (nI j) r (nI (a + 1)) μ'_1 ∧ (∀ x, x ≠ o + 12 → μ'_1 x = μ x) ∧ (∀ k, k < a + 1 → μ'_1 (o + 12) (24 + 16 * T + k) = (if k % 5 = 0 then w else 0)) ∧ (∀ k, (k < 24 + 16 * T ∨ 24 + 16 * T + 16 ≤ k) → μ'_1 (o + 12) k = μ (o + 12) k) := by
      intro u hu
      rw [ast_s (by omega) (by omega), ltx_s, nI_1]
      refine ⟨_, rfl, fun x q => by rw [up_ne q]; exact a1 x q, fun k hk => ?_, fun k hk => ?_⟩
      · by_cases q : k = a
        · subst q
          rw [up_aa, hu]
        · rw [up_an (by omega)]
          exact a2 k (by omega)
      · rw [up_an (by omega)]
        exact a3 k hk
    by_cases q : a % 5 = 0
    · rw [if_pos (show nI (a % 5) = (0 : Int32) by rw [q]; rfl)]
      exact hput w (by rw [if_pos q])
    · rw [if_neg (nI_ne0 (by omega) (by omega))]
      exact hput 0 (by rw [if_neg q])
  · intro μ1 ⟨l1, l2, l3, l4⟩
    have e1 : fX9_readsTable_108 L o FU (nI i) (nI j) r (0 : Int32) μ = _ := l1
    have e15 : μ1 o 15 = nI T := by rw [l2 o (by omega)]; exact hT
    rw [e1, e15, ast_s (by omega) (by omega), up_ne (show o ≠ o + 10 by omega), e15, ast_s (by omega) (by omega), pu_s, up_ne (show o ≠ o + 11 by omega), up_ne (show o ≠ o + 10 by omega), e15, nI_1]
    refine ⟨_, rfl, fun x q1 q2 q3 q4 => ?_, fun k hk => ?_, up_aa _ _ _ _, fun t => ?_, fun t => ?_, fun k hk => ?_, fun k hk => ?_⟩
    · rw [up_ne q1, up_ne q3, up_ne q2, l2 x q4]
    · rw [up_an hk, up_ne (by omega), up_ne (by omega), l2 o (by omega)]
    · rw [up_ne (by omega), up_ne (by omega), up_g, l2 _ (by omega)]
    · rw [up_ne (by omega), up_g, up_ne (by omega), l2 _ (by omega)]
    · rw [up_ne (by omega), up_ne (by omega), up_ne (by omega)]; exact l3 k hk
    · rw [up_ne (by omega), up_ne (by omega), up_ne (by omega)]; exact l4 k hk
theorem q_readsTable (hP : PS d g) (hL : LR L o) (hT : RT o μ n x) (hn : n ≤ 200) (hx : ∀ j, j < n → 32 ≤ x j ∧ x j ≤ 126) (hK : KR o μ d g) {s : Nat} (hs : s ≤ 300) : Res o μ n x d g 98 s (fX9_readsTable L o (nI s) μ) := by
  have h10 := hL.2.2.2.2.2.2.2.2.2.1
  have h11 := hL.2.2.2.2.2.2.2.2.2.2.1
  have hd := hP.1
  have hN := hd.1
  have hT9 := hd.2.2.1
  have q1s := qs_le n x s 1
  have q2s := qs_le n x s 2
  have v0 := nvl_le n x (qs n x s 0)
  have v1 := nvl_le n x (qs n x s 1)
  have v2 := nvl_le n x (qs n x s 2)
  have h99 : (99 : Int32) = nI 100 - 1 := by decide
  unfold fX9_readsTable
  rw [hK.2.1]
  by_cases c0 : d.T = 9
  · rw [c0, if_pos (by decide)]
    exact Res.no ⟨fun _ _ _ _ _ _ => rfl, fun _ _ => rfl⟩ rfl (fun z => by have := (Gd_b.mp z.2.2).1; omega)
  · rw [if_neg (show ¬ nI d.T = (9 : Int32) from fun e => nNe (b := 9) c0 (by omega) (by decide) e), hK.1]
    obtain ⟨μ1, n1, n2, n3, n4⟩ := q_number hL hT hn hx (p := s) (a := 0) (b := d.N) (by omega) (by omega) (by omega)
    rw [show fX9_number L o (nI s) (0 : Int32) (nI d.N - 1) μ = _ from n1, bd_s]
    by_cases c1 : s < nx n x s ∧ 0 ≤ nvl n x s ∧ nvl n x s < d.N
    · have hi : vs n x s 0 < d.N := c1.2.2
      have n3' : μ1 o 20 = nI (vs n x s 0) := n3
      rw [if_pos c1, if_neg (by decide), ltx_s, n3', nI_1, (hK.frn n2).1]
      obtain ⟨μ2, m1, m2⟩ := q_more hL (hT.frn n2) hn hx (s := s) (k := 0) (a := vs n x s 0 + 1) (b := d.N) (by have := qs_le n x s (0 + 1); omega) (by omega) (by omega) n4
      have hF2 := FrN.trans n2 m1
      rcases m2 with ⟨e, c2, m3, m4⟩ | ⟨e, c2⟩
      · have hj : vs n x s 1 < d.N := c2.2.2.2
        have hij : vs n x s 0 < vs n x s 1 := c2.2.2.1
        have hK2 := hK.frn hF2
        rw [e, bd_s, if_neg (by decide), ltx_s, m3]
        have key : ∀ (r a f : Nat), a + r = d.T → r < f → (∀ t, t < a → ¬ (d.lo t = vs n x s 0 ∧ d.hi t = vs n x s 1)) → (fX9_readsTable_57 L o f (nI (vs n x s 0)) (nI (vs n x s 1)) (nI a) μ2 = some (0, μ2) ∧ ¬ ∀ t, t < d.T → ¬ (d.lo t = vs n x s 0 ∧ d.hi t = vs n x s 1)) ∨ (fX9_readsTable_57 L o f (nI (vs n x s 0)) (nI (vs n x s 1)) (nI a) μ2 = bd (fX9_more L o (nI 0) (nI 100 - 1) μ2) (fun b8 μ7 => fX9_readsTable_108 L o FU (nI (vs n x s 0)) (nI (vs n x s 1)) b8 (0 : Int32) μ7) ∧ ∀ t, t < d.T → ¬ (d.lo t = vs n x s 0 ∧ d.hi t = vs n x s 1)) := by
          intro r
          induction r with
          | zero =>
            intro a f h1 h2 h3
            obtain ⟨f, rfl⟩ : ∃ j, f = j + 1 := ⟨f - 1, by omega⟩
            have h1 : a = d.T := by omega
            subst h1
            right
            refine ⟨?_, h3⟩
            simp only [fX9_readsTable_57]
            unfold fX9_readsTable_57_b
            rw [hK2.2.1, if_pos (nI_le (Nat.le_refl _) (by omega)), h99]
            rfl
          | succ r ih =>
            intro a f h1 h2 h3
            obtain ⟨f, rfl⟩ : ∃ j, f = j + 1 := ⟨f - 1, by omega⟩
            have ha : a < d.T := by omega
            have hl := Sp.hl hd ha
            have hnext : (¬ (d.lo a = vs n x s 0 ∧ d.hi a = vs n x s 1)) → _ := fun q => ih (a + 1) f (by omega) (by omega) (fun t ht => by
              by_cases e : t = a
              · subst e; exact q
              · exact h3 t (by omega))
            simp only [fX9_readsTable_57]
            unfold fX9_readsTable_57_b fX9_readsTable_90
            rw [hK2.2.1, if_neg (nI_ge ha (by omega)), ald_s (by omega) (by omega), hK2.2.2.2.2.1 a ha]
            rw [ald_s (by omega) (by omega), hK2.2.2.2.2.2.1 a ha]
            simp only [neq (show d.lo a < 2 ^ 31 by omega) (show vs n x s 0 < 2 ^ 31 by omega), neq (show d.hi a < 2 ^ 31 by omega) (show vs n x s 1 < 2 ^ 31 by omega), ltx_s, nI_1]
            by_cases z1 : d.lo a = vs n x s 0
            · rw [if_pos z1]
              by_cases z2 : d.hi a = vs n x s 1
              · rw [if_pos z2]
                exact Or.inl ⟨rfl, fun e => e a ha ⟨z1, z2⟩⟩
              · rw [if_neg z2]
                exact hnext (fun e => z2 e.2)
            · rw [if_neg z1]
              exact hnext (fun e => z1 e.1)
        rcases key d.T 0 FU (by omega) (FU_gt (by omega)) (fun t ht => by omega) with ⟨ek, c5⟩ | ⟨ek, c5⟩
        · rw [show fX9_readsTable_57 L o FU (nI (vs n x s 0)) (nI (vs n x s (0 + 1))) (0 : Int32) μ2 = _ from ek]
          exact Res.no hF2.frx rfl (fun z => c5 (Gd_b.mp z.2.2).2.2.2.2)
        · rw [show fX9_readsTable_57 L o FU (nI (vs n x s 0)) (nI (vs n x s (0 + 1))) (0 : Int32) μ2 = _ from ek]
          obtain ⟨μ3, p1, p2⟩ := q_more hL (hT.frn hF2) hn hx (s := s) (k := 1) (a := 0) (b := 100) (by have := qs_le n x s (1 + 1); omega) (by omega) (by omega) m4
          have hF3 := FrN.trans hF2 p1
          have hK3 := hK.frn hF3
          rcases p2 with ⟨e3, c3, p3, p4⟩ | ⟨e3, c3⟩
          · rw [e3, bd_s]
            obtain ⟨μ4, t1, t2, t3, t4, t5, t6, t7, t8⟩ := q_table108 (μ := μ3) (i := vs n x s 0) (j := vs n x s 1) hL (show d.T < 9 by omega) hK3.2.1 p3 1
            have hz := Sp.hz hd hi
            have hz2 := Sp.hz hd hj
            rw [t1, z_1]
            refine ⟨μ4, FrX.trans hF3.frx ⟨fun x q1 q2 q3 q4 q5 => t2 x q1 q3 q4 q5, fun j hj => t3 j (by omega)⟩, Or.inl ⟨rfl, ⟨fun k hk => ?_, fun k hk => ?_, Gd_b.mpr ⟨by omega, hi, hj, hij, c5⟩⟩, ?_, ?_⟩⟩
            · have hk : k < 3 := hk
              rcases (show k = 0 ∨ k = 1 ∨ k = 2 by omega) with rfl | rfl | rfl
              · exact c1.1
              · exact c2.2.1
              · exact c3.2.1
            · have hk : k + 1 < 3 := hk
              rcases (show k = 0 ∨ k = 1 by omega) with rfl | rfl
              · exact c2.1
              · exact c3.1
            · rw [dN_b, gN_b]
              obtain ⟨a1, a2, a3, a4, a5, a6, a7, a8, a9⟩ := hK3
              have hpin : ∀ t a b, t < d.T → a < 4 → b < 4 → pi t a b < 24 + 16 * d.T := fun t a b h1 h2 h3 => by unfold pi; omega
              refine ⟨?_, t4, ?_, ?_, ?_, ?_, ?_, ?_, ?_⟩
              · rw [t3 13 (by decide)]; exact a1
              · rw [t3 18 (by decide)]; exact a3
              · intro i hi; rw [t2 _ (by omega) (by omega) (by omega) (by omega)]; exact a4 i hi
              · intro t ht
                have ht : t < d.T + 1 := ht
                rw [t5]
                show _ = nI (gu d.lo d.T (vs n x s 0) t)
                by_cases z : t = d.T
                · rw [if_pos z, z, gu_at]
                · rw [if_neg z, gu_ne z]; exact a5 t (by omega)
              · intro t ht
                have ht : t < d.T + 1 := ht
                rw [t6]
                show _ = nI (gu d.hi d.T (vs n x s 1) t)
                by_cases z : t = d.T
                · rw [if_pos z, z, gu_at]
                · rw [if_neg z, gu_ne z]; exact a6 t (by omega)
              · intro k hk
                rw [t8 k (by omega), fo_dn (fun a ha => by unfold pi; omega)]
                exact a7 k hk
              · rw [t8 168 (by omega), fo_dn (fun a ha => by unfold pi; omega)]
                exact a8
              · intro t a b h1 h2 h3
                have h1 : t < d.T + 1 := h1
                have h2 : a < d.z (gu d.lo d.T (vs n x s 0) t) := h2
                have h3 : b < d.z (gu d.hi d.T (vs n x s 1) t) := h3
                by_cases z : t = d.T
                · rw [z, gu_at] at h2 h3
                  have e5 : pi t a b = 24 + 16 * d.T + (4 * a + b) := by rw [z]; unfold pi; omega
                  rw [e5, t7 _ (by omega), ← e5, z]
                  by_cases zz : a = b
                  · subst zz
                    rw [if_pos (by omega), fo_dy (by omega)]
                  · rw [if_neg (by omega), fo_dn (fun a' ha' => by unfold pi; omega), hP.2.2 d.T a b (Nat.le_refl _) (by omega) (by omega) (by omega)]
                    rfl
                · rw [gu_ne z] at h2 h3
                  have hl := Sp.hl hd (show t < d.T by omega)
                  have y1 := Sp.hz hd hl.1
                  have y2 := Sp.hz hd hl.2.1
                  rw [t8 _ (Or.inl (hpin t a b (by omega) (by omega) (by omega))), fo_dn (fun a' ha' => by have := hpin t a b (by omega) (by omega) (by omega); unfold pi at this ⊢; omega)]
                  exact a9 t a b (by omega) h2 h3
            · rw [t3 21 (by decide)]; exact p4
          · rw [e3, bd_s]
            obtain ⟨μ4, t1, t2, t3, t4, t5, t6, t7, t8⟩ := q_table108 (μ := μ3) (i := vs n x s 0) (j := vs n x s 1) hL (show d.T < 9 by omega) hK3.2.1 rfl 0
            rw [t1, z_0]
            exact Res.no (FrX.trans hF3.frx ⟨fun x q1 q2 q3 q4 q5 => t2 x q1 q3 q4 q5, fun j hj => t3 j (by omega)⟩) rfl (fun z => c3 ⟨z.2.1 1 (by decide), z.1 2 (by decide), Nat.zero_le _, Nat.lt_succ_of_le (nvl_le _ _ _)⟩)
      · rw [e, bd_s, if_pos rfl]
        refine Res.no hF2.frx rfl (fun z => c2 ⟨z.2.1 0 (by decide), z.1 1 (by decide), ?_, (Gd_b.mp z.2.2).2.2.1⟩)
        exact (Gd_b.mp z.2.2).2.2.2.1
    · rw [if_neg c1, if_pos rfl]
      exact Res.no n2.frx rfl (fun z => c1 ⟨z.1 0 (by decide), Nat.zero_le _, (Gd_b.mp z.2.2).2.1⟩)
end PRs
