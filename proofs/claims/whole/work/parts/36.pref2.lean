/-! the reference's directed sweeps, settling -/
def ZR (o : Nat) : Nat → Prop := fun x => x = o + 13
theorem rZR (o : Nat) : rZ (ZR o) o := by
  refine ⟨?_, ?_, ?_, ?_⟩ <;> intro q <;> unfold ZR at q <;> omega
theorem rZF (o : Nat) : rZ nF o := ⟨id, id, id, id⟩
section PQ2
variable {L : Nat → Nat} {o : Nat} {μ : Mem} {d : Sp} {g : Nat → Nat} {μ0 : Mem}
/-- with P of each value in the row 'most', from the second loop on -/
theorem q_direct2 (hd : d.ok) (hL : LR L o) (hC0 : RS o μ0 d) (hS : Sto d (ZR o) (o + 6) ei μ0 μ g) (hb : gb d g) {t : Nat} (ht : t < d.T) (hM : ∀ a, a < d.z (d.lo t) → μ (o + 13) a = nI (Pd d t g a)) : ∃ μ', fX9_directs_135 L o FU (nI t) (nI (d.lo t)) (nI (d.hi t)) (0 : Int32) μ = some μ' ∧ Sto d (ZR o) (o + 6) ei μ0 μ' (fo (dirP d t g) (d.z (d.lo t)) (fo (dirE d t g) (d.z (d.hi t)) g)) := by
  have htp := hd.2.2.2.2.2
  have hl := Sp.hl hd ht
  have hzl := Sp.hz hd hl.1
  have hzh := Sp.hz hd hl.2.1
  have hZ := rZR o
  have hL13 := hL.2.2.2.2.2.2.2.2.2.2.2.2.1
  have hPl := fun a => Pd_le (d := d) (g := g) t a
  have hEl := fun b => Ed_le (d := d) (g := g) t b
  refine Exists.elim (lpI (fun k b μ => fX9_directs_135 L o k (nI t) (nI (d.lo t)) (nI (d.hi t)) (nI b) μ) (fun μ => fX9_directs_233 L o FU (nI t) (nI (d.lo t)) (0 : Int32) μ) (fun b μ => Sto d (ZR o) (o + 6) ei μ0 μ (fo (dirE d t g) b g) ∧ gb d (fo (dirE d t g) b g) ∧ ∀ a, a < d.z (d.lo t) → μ (o + 13) a = nI (Pd d t g a)) (d.z (d.hi t)) ?_ ?_ (d.z (d.hi t)) 0 μ FU (by omega) (FU_gt (by omega)) ⟨hS, hb, hM⟩) ?_
  · intro k μ ⟨h1, h2, h3⟩
    have hC' := hC0.sto h1 hZ
    simp only [fX9_directs_135]
    unfold fX9_directs_135_b
    rw [q_many hd hL hC' hl.2.1, if_pos (nI_le (Nat.le_refl _) (by omega))]
  · intro k b μ hbz ⟨h1, h2, h3⟩
    have hC' := hC0.sto h1 hZ
    have hE1 := hEl b
    have hgb := gb_dirE hd (g0 := g) h2 ht hbz
    have hpair : ∀ a, a < d.z (d.lo t) → fo (dirE d t g) b g (pi t a b) = g (pi t a b) := fun a ha => (dirE_ge (g0 := g) hd hb ht ha hbz b (by omega)).1 (Nat.le_refl _)
    have hsing := (dirE_ge (g0 := g) hd hb ht (a := 0) (b := b) (by omega) hbz b (by omega)).2.2 (Nat.le_refl _)
    simp only [fX9_directs_135]
    unfold fX9_directs_135_b
    rw [q_many hd hL hC' hl.2.1, if_neg (nI_ge hbz (by omega))]
    have key : fX9_directs_152 L o (fX9_directs_135 L o k) FU (nI t) (nI (d.lo t)) (nI (d.hi t)) (nI b) (0 : Int32) (0 : Int32) μ = if nI (Ed d t g b) ≤ 0 then fX9_directs_224 L o (fX9_directs_135 L o k) (nI t) (nI (d.lo t)) (nI (d.hi t)) (nI b) μ else bv (fX9_extendsBy L o (nI t) (1 : Int32) (nI b) (nI (Ed d t g b)) μ) (fun μ9 => fX9_directs_224 L o (fX9_directs_135 L o k) (nI t) (nI (d.lo t)) (nI (d.hi t)) (nI b) μ9) := by
      refine lpC (fun kk a => fX9_directs_152 L o (fX9_directs_135 L o k) kk (nI t) (nI (d.lo t)) (nI (d.hi t)) (nI b) (nI (mx (fun a => Pd d t g a - g (pi t a b)) a)) (nI a) μ) _ (d.z (d.lo t)) ?_ ?_ (d.z (d.lo t)) 0 FU (by omega) (FU_gt (by omega))
      · intro kk
        simp only [fX9_directs_152]
        unfold fX9_directs_152_b
        rw [q_many hd hL hC' hl.1, if_pos (nI_le (Nat.le_refl _) (by omega))]
        rfl
      · intro kk a ha
        have hP1 := hPl a
        have h5 := hb _ (Sp.Up ht ha hbz)
        have h6 : mx (fun a => Pd d t g a - g (pi t a b)) a ≤ 99 := mx_le _ (fun k hk => by have := hPl k; omega)
        simp only [fX9_directs_152]
        unfold fX9_directs_152_b fX9_directs_201
        rw [q_many hd hL hC' hl.1, if_neg (nI_ge ha (by omega)), ald_s (by omega) (by omega), h3 a ha, n0, q_pairAt (by decide), bd_s, show pk t 0 a b = pi t a b from rfl, q_get hd hL h1.2.2 (Sp.Up ht ha hbz), hpair a ha, ltx_s]
        have hms := max_sub (m := mx (fun a => Pd d t g a - g (pi t a b)) a) (p := Pd d t g a) (c := g (pi t a b)) (by omega) (by omega) (by omega)
        have e9 : nI (mx (fun a => Pd d t g a - g (pi t a b)) (a + 1)) = if nI (mx (fun a => Pd d t g a - g (pi t a b)) a) < nI (Pd d t g a) - nI (g (pi t a b)) then nI (Pd d t g a) - nI (g (pi t a b)) else nI (mx (fun a => Pd d t g a - g (pi t a b)) a) := by
          rw [hms]
          rfl
        rw [e9]
        by_cases q : nI (mx (fun a => Pd d t g a - g (pi t a b)) a) < nI (Pd d t g a) - nI (g (pi t a b))
        · rw [if_pos q, if_neg (Int32.not_le.mpr q), ltx_s, nI_1]
        · rw [if_neg q, if_pos (Int32.not_lt.mp q), ltx_s, nI_1]
    rw [key]
    unfold fX9_directs_224
    simp only [fo]
    by_cases hx : 0 < Ed d t g b
    · obtain ⟨μ', w1, w2⟩ := q_extendsBy (Z := nF) hd hL hC' (rZF o) (Sto.rf h1.2.2) h2 (s := 1) (by decide) ht (a := b) hbz (x := Ed d t g b) (by omega) (by
        show Ed d t g b ≤ fo (dirE d t g) b g (si (d.hi t) b)
        rw [hsing]
        exact Ed_single hbz)
      rw [if_neg (fun q => (nle0 (by omega)).mp q hx), n1, w1, bv_s, ltx_s, nI_add]
      refine ⟨μ', rfl, ?_, hgb, fun a' ha' => ?_⟩
      · rw [dirE, if_pos hx]
        exact h1.trans (w2.mono (fun x q => q.elim))
      · rw [w2.1 _ (by omega) (nF_not _)]
        exact h3 a' ha'
    · rw [if_pos ((nle0 (by omega)).mpr hx), ltx_s, nI_1]
      refine ⟨μ, rfl, ?_, hgb, h3⟩
      rw [dirE, if_neg hx]
      exact h1
  · intro μ1 ⟨t1, t2, t3, t4⟩
    have e3 : fX9_directs_135 L o FU (nI t) (nI (d.lo t)) (nI (d.hi t)) (0 : Int32) μ = _ := t1
    rw [e3]
    have hge := fun a b (ha : a < d.z (d.lo t)) (hbz : b < d.z (d.hi t)) => (dirE_ge hd hb ht ha hbz (d.z (d.hi t)) (Nat.le_refl _)).2.1 hbz
    generalize fo (dirE d t g) (d.z (d.hi t)) g = g2 at t2 t3 hge
    refine Exists.elim (lpI (fun k a μ => fX9_directs_233 L o k (nI t) (nI (d.lo t)) (nI a) μ) (fun μ => some μ) (fun a μ => Sto d (ZR o) (o + 6) ei μ0 μ (fo (dirP d t g) a g2) ∧ gb d (fo (dirP d t g) a g2) ∧ ∀ a', a' < d.z (d.lo t) → μ (o + 13) a' = nI (Pd d t g a')) (d.z (d.lo t)) ?_ ?_ (d.z (d.lo t)) 0 μ1 FU (by omega) (FU_gt (by omega)) ⟨t2, t3, t4⟩) ?_
    · intro k μ ⟨h1, h2, h3⟩
      have hC' := hC0.sto h1 hZ
      simp only [fX9_directs_233]
      unfold fX9_directs_233_b
      rw [q_many hd hL hC' hl.1, if_pos (nI_le (Nat.le_refl _) (by omega))]
    · intro k a μ ha ⟨h1, h2, h3⟩
      have hC' := hC0.sto h1 hZ
      have hP1 := hPl a
      simp only [fX9_directs_233]
      unfold fX9_directs_233_b fX9_directs_269
      have hgb := gb_dirP hd (g0 := g) h2 ht ha
      rw [q_many hd hL hC' hl.1, if_neg (nI_ge ha (by omega)), ald_s (by omega) (by omega), h3 a ha]
      simp only [fo]
      by_cases hx : 0 < Pd d t g a
      · obtain ⟨μ', w1, w2⟩ := q_projects (Z := nF) hd hL hC' (rZF o) (Sto.rf h1.2.2) h2 (s := 0) (by decide) ht ha (x := Pd d t g a) (by omega) (fun b hbz => by
          have e := dirP_pair (g := g2) (g0 := g) hd (a := a) ht hbz a (Nat.le_refl _) (by omega)
          show Pd d t g a ≤ fo (dirP d t g) a g2 (pi t a b)
          rw [e]
          exact hge a b ha hbz)
        rw [if_neg (fun q => (nle0 (by omega)).mp q hx), ald_s (by omega) (by omega), h3 a ha, n0, w1, bv_s, ltx_s, nI_1]
        refine ⟨μ', rfl, ?_, hgb, fun a' ha' => ?_⟩
        · rw [dirP, if_pos hx]
          exact h1.trans (w2.mono (fun x q => q.elim))
        · rw [w2.1 _ (by omega) (nF_not _)]
          exact h3 a' ha'
      · rw [if_pos ((nle0 (by omega)).mpr hx), ltx_s, nI_1]
        refine ⟨μ, rfl, ?_, hgb, h3⟩
        rw [dirP, if_neg hx]
        exact h1
    · intro μ5 ⟨v1, v2, v3, v4⟩
      exact ⟨μ5, v1, v2⟩
theorem q_direct (hd : d.ok) (hL : LR L o) (hC0 : RS o μ0 d) (hS : Sto d (ZR o) (o + 6) ei μ0 μ g) (hb : gb d g) {t : Nat} (ht : t < d.T) : ∃ μ', fX9_directs L o (nI t) μ = some μ' ∧ Sto d (ZR o) (o + 6) ei μ0 μ' (dirG d t g) := by
  have htp := hd.2.2.2.2.2
  have hl := Sp.hl hd ht
  have hzl := Sp.hz hd hl.1
  have hzh := Sp.hz hd hl.2.1
  have hZ := rZR o
  have hL13 := hL.2.2.2.2.2.2.2.2.2.2.2.2.1
  obtain ⟨μ1, q1, q2⟩ := q_shuts hd hL hC0 hZ hS hb ht
  have b1 := gb_tpT (d := d) hb (t := t)
  unfold dirG
  generalize tpT d t g = g1 at q2 b1
  have hC1 := hC0.sto q2 hZ
  have hPl := fun a => Pd_le (d := d) (g := g1) t a
  unfold fX9_directs
  rw [q1, bv_s, q_lo hd hL hC1 ht, q_hi hd hL hC1 ht]
  refine Exists.elim (lpI (fun k a μ => fX9_directs_22 L o k (nI t) (nI (d.lo t)) (nI (d.hi t)) (nI a) μ) (fun μ => fX9_directs_135 L o FU (nI t) (nI (d.lo t)) (nI (d.hi t)) (0 : Int32) μ) (fun a μ => Sto d (ZR o) (o + 6) ei μ0 μ g1 ∧ ∀ a', a' < a → μ (o + 13) a' = nI (Pd d t g1 a')) (d.z (d.lo t)) ?_ ?_ (d.z (d.lo t)) 0 μ1 FU (by omega) (FU_gt (by omega)) ⟨q2, fun a' h => by omega⟩) ?_
  · intro k μ ⟨h1, h2⟩
    have hC' := hC0.sto h1 hZ
    simp only [fX9_directs_22]
    unfold fX9_directs_22_b
    rw [q_many hd hL hC' hl.1, if_pos (nI_le (Nat.le_refl _) (by omega))]
  · intro k a μ ha ⟨h1, h2⟩
    have hC' := hC0.sto h1 hZ
    simp only [fX9_directs_22]
    unfold fX9_directs_22_b
    rw [q_many hd hL hC' hl.1, if_neg (nI_ge ha (by omega)), ast_s (by omega) (by omega), hC'.2.2.1]
    have h1' : Sto d (ZR o) (o + 6) ei μ0 (up μ (o + 13) a (nI d.tp)) g1 := stoz h1 rfl (by omega)
    refine Exists.elim (lpI (fun kk b μ => fX9_directs_47 L o (fX9_directs_22 L o k) kk (nI t) (nI (d.lo t)) (nI (d.hi t)) (nI a) (nI b) μ) (fun μ => fX9_directs_22 L o k (nI t) (nI (d.lo t)) (nI (d.hi t)) (nI (a + 1)) μ) (fun b μ => Sto d (ZR o) (o + 6) ei μ0 μ g1 ∧ (∀ a', a' < a → μ (o + 13) a' = nI (Pd d t g1 a')) ∧ μ (o + 13) a = nI (mn (fun b => sm d.tp (g1 (pi t a b)) (g1 (si (d.hi t) b))) d.tp b)) (d.z (d.hi t)) ?_ ?_ (d.z (d.hi t)) 0 _ FU (by omega) (FU_gt (by omega)) ⟨h1', fun a' ha' => by rw [up_an (by omega)]; exact h2 a' ha', up_aa _ _ _ _⟩) ?_
    · intro kk μ ⟨h1, h2, h3⟩
      have hC' := hC0.sto h1 hZ
      simp only [fX9_directs_47]
      unfold fX9_directs_47_b
      rw [q_many hd hL hC' hl.2.1, if_pos (nI_le (Nat.le_refl _) (by omega)), ltx_s, nI_1]
    · intro kk b μ hbz ⟨h1, h2, h3⟩
      have hC' := hC0.sto h1 hZ
      have k1 := b1 _ (Sp.Up ht ha hbz)
      have k2 := b1 _ (Sp.Us hl.2.1 hbz)
      have k3 := sm_le d.tp (g1 (pi t a b)) (g1 (si (d.hi t) b))
      have k4 := mn_le (fun b => sm d.tp (g1 (pi t a b)) (g1 (si (d.hi t) b))) d.tp b
      simp only [fX9_directs_47]
      unfold fX9_directs_47_b fX9_directs_119
      rw [q_many hd hL hC' hl.2.1, if_neg (nI_ge hbz (by omega)), n0, q_pairAt (by decide), bd_s, show pk t 0 a b = pi t a b from rfl, q_get hd hL h1.2.2 (Sp.Up ht ha hbz), q_si, q_get hd hL h1.2.2 (Sp.Us hl.2.1 hbz), q_sum hd hC' (by omega) (by omega), bd_s, ald_s (by omega) (by omega), h3]
      by_cases q : sm d.tp (g1 (pi t a b)) (g1 (si (d.hi t) b)) < mn (fun b => sm d.tp (g1 (pi t a b)) (g1 (si (d.hi t) b))) d.tp b
      · rw [if_neg (nI_ge q (by omega)), ast_s (by omega) (by omega), ltx_s, nI_1]
        refine ⟨_, rfl, stoz h1 rfl (by omega), fun a' ha' => by rw [up_an (by omega)]; exact h2 a' ha', ?_⟩
        rw [up_aa]
        simp only [mn]
        rw [if_pos q]
      · rw [if_pos (nI_le (by omega) (by omega)), ald_s (by omega) (by omega), ast_s (by omega) (by omega), ltx_s, nI_1]
        refine ⟨_, rfl, stoz h1 rfl (by omega), fun a' ha' => by rw [up_an (by omega)]; exact h2 a' ha', ?_⟩
        rw [up_aa, h3]
        simp only [mn]
        rw [if_neg q]
    · intro μ' ⟨s1, s2, s3, s4⟩
      refine ⟨μ', s1, s2, fun a' ha' => ?_⟩
      by_cases q : a' = a
      · subst q
        exact s4
      · exact s3 a' (by omega)
  · intro μ2 ⟨r1, r2, r3⟩
    have e1 : fX9_directs_22 L o FU (nI t) (nI (d.lo t)) (nI (d.hi t)) (0 : Int32) μ1 = _ := r1
    rw [e1]
    exact q_direct2 hd hL hC0 r2 b1 ht r3
theorem q_dirJ (hd : d.ok) (hL : LR L o) (hC0 : RS o μ0 d) (hS : Sto d (ZR o) (o + 6) ei μ0 μ g) (hb : gb d g) {j : Nat} (hj : j < d.N) (v1 : Int32) (self33 : Int32 → Int32 → Mem → Option Mem) : ∃ μ', fX9_sweeps_44 L o self33 FU v1 (nI j) (0 : Int32) μ = self33 v1 (nI j + (-1)) μ' ∧ Sto d (ZR o) (o + 6) ei μ0 μ' (fo (dirJ d j) d.T g) := by
  have hT := hd.2.2.1
  have hN := hd.1
  have hZ := rZR o
  refine Exists.elim (lpI (fun k t μ => fX9_sweeps_44 L o self33 k v1 (nI j) (nI t) μ) (fun μ => self33 v1 (nI j + (-1)) μ) (fun t μ => Sto d (ZR o) (o + 6) ei μ0 μ (fo (dirJ d j) t g) ∧ gb d (fo (dirJ d j) t g)) d.T ?_ ?_ d.T 0 μ FU (by omega) (FU_gt (by omega)) ⟨hS, hb⟩) ?_
  · intro k μ ⟨h1, h2⟩
    have hC := hC0.sto h1 hZ
    simp only [fX9_sweeps_44]
    unfold fX9_sweeps_44_b
    rw [hC.2.1, if_pos (nI_le (Nat.le_refl _) (by omega)), ltx_s]
  · intro k t μ ht ⟨h1, h2⟩
    have hC := hC0.sto h1 hZ
    have hl := Sp.hl hd ht
    have hgb := gb_dirJ hd h2 (j := j) ht
    simp only [fX9_sweeps_44]
    unfold fX9_sweeps_44_b fX9_sweeps_67
    rw [hC.2.1, if_neg (nI_ge ht (by omega)), q_hi hd hL hC ht]
    simp only [fo]
    by_cases q : d.hi t = j
    · obtain ⟨μ1, q1, q2⟩ := q_direct hd hL hC0 h1 h2 ht
      rw [if_pos (nEq q), q1, bv_s, ltx_s, nI_1]
      refine ⟨μ1, rfl, ?_, hgb⟩
      rw [dirJ, if_pos q]
      exact q2
    · rw [if_neg (nNe q (by omega) (by omega)), ltx_s, nI_1]
      refine ⟨μ, rfl, ?_, hgb⟩
      rw [dirJ, if_neg q]
      exact h1
  · intro μ' ⟨h1, h2, h3⟩
    exact ⟨μ', h1, h2⟩
theorem q_sweeps (hd : d.ok) (hL : LR L o) (hC0 : RS o μ0 d) (hS : Sto d (ZR o) (o + 6) ei μ0 μ g) (hb : gb d g) {kind : Nat} (hk : kind < 3) : ∃ μ', fX9_sweeps L o (nI kind) μ = some μ' ∧ Sto d (ZR o) (o + 6) ei μ0 μ' (swG d kind g) := by
  have hN := hd.1
  have hT := hd.2.2.1
  have hZ := rZR o
  have fin : ∀ (μ : Mem) (g : Nat → Nat), Sto d (ZR o) (o + 6) ei μ0 μ g → gb d g → ∃ μ', fX9_sweeps_79 L o μ = some μ' ∧ Sto d (ZR o) (o + 6) ei μ0 μ' (nodesG d g) := by
    intro μ g h1 h2
    obtain ⟨μ', a1, a2⟩ := q_nodes hd hL hC0 hZ h1 h2
    unfold fX9_sweeps_79
    rw [a1, bv_s]
    exact ⟨μ', rfl, a2⟩
  have dir : ∀ (n k : Nat) (μ : Mem) (g : Nat → Nat), n ≤ d.N → n < k → Sto d (ZR o) (o + 6) ei μ0 μ g → gb d g → ∃ μ', fX9_sweeps_33 L o k (nI 2) (nI n + (-1)) μ = some μ' ∧ Sto d (ZR o) (o + 6) ei μ0 μ' (nodesG d (fd (fun j => fo (dirJ d j) d.T) n g)) := by
    intro n
    induction n with
    | zero =>
      intro k μ g h1 h2 h3 h4
      obtain ⟨k, rfl⟩ : ∃ j, k = j + 1 := ⟨k - 1, by omega⟩
      simp only [fX9_sweeps_33]
      unfold fX9_sweeps_33_b
      rw [if_pos (by decide)]
      exact fin μ g h3 h4
    | succ n ih =>
      intro k μ g h1 h2 h3 h4
      obtain ⟨k, rfl⟩ : ∃ j, k = j + 1 := ⟨k - 1, by omega⟩
      simp only [fX9_sweeps_33]
      unfold fX9_sweeps_33_b
      rw [pk_m1, if_neg (nI_pos (by omega)), if_pos (by decide)]
      obtain ⟨μ1, q1, q2⟩ := q_dirJ hd hL hC0 h3 h4 (j := n) (by omega) (nI 2) (fX9_sweeps_33 L o k)
      rw [q1]
      exact ih k μ1 _ (by omega) (by omega) q2 (fo_ind h4 (fun _ _ hi h => gb_dirJ hd h hi))
  have no : ∀ (v : Int32) (μ : Mem) (g : Nat → Nat), v ≠ 2 → Sto d (ZR o) (o + 6) ei μ0 μ g → gb d g → ∃ μ', fX9_sweeps_26 L o v μ = some μ' ∧ Sto d (ZR o) (o + 6) ei μ0 μ' (nodesG d g) := by
    intro v μ g hv h1 h2
    obtain ⟨k, hk⟩ : ∃ k, FU = k + 1 := ⟨99999, rfl⟩
    unfold fX9_sweeps_26
    rw [ltx_s, hk]
    simp only [fX9_sweeps_33]
    unfold fX9_sweeps_33_b
    rw [if_neg hv]
    split
    · exact fin μ g h1 h2
    · exact fin μ g h1 h2
  have loop : ∀ (v : Int32), v ≠ 1 → ∀ μ : Mem, fX9_sweeps L o v μ = fX9_sweeps_26 L o v μ := by
    intro v hv μ
    obtain ⟨k, hk⟩ : ∃ k, FU = k + 1 := ⟨99999, rfl⟩
    unfold fX9_sweeps
    rw [hk]
    simp only [fX9_sweeps_2]
    unfold fX9_sweeps_2_b
    rw [if_neg hv]
    split <;> rfl
  unfold swG
  rcases (show kind = 0 ∨ kind = 1 ∨ kind = 2 by omega) with rfl | rfl | rfl
  · rw [loop (nI 0) (by decide), if_neg (by decide), if_neg (by decide)]
    exact no (nI 0) μ g (by decide) hS hb
  · rw [if_pos rfl]
    unfold fX9_sweeps
    refine Exists.elim (lpI (fun k t μ => fX9_sweeps_2 L o k (nI 1) (nI t) μ) (fun μ => fX9_sweeps_26 L o (nI 1) μ) (fun t μ => Sto d (ZR o) (o + 6) ei μ0 μ (fo (arcG d) t g) ∧ gb d (fo (arcG d) t g)) d.T ?_ ?_ d.T 0 μ FU (by omega) (FU_gt (by omega)) ⟨hS, hb⟩) ?_
    · intro k μ ⟨h1, h2⟩
      have hC := hC0.sto h1 hZ
      simp only [fX9_sweeps_2]
      unfold fX9_sweeps_2_b
      rw [hC.2.1, if_pos (nI_le (Nat.le_refl _) (by omega))]
    · intro k t μ ht ⟨h1, h2⟩
      have hC := hC0.sto h1 hZ
      simp only [fX9_sweeps_2]
      unfold fX9_sweeps_2_b
      obtain ⟨μ1, q1, q2⟩ := q_arc hd hL hC0 hZ h1 h2 ht
      rw [hC.2.1, if_neg (nI_ge ht (by omega)), if_pos (by decide), q1, bv_s, ltx_s, nI_1]
      exact ⟨μ1, rfl, q2, gb_arc hd h2 ht⟩
    · intro μ' ⟨h1, h2, h3⟩
      obtain ⟨μ2, a1, a2⟩ := no (nI 1) μ' _ (by decide) h2 h3
      exact ⟨μ2, h1.trans a1, a2⟩
  · rw [loop (nI 2) (by decide), if_neg (by decide), if_pos rfl]
    have hC := hC0.sto hS hZ
    unfold fX9_sweeps_26
    rw [ltx_s, hC.1, Int32.sub_eq_add_neg]
    exact dir d.N FU μ g (Nat.le_refl _) (FU_gt (by omega)) hS hb
end PQ2
