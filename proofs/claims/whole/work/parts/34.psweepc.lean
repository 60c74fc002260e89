/-! the class's sweeps -/
abbrev nF : Nat → Prop := fun _ => False
theorem nZF (o : Nat) : nZ nF o := ⟨id, id, id, id⟩
def LSw (L : Nat → Nat) (w : Nat) : Prop := L (w + 1 + 1) = 169 ∧ L (w + 3 + 1) = 4 ∧ L (w + 5 + 1) = 4
def ZT (w : Nat) : Nat → Prop := fun x => x = w + 3 + 1 ∨ x = w + 5 + 1
theorem nZT {w o : Nat} (h : o + 8 < w) : nZ (ZT w) o := by
  refine ⟨?_, ?_, ?_, ?_⟩ <;> intro q <;> rcases q with q | q <;> omega
def ZS (w : Nat) : Nat → Prop := fun x => x = w + 1 + 1 ∨ x = w + 3 + 1 ∨ x = w + 5 + 1
theorem nZS {w o : Nat} (h : o + 8 < w) : nZ (ZS w) o := by
  refine ⟨?_, ?_, ?_, ?_⟩ <;> intro q <;> rcases q with q | q | q <;> omega
section PSC
variable {L : Nat → Nat} {o : Nat} {μ : Mem} {d : Sp} {g : Nat → Nat} {Z : Nat → Prop} {μ0 : Mem}
theorem nle0 {x : Nat} (h : x < 2 ^ 31) : (nI x ≤ 0) ↔ ¬ 0 < x := by
  rw [n0, nI_leI h (by decide)]
  omega
theorem s_node (hd : d.ok) (hL : LC L o) (hC0 : CS o μ0 d) (hZ : nZ Z o) (hS : Sto d Z (o + 7 + 1) cx μ0 μ g) (hb : gb d g) {i : Nat} (hi : i < d.N) {X : Type} (A : Mem → Option X) (B : Mem → Option X)
    (hAB : ∀ μ1, A μ1 = bv (fX0_topShutSingles L o (nI i) μ1) B) : ∃ μ', (bd (fX0_leastSingle L o (nI i) μ) (fun b6 μ5 => (if b6 ≤ 0 then A μ5 else bv (fX0_moveToConstant L o (nI i) b6 μ5) (fun μ7 => A μ7)))) = B μ' ∧ Sto d Z (o + 7 + 1) cx μ0 μ' (nodeG d i g) := by
  have htp := hd.2.2.2.2.2
  have hC := hC0.sto hS hZ
  have hm := mn_le (fun a => g (si i a)) d.tp (d.z i)
  have hat := mn_at (fun a => g (si i a)) d.tp (d.z i)
  rw [c_leastSingle hd hL hC hS.2.2 hb hi, bd_s]
  unfold nodeG
  by_cases hx : 0 < mn (fun a => g (si i a)) d.tp (d.z i)
  · rw [if_neg (fun q => (nle0 (by omega)).mp q hx), if_pos hx]
    obtain ⟨μ1, h1, h2⟩ := c_moveToConstant hd hL hC0 hZ hS hb hi (x := mn (fun a => g (si i a)) d.tp (d.z i)) (by omega) hat
    rw [h1, bv_s, hAB]
    obtain ⟨μ2, h3, h4⟩ := c_topShut hd hL hC0 hZ h2 (gb_mvC hb hi) hi
    rw [h3, bv_s]
    exact ⟨μ2, rfl, h4⟩
  · rw [if_pos ((nle0 (by omega)).mpr hx), if_neg hx, hAB]
    obtain ⟨μ2, h3, h4⟩ := c_topShut hd hL hC0 hZ hS hb hi
    rw [h3, bv_s]
    exact ⟨μ2, rfl, h4⟩
theorem s_nodes (hd : d.ok) (hL : LC L o) (hC0 : CS o μ0 d) (hZ : nZ Z o) (hS : Sto d Z (o + 7 + 1) cx μ0 μ g) (hb : gb d g) : ∃ μ', fX5_doNodes L o μ = some μ' ∧ Sto d Z (o + 7 + 1) cx μ0 μ' (nodesG d g) := by
  have hN := hd.1
  unfold fX5_doNodes
  refine Exists.elim (lpI (fun k i μ => fX5_doNodes_2 L o k (nI i) μ) (fun μ => some μ) (fun i μ => Sto d Z (o + 7 + 1) cx μ0 μ (fo (nodeG d) i g) ∧ gb d (fo (nodeG d) i g)) d.N ?_ ?_ d.N 0 μ FU (by omega) (FU_gt (by omega)) ⟨hS, hb⟩) ?_
  · intro k μ ⟨h1, h2⟩
    have hC := hC0.sto h1 hZ
    simp only [fX5_doNodes_2]
    unfold fX5_doNodes_2_b fX0_names
    rw [bd_s, hC.1, if_pos (nI_le (Nat.le_refl _) (by omega))]
  · intro k i μ hi ⟨h1, h2⟩
    have hC := hC0.sto h1 hZ
    simp only [fX5_doNodes_2]
    unfold fX5_doNodes_2_b fX0_names
    rw [bd_s, hC.1, if_neg (nI_ge hi (by omega))]
    obtain ⟨μ', h3, h4⟩ := s_node hd hL hC0 hZ h1 h2 hi (fX5_doNodes_26 L o (fX5_doNodes_2 L o k) (nI i)) (fun μ1 => fX5_doNodes_2 L o k (nI (i + 1)) μ1) (fun μ1 => by
      unfold fX5_doNodes_26
      congr 1
      funext μ2
      rw [ltx_s, nI_1])
    exact ⟨μ', h3, h4, gb_node h2 hi⟩
  · intro μ' ⟨h1, h2, h3⟩
    exact ⟨μ', h1, h2⟩
theorem s_pls (hd : d.ok) (hL : LC L o) (hC0 : CS o μ0 d) (hZ : nZ Z o) (hS : Sto d Z (o + 7 + 1) cx μ0 μ g) (hb : gb d g) {s t : Nat} (hs : s < 2) (ht : t < d.T) : ∃ μ', fX5_projectLeasts L o (nI t) (nI s) μ = some μ' ∧ Sto d Z (o + 7 + 1) cx μ0 μ' (plsG d t s g) := by
  have htp := hd.2.2.2.2.2
  have hz := Sp.hz hd (Sp.nm_lt hd (s := s) ht)
  unfold fX5_projectLeasts
  refine Exists.elim (lpI (fun k a μ => fX5_projectLeasts_2 L o k (nI t) (nI s) (nI a) μ) (fun μ => some μ) (fun a μ => Sto d Z (o + 7 + 1) cx μ0 μ (fo (plG d t s) a g) ∧ gb d (fo (plG d t s) a g)) (d.z (d.nm s t)) ?_ ?_ (d.z (d.nm s t)) 0 μ FU (by omega) (FU_gt (by omega)) ⟨hS, hb⟩) ?_
  · intro k μ ⟨h1, h2⟩
    have hC := hC0.sto h1 hZ
    simp only [fX5_projectLeasts_2]
    unfold fX5_projectLeasts_2_b
    rw [c_valuesOn hd hL hC hs ht, bd_s, if_pos (nI_le (Nat.le_refl _) (by omega))]
  · intro k a μ ha ⟨h1, h2⟩
    have hC := hC0.sto h1 hZ
    have hm := mn_le (fun b => fo (plG d t s) a g (pk t s a b)) d.tp (d.z (d.nm (1 - s) t))
    have hat := mn_at (fun b => fo (plG d t s) a g (pk t s a b)) d.tp (d.z (d.nm (1 - s) t))
    simp only [fX5_projectLeasts_2]
    unfold fX5_projectLeasts_2_b fX5_projectLeasts_35
    rw [c_valuesOn hd hL hC hs ht, bd_s, if_neg (nI_ge ha (by omega)), c_leastPairOf hd hL hC h1.2.2 h2 hs ht ha, bd_s]
    have hgb := gb_pl hd h2 hs ht ha
    simp only [fo]
    by_cases hx : 0 < mn (fun b => fo (plG d t s) a g (pk t s a b)) d.tp (d.z (d.nm (1 - s) t))
    · obtain ⟨μ1, h3, h4⟩ := c_moveToValue hd hL hC0 hZ h1 h2 hs ht ha (x := mn (fun b => fo (plG d t s) a g (pk t s a b)) d.tp (d.z (d.nm (1 - s) t))) (by omega) hat
      rw [if_neg (fun q => (nle0 (by omega)).mp q hx), h3, bv_s, ltx_s, nI_1]
      refine ⟨μ1, rfl, ?_, hgb⟩
      rw [plG, if_pos hx]
      exact h4
    · rw [if_pos ((nle0 (by omega)).mpr hx), ltx_s, nI_1]
      refine ⟨μ, rfl, ?_, hgb⟩
      rw [plG, if_neg hx]
      exact h1
  · intro μ' ⟨h1, h2, h3⟩
    exact ⟨μ', h1, h2⟩
theorem s_arcs (hd : d.ok) (hL : LC L o) (hC0 : CS o μ0 d) (hZ : nZ Z o) (hS : Sto d Z (o + 7 + 1) cx μ0 μ g) (hb : gb d g) : ∃ μ', fX5_doArcs L o μ = some μ' ∧ Sto d Z (o + 7 + 1) cx μ0 μ' (arcsG d g) := by
  have hT := hd.2.2.1
  unfold fX5_doArcs
  refine Exists.elim (lpI (fun k t μ => fX5_doArcs_2 L o k (nI t) μ) (fun μ => some μ) (fun t μ => Sto d Z (o + 7 + 1) cx μ0 μ (fo (arcG d) t g) ∧ gb d (fo (arcG d) t g)) d.T ?_ ?_ d.T 0 μ FU (by omega) (FU_gt (by omega)) ⟨hS, hb⟩) ?_
  · intro k μ ⟨h1, h2⟩
    have hC := hC0.sto h1 hZ
    simp only [fX5_doArcs_2]
    unfold fX5_doArcs_2_b fX0_tables
    rw [bd_s, hC.2.1, if_pos (nI_le (Nat.le_refl _) (by omega))]
  · intro k t μ ht ⟨h1, h2⟩
    have hC := hC0.sto h1 hZ
    simp only [fX5_doArcs_2]
    unfold fX5_doArcs_2_b fX0_tables
    obtain ⟨μ1, q1, q2⟩ := c_topPairs hd hL hC0 hZ h1 h2 ht
    have b1 := gb_tpT (d := d) h2 (t := t)
    obtain ⟨μ2, q3, q4⟩ := s_pls hd hL hC0 hZ q2 b1 (s := 0) (by decide) ht
    have b2 := gb_pls hd b1 (s := 0) (by decide) ht
    obtain ⟨μ3, q5, q6⟩ := s_pls hd hL hC0 hZ q4 b2 (s := 1) (by decide) ht
    rw [bd_s, hC.2.1, if_neg (nI_ge ht (by omega)), q1, bv_s, n0, q3, bv_s, n1, q5, bv_s, ltx_s, nI_add]
    exact ⟨μ3, rfl, q6, gb_arc hd h2 ht⟩
  · intro μ' ⟨h1, h2, h3⟩
    exact ⟨μ', h1, h2⟩
theorem s_reachOf (hd : d.ok) (hL : LC L o) (hC : CS o μ d) (hg : Cg o μ d g) (hb : gb d g) {t a : Nat} (ht : t < d.T) (ha : a < d.z (d.lo t)) : fX5_reachOf L o (nI t) (nI a) μ = some (nI (Pd d t g a), μ) := by
  have htp := hd.2.2.2.2.2
  have hl := Sp.hl hd ht
  have hz := Sp.hz hd hl.2.1
  unfold fX5_reachOf fX0_top
  rw [c_nameOn1 hd hL hC ht, bd_s, bd_s, hC.2.2.1]
  refine lpC (fun k b => fX5_reachOf_16 L o k (nI t) (nI a) (nI (d.hi t)) (nI (mn (fun b => sm d.tp (g (pi t a b)) (g (si (d.hi t) b))) d.tp b)) (nI b) μ) _ (d.z (d.hi t)) ?_ ?_ (d.z (d.hi t)) 0 FU (by omega) (FU_gt (by omega))
  · intro k
    simp only [fX5_reachOf_16]
    unfold fX5_reachOf_16_b
    rw [c_valuesOf hd hL hC hl.2.1, bd_s, if_pos (nI_le (Nat.le_refl _) (by omega))]
    rfl
  · intro k b hbz
    have h1 := hb _ (Sp.Up ht ha hbz)
    have h2 := hb _ (Sp.Us hl.2.1 hbz)
    have h3 := sm_le d.tp (g (pi t a b)) (g (si (d.hi t) b))
    have h4 := mn_le (fun b => sm d.tp (g (pi t a b)) (g (si (d.hi t) b))) d.tp b
    simp only [fX5_reachOf_16]
    conv => lhs; unfold fX5_reachOf_16_b
    rw [c_valuesOf hd hL hC hl.2.1, bd_s, if_neg (nI_ge hbz (by omega)), c_pair hd hL hg ht ha hbz, bd_s, c_single hd hL hg hl.2.1 hbz, bd_s, c_sum hd hC (by omega) (by omega), bd_s, ltx_s, ltx_s, nI_1]
    congr 1
    rw [nif]
    congr 1
    simp only [mn]
    simp only [nlt (show sm d.tp (g (pi t a b)) (g (si (d.hi t) b)) < 2 ^ 31 by omega) (show mn (fun b => sm d.tp (g (pi t a b)) (g (si (d.hi t) b))) d.tp b < 2 ^ 31 by omega)]
theorem max_sub {m p c : Nat} (hm : m < 2 ^ 30) (hp : p < 2 ^ 30) (hc : c < 2 ^ 30) : (if nI m < nI p - nI c then nI p - nI c else nI m) = nI (if m < p - c then p - c else m) := by
  by_cases h : c ≤ p
  · rw [pk_sub h, nif]
    congr 1
    simp only [nlt (show m < 2 ^ 31 by omega) (show p - c < 2 ^ 31 by omega)]
  · have h1 := pk_sneg (a := p) (b := c) hc (by omega)
    have h2 : ¬ nI m < nI p - nI c := by
      intro q
      have h3 := Int32.lt_iff_toInt_lt.mp q
      have h4 := Int32.lt_iff_toInt_lt.mp h1
      rw [nI_toInt (by omega)] at h3
      have h5 : (0 : Int32).toInt = 0 := rfl
      omega
    rw [if_neg h2, if_neg (by omega)]
theorem s_needOf {w : Nat} (hd : d.ok) (hL : LC L o) (hLs : LSw L w) (hC : CS o μ d) (hg : Cg o μ d g) (hb : gb d g) {t b : Nat} (ht : t < d.T) (hbz : b < d.z (d.hi t)) {P : Nat → Nat} (hP : ∀ a, a < d.z (d.lo t) → μ (w + 3 + 1) a = nI (P a) ∧ P a ≤ 99) : fX5_needOf L w o (nI t) (nI b) μ = some (nI (mx (fun a => P a - g (pi t a b)) (d.z (d.lo t))), μ) := by
  have htp := hd.2.2.2.2.2
  have hl := Sp.hl hd ht
  have hz := Sp.hz hd hl.1
  unfold fX5_needOf
  refine lpC (fun k a => fX5_needOf_6 L w o k (nI t) (nI b) (nI (mx (fun a => P a - g (pi t a b)) a)) (nI a) μ) _ (d.z (d.lo t)) ?_ ?_ (d.z (d.lo t)) 0 FU (by omega) (FU_gt (by omega))
  · intro k
    simp only [fX5_needOf_6]
    unfold fX5_needOf_6_b
    rw [c_valuesOn0 hd hL hC ht, bd_s, if_pos (nI_le (Nat.le_refl _) (by omega))]
  · intro k a ha
    have h1 := hb _ (Sp.Up ht ha hbz)
    have h2 : mx (fun a => P a - g (pi t a b)) a ≤ 99 := mx_le _ (fun k hk => by have := (hP k (by omega)).2; omega)
    have h3 := (hP a ha).2
    simp only [fX5_needOf_6]
    conv => lhs; unfold fX5_needOf_6_b
    rw [c_valuesOn0 hd hL hC ht, bd_s, if_neg (nI_ge ha (by omega)), rget hLs.2.1 (by omega) (by decide), bd_s, c_pair hd hL hg ht ha hbz, bd_s, ltx_s, ltx_s, nI_1, (hP a ha).1, max_sub (by omega) (by omega) (by omega)]
    rfl
theorem stoz {c : Nat} {e : Nat → Nat} (h : Sto d Z c e μ0 μ g) {x j : Nat} {v : Int32} (hx : Z x) (hxc : x ≠ c) : Sto d Z c e μ0 (up μ x j v) g := by
  refine ⟨fun y h1 h2 => ?_, fun j hj => ?_, fun k hk => ?_⟩
  · rw [up_ne (show y ≠ x from fun q => h2 (by rw [q]; exact hx))]
    exact h.1 y h1 h2
  · rw [up_ne hxc.symm]
    exact h.2.1 j hj
  · rw [up_ne hxc.symm]
    exact h.2.2 k hk
theorem nF_not (x : Nat) : ¬ nF x := id
theorem s_direct {w : Nat} (hd : d.ok) (hL : LC L o) (hLs : LSw L w) (hwo : o + 8 < w) (hC0 : CS o μ0 d) (hS : Sto d (ZT w) (o + 7 + 1) cx μ0 μ g) (hb : gb d g) {t : Nat} (ht : t < d.T) : ∃ μ', fX5_direct L w o (nI t) μ = some μ' ∧ Sto d (ZT w) (o + 7 + 1) cx μ0 μ' (dirG d t g) := by
  have htp := hd.2.2.2.2.2
  have hl := Sp.hl hd ht
  have hzl := Sp.hz hd hl.1
  have hzh := Sp.hz hd hl.2.1
  have hZ := nZT hwo
  have hC := hC0.sto hS hZ
  obtain ⟨μ1, q1, q2⟩ := c_topPairs hd hL hC0 hZ hS hb ht
  have b1 := gb_tpT (d := d) hb (t := t)
  unfold fX5_direct
  rw [c_valuesOn0 hd hL hC ht, bd_s, c_valuesOn1 hd hL hC ht, bd_s, q1, bv_s]
  unfold dirG
  generalize tpT d t g = g1 at q2 b1
  have hPl := fun a => Pd_le (d := d) (g := g1) t a
  have hEl := fun b => Ed_le (d := d) (g := g1) t b
  -- P of each value
  refine Exists.elim (lpI (fun k a μ => fX5_direct_23 L w o k (nI t) (nI (d.z (d.lo t))) (nI (d.z (d.hi t))) (nI a) μ) (fun μ => fX5_direct_54 L w o FU (nI t) (nI (d.z (d.lo t))) (nI (d.z (d.hi t))) (0 : Int32) μ) (fun a μ => Sto d (ZT w) (o + 7 + 1) cx μ0 μ g1 ∧ ∀ a', a' < a → μ (w + 3 + 1) a' = nI (Pd d t g1 a')) (d.z (d.lo t)) ?_ ?_ (d.z (d.lo t)) 0 μ1 FU (by omega) (FU_gt (by omega)) ⟨q2, fun a' h => by omega⟩) ?_
  · intro k μ h
    simp only [fX5_direct_23]
    unfold fX5_direct_23_b
    rw [if_pos (nI_le (Nat.le_refl _) (by omega))]
  · intro k a μ ha ⟨h1, h2⟩
    have hC' := hC0.sto h1 hZ
    simp only [fX5_direct_23]
    unfold fX5_direct_23_b
    rw [if_neg (nI_ge ha (by omega)), s_reachOf hd hL hC' h1.2.2 b1 ht ha, bd_s, rset hLs.2.1 (by omega) (by decide), bv_s, ltx_s, nI_1]
    refine ⟨_, rfl, stoz h1 (Or.inl rfl) (by omega), fun a' ha' => ?_⟩
    by_cases q : a' = a
    · subst q
      rw [up_aa]
    · rw [up_an q]
      exact h2 a' (by omega)
  · intro μ2 ⟨r1, r2, r3⟩
    have e1 : fX5_direct_23 L w o FU (nI t) (nI (d.z (d.lo t))) (nI (d.z (d.hi t))) (0 : Int32) μ1 = _ := r1
    rw [e1]
    -- E of each value
    refine Exists.elim (lpI (fun k b μ => fX5_direct_54 L w o k (nI t) (nI (d.z (d.lo t))) (nI (d.z (d.hi t))) (nI b) μ) (fun μ => fX5_direct_87 L w o FU (nI t) (nI (d.z (d.lo t))) (nI (d.z (d.hi t))) (0 : Int32) μ) (fun b μ => Sto d (ZT w) (o + 7 + 1) cx μ0 μ g1 ∧ (∀ a', a' < d.z (d.lo t) → μ (w + 3 + 1) a' = nI (Pd d t g1 a')) ∧ ∀ b', b' < b → μ (w + 5 + 1) b' = nI (Ed d t g1 b')) (d.z (d.hi t)) ?_ ?_ (d.z (d.hi t)) 0 μ2 FU (by omega) (FU_gt (by omega)) ⟨r2, r3, fun b' h => by omega⟩) ?_
    · intro k μ h
      simp only [fX5_direct_54]
      unfold fX5_direct_54_b
      rw [if_pos (nI_le (Nat.le_refl _) (by omega))]
    · intro k b μ hbz ⟨h1, h2, h3⟩
      have hC' := hC0.sto h1 hZ
      simp only [fX5_direct_54]
      unfold fX5_direct_54_b
      rw [if_neg (nI_ge hbz (by omega)), s_needOf hd hL hLs hC' h1.2.2 b1 ht hbz (P := Pd d t g1) (fun a ha => ⟨h2 a ha, by have := hPl a; omega⟩), bd_s, rset hLs.2.2 (by omega) (by decide), bv_s, ltx_s, nI_1]
      refine ⟨_, rfl, stoz h1 (Or.inr rfl) (by omega), fun a' ha' => ?_, fun b' hb' => ?_⟩
      · rw [up_ne (by omega)]
        exact h2 a' ha'
      · by_cases q : b' = b
        · subst q
          rw [up_aa]
          rfl
        · rw [up_an q]
          exact h3 b' (by omega)
    · intro μ3 ⟨s1, s2, s3, s4⟩
      have e2 : fX5_direct_54 L w o FU (nI t) (nI (d.z (d.lo t))) (nI (d.z (d.hi t))) (0 : Int32) μ2 = _ := s1
      show ∃ μ', fX5_direct_54 L w o FU (nI t) (nI (d.z (d.lo t))) (nI (d.z (d.hi t))) (0 : Int32) μ2 = some μ' ∧ _
      rw [e2]
      -- extended
      refine Exists.elim (lpI (fun k b μ => fX5_direct_87 L w o k (nI t) (nI (d.z (d.lo t))) (nI (d.z (d.hi t))) (nI b) μ) (fun μ => fX5_direct_132 L w o FU (nI t) (nI (d.z (d.lo t))) (0 : Int32) μ) (fun b μ => Sto d (ZT w) (o + 7 + 1) cx μ0 μ (fo (dirE d t g1) b g1) ∧ gb d (fo (dirE d t g1) b g1) ∧ (∀ a', a' < d.z (d.lo t) → μ (w + 3 + 1) a' = nI (Pd d t g1 a')) ∧ ∀ b', b' < d.z (d.hi t) → μ (w + 5 + 1) b' = nI (Ed d t g1 b')) (d.z (d.hi t)) ?_ ?_ (d.z (d.hi t)) 0 μ3 FU (by omega) (FU_gt (by omega)) ⟨s2, b1, s3, s4⟩) ?_
      · intro k μ h
        simp only [fX5_direct_87]
        unfold fX5_direct_87_b
        rw [if_pos (nI_le (Nat.le_refl _) (by omega))]
      · intro k b μ hbz ⟨h1, h2, h3, h4⟩
        have hC' := hC0.sto h1 hZ
        have hE1 := hEl b
        simp only [fX5_direct_87]
        unfold fX5_direct_87_b fX5_direct_123
        have hgb := gb_dirE hd (g0 := g1) h2 ht hbz
        rw [if_neg (nI_ge hbz (by omega)), rget hLs.2.2 (by omega) (by decide), bd_s, h4 b hbz]
        simp only [fo]
        by_cases hx : 0 < Ed d t g1 b
        · obtain ⟨μ', w1, w2⟩ := c_moveToTable (Z := nF) hd hL hC' (nZF o) (Sto.rf h1.2.2) h2 (s := 1) (by decide) ht (a := b) hbz (x := Ed d t g1 b) (by omega) (by
            have e := (dirE_ge (g0 := g1) hd b1 ht (a := 0) (b := b) (by omega) hbz b (by omega)).2.2 (Nat.le_refl _)
            show Ed d t g1 b ≤ fo (dirE d t g1) b g1 (si (d.hi t) b)
            rw [e]
            exact Ed_single hbz)
          rw [if_neg (fun q => (nle0 (by omega)).mp q hx), rget hLs.2.2 (by omega) (by decide), bd_s, h4 b hbz, n1, w1, bv_s, ltx_s, nI_add]
          refine ⟨μ', rfl, ?_, hgb, fun a' ha' => ?_, fun b' hb' => ?_⟩
          · rw [dirE, if_pos hx]
            exact h1.trans (w2.mono (fun x q => q.elim))
          · rw [w2.1 _ (by omega) (nF_not _)]
            exact h3 a' ha'
          · rw [w2.1 _ (by omega) (nF_not _)]
            exact h4 b' hb'
        · rw [if_pos ((nle0 (by omega)).mpr hx), ltx_s, nI_1]
          refine ⟨μ, rfl, ?_, hgb, h3, h4⟩
          rw [dirE, if_neg hx]
          exact h1
      · intro μ4 ⟨t1, t2, t3, t4, t5⟩
        have e3 : fX5_direct_87 L w o FU (nI t) (nI (d.z (d.lo t))) (nI (d.z (d.hi t))) (0 : Int32) μ3 = _ := t1
        show ∃ μ', fX5_direct_87 L w o FU (nI t) (nI (d.z (d.lo t))) (nI (d.z (d.hi t))) (0 : Int32) μ3 = some μ' ∧ _
        rw [e3]
        have hge := fun a b (ha : a < d.z (d.lo t)) (hbz : b < d.z (d.hi t)) => (dirE_ge hd b1 ht ha hbz (d.z (d.hi t)) (Nat.le_refl _)).2.1 hbz
        generalize fo (dirE d t g1) (d.z (d.hi t)) g1 = g2 at t2 t3 hge
        -- projected
        refine Exists.elim (lpI (fun k a μ => fX5_direct_132 L w o k (nI t) (nI (d.z (d.lo t))) (nI a) μ) (fun μ => some μ) (fun a μ => Sto d (ZT w) (o + 7 + 1) cx μ0 μ (fo (dirP d t g1) a g2) ∧ gb d (fo (dirP d t g1) a g2) ∧ ∀ a', a' < d.z (d.lo t) → μ (w + 3 + 1) a' = nI (Pd d t g1 a')) (d.z (d.lo t)) ?_ ?_ (d.z (d.lo t)) 0 μ4 FU (by omega) (FU_gt (by omega)) ⟨t2, t3, t4⟩) ?_
        · intro k μ h
          simp only [fX5_direct_132]
          unfold fX5_direct_132_b
          rw [if_pos (nI_le (Nat.le_refl _) (by omega))]
        · intro k a μ ha ⟨h1, h2, h3⟩
          have hC' := hC0.sto h1 hZ
          have hP1 := hPl a
          simp only [fX5_direct_132]
          unfold fX5_direct_132_b fX5_direct_167
          have hgb := gb_dirP hd (g0 := g1) h2 ht ha
          rw [if_neg (nI_ge ha (by omega)), rget hLs.2.1 (by omega) (by decide), bd_s, h3 a ha]
          simp only [fo]
          by_cases hx : 0 < Pd d t g1 a
          · obtain ⟨μ', w1, w2⟩ := c_moveToValue (Z := nF) hd hL hC' (nZF o) (Sto.rf h1.2.2) h2 (s := 0) (by decide) ht ha (x := Pd d t g1 a) (by omega) (fun b hbz => by
              show _ ≤ _
              have e := dirP_pair (g := g2) (g0 := g1) hd (a := a) ht hbz a (Nat.le_refl _) (by omega)
              show Pd d t g1 a ≤ fo (dirP d t g1) a g2 (pi t a b)
              rw [e]
              exact hge a b ha hbz)
            rw [if_neg (fun q => (nle0 (by omega)).mp q hx), rget hLs.2.1 (by omega) (by decide), bd_s, h3 a ha, n0, w1, bv_s, ltx_s, nI_1]
            refine ⟨μ', rfl, ?_, hgb, fun a' ha' => ?_⟩
            · rw [dirP, if_pos hx]
              exact h1.trans (w2.mono (fun x q => q.elim))
            · rw [w2.1 _ (by omega) (nF_not _)]
              exact h3 a' ha'
          · rw [if_pos ((nle0 (by omega)).mpr hx), ltx_s, nI_1]
            refine ⟨μ, rfl, ?_, hgb, h3⟩
            rw [dirP, if_neg hx]
            exact h1
        · intro μ5 ⟨v1, v2, v3, v4⟩
          exact ⟨μ5, v1, v2⟩
theorem s_dirJ {w : Nat} (hd : d.ok) (hL : LC L o) (hLs : LSw L w) (hwo : o + 8 < w) (hC0 : CS o μ0 d) (hS : Sto d (ZT w) (o + 7 + 1) cx μ0 μ g) (hb : gb d g) {j : Nat} (hj : j < d.N) (self7 : Int32 → Mem → Option Mem) : ∃ μ', fX5_doDirected_13 L w o self7 FU (nI j) (0 : Int32) μ = self7 (nI j + (-1)) μ' ∧ Sto d (ZT w) (o + 7 + 1) cx μ0 μ' (fo (dirJ d j) d.T g) := by
  have hT := hd.2.2.1
  have hN := hd.1
  have hZ := nZT hwo
  refine Exists.elim (lpI (fun k t μ => fX5_doDirected_13 L w o self7 k (nI j) (nI t) μ) (fun μ => self7 (nI j + (-1)) μ) (fun t μ => Sto d (ZT w) (o + 7 + 1) cx μ0 μ (fo (dirJ d j) t g) ∧ gb d (fo (dirJ d j) t g)) d.T ?_ ?_ d.T 0 μ FU (by omega) (FU_gt (by omega)) ⟨hS, hb⟩) ?_
  · intro k μ ⟨h1, h2⟩
    have hC := hC0.sto h1 hZ
    simp only [fX5_doDirected_13]
    unfold fX5_doDirected_13_b fX0_tables
    rw [bd_s, hC.2.1, if_pos (nI_le (Nat.le_refl _) (by omega)), ltx_s]
  · intro k t μ ht ⟨h1, h2⟩
    have hC := hC0.sto h1 hZ
    have hl := Sp.hl hd ht
    have hgb := gb_dirJ hd h2 (j := j) ht
    simp only [fX5_doDirected_13]
    unfold fX5_doDirected_13_b fX0_tables fX5_doDirected_37
    rw [bd_s, hC.2.1, if_neg (nI_ge ht (by omega)), c_nameOn1 hd hL hC ht, bd_s]
    simp only [fo]
    by_cases q : d.hi t = j
    · obtain ⟨μ1, q1, q2⟩ := s_direct hd hL hLs hwo hC0 h1 h2 ht
      rw [if_pos (nEq q), q1, bv_s, ltx_s, nI_1]
      refine ⟨μ1, rfl, ?_, hgb⟩
      rw [dirJ, if_pos q]
      exact q2
    · rw [if_neg (nNe q (by omega) (by omega)), ltx_s, nI_1]
      refine ⟨μ, rfl, ?_, hgb⟩
      rw [dirJ, if_neg q]
      exact h1
  · intro μ' ⟨h1, h2, h3⟩
    exact ⟨μ', h1, h2⟩
theorem s_dirs {w : Nat} (hd : d.ok) (hL : LC L o) (hLs : LSw L w) (hwo : o + 8 < w) (hC0 : CS o μ0 d) (hS : Sto d (ZT w) (o + 7 + 1) cx μ0 μ g) (hb : gb d g) : ∃ μ', fX5_doDirected L w o μ = some μ' ∧ Sto d (ZT w) (o + 7 + 1) cx μ0 μ' (dirsG d g) := by
  have hN := hd.1
  have hC := hC0.sto hS (nZT hwo)
  have key : ∀ (n k : Nat) (μ : Mem) (g : Nat → Nat), n ≤ d.N → n < k → Sto d (ZT w) (o + 7 + 1) cx μ0 μ g → gb d g → ∃ μ', fX5_doDirected_7 L w o k (nI n + (-1)) μ = some μ' ∧ Sto d (ZT w) (o + 7 + 1) cx μ0 μ' (fd (fun j => fo (dirJ d j) d.T) n g) := by
    intro n
    induction n with
    | zero =>
      intro k μ g h1 h2 h3 h4
      obtain ⟨k, rfl⟩ : ∃ j, k = j + 1 := ⟨k - 1, by omega⟩
      simp only [fX5_doDirected_7]
      unfold fX5_doDirected_7_b
      rw [if_pos (by decide)]
      exact ⟨μ, rfl, h3⟩
    | succ n ih =>
      intro k μ g h1 h2 h3 h4
      obtain ⟨k, rfl⟩ : ∃ j, k = j + 1 := ⟨k - 1, by omega⟩
      simp only [fX5_doDirected_7]
      unfold fX5_doDirected_7_b
      rw [pk_m1, if_neg (nI_pos (by omega))]
      obtain ⟨μ1, q1, q2⟩ := s_dirJ hd hL hLs hwo hC0 h3 h4 (j := n) (by omega) (fX5_doDirected_7 L w o k)
      rw [q1]
      exact ih k μ1 _ (by omega) (by omega) q2 (fo_ind h4 (fun _ _ hi h => gb_dirJ hd h hi))
  unfold fX5_doDirected fX0_names
  rw [bd_s, ltx_s, hC.1, Int32.sub_eq_add_neg]
  exact key d.N FU μ g (Nat.le_refl _) (FU_gt (by omega)) hS hb
theorem s_doOne {w : Nat} (hd : d.ok) (hL : LC L o) (hLs : LSw L w) (hwo : o + 8 < w) (hC0 : CS o μ0 d) (hS : Sto d (ZT w) (o + 7 + 1) cx μ0 μ g) (hb : gb d g) {kind : Nat} (hk : kind < 3) : ∃ μ', fX5_doOne L w o (nI kind) μ = some μ' ∧ Sto d (ZT w) (o + 7 + 1) cx μ0 μ' (swG d kind g) := by
  have hZ := nZT hwo
  unfold fX5_doOne fX5_doOne_22 swG
  rcases (show kind = 0 ∨ kind = 1 ∨ kind = 2 by omega) with rfl | rfl | rfl
  · rw [if_neg (by decide), if_neg (by decide), if_neg (by decide), if_neg (by decide)]
    obtain ⟨μ2, r1, r2⟩ := s_nodes hd hL hC0 hZ hS hb
    rw [r1, bv_s]
    exact ⟨μ2, rfl, r2⟩
  · rw [if_pos (by decide), if_pos rfl]
    obtain ⟨μ1, q1, q2⟩ := s_arcs hd hL hC0 hZ hS hb
    obtain ⟨μ2, r1, r2⟩ := s_nodes hd hL hC0 hZ q2 (gb_arcs hd hb)
    rw [q1, bv_s, r1, bv_s]
    exact ⟨μ2, rfl, r2⟩
  · rw [if_neg (by decide), if_pos (by decide), if_neg (by decide), if_pos rfl]
    obtain ⟨μ1, q1, q2⟩ := s_dirs hd hL hLs hwo hC0 hS hb
    obtain ⟨μ2, r1, r2⟩ := s_nodes hd hL hC0 hZ q2 (gb_dirs hd hb)
    rw [q1, bv_s, r1, bv_s]
    exact ⟨μ2, rfl, r2⟩
theorem Sto.all {c : Nat} {μ1 : Mem} {g1 : Nat → Nat} (hd : d.ok) (h : Sto d Z c cx μ1 μ g) (h1 : ∀ k, d.U k → μ1 c (cx k) = nI (g1 k)) (hb : gb d g) (hb1 : gb d g1) : (∀ j, j < 169 → μ c j = μ1 c j) ↔ ∀ k, d.U k → g k = g1 k := by
  have htp := hd.2.2.2.2.2
  constructor
  · intro h2 k hk
    have h3 := h2 _ (cx_lt hd hk)
    rw [h.2.2 k hk, h1 k hk] at h3
    have a1 := hb k hk
    have a2 := hb1 k hk
    exact (nI_eq (by omega) (by omega)).mp h3
  · intro h2 j _
    by_cases hj : ∃ k, d.U k ∧ j = cx k
    · obtain ⟨k, hk, rfl⟩ := hj
      rw [h.2.2 k hk, h1 k hk, h2 k hk]
    · exact h.2.1 j (fun k hk q => hj ⟨k, hk, q⟩)
theorem s_settle {w : Nat} (hd : d.ok) (hL : LC L o) (hLs : LSw L w) (hwo : o + 8 < w) (hC0 : CS o μ0 d) (hS : Sto d (ZS w) (o + 7 + 1) cx μ0 μ g) (hb : gb d g) {kind : Nat} (hk : kind < 3) : ∃ μ', fX5_doTillSettled L w o (nI kind) μ = some (nI (stG d kind 20 0 g).1, μ') ∧ Sto d (ZS w) (o + 7 + 1) cx μ0 μ' (stG d kind 20 0 g).2 := by
  have hZ := nZS hwo
  have key : ∀ (r n k : Nat) (μ : Mem) (g : Nat → Nat), n + r = 20 → r < k → Sto d (ZS w) (o + 7 + 1) cx μ0 μ g → gb d g → ∃ μ', fX5_doTillSettled_2 L w o k (nI kind) (nI n) μ = some (nI (stG d kind r n g).1, μ') ∧ Sto d (ZS w) (o + 7 + 1) cx μ0 μ' (stG d kind r n g).2 := by
    intro r
    induction r with
    | zero =>
      intro n k μ g h1 h2 h3 h4
      obtain ⟨k, rfl⟩ : ∃ j, k = j + 1 := ⟨k - 1, by omega⟩
      simp only [fX5_doTillSettled_2]
      unfold fX5_doTillSettled_2_b
      have h1 : n = 20 := by omega
      subst h1
      rw [if_pos (by decide)]
      exact ⟨μ, rfl, h3⟩
    | succ r ih =>
      intro n k μ g h1 h2 h3 h4
      obtain ⟨k, rfl⟩ : ∃ j, k = j + 1 := ⟨k - 1, by omega⟩
      simp only [fX5_doTillSettled_2]
      unfold fX5_doTillSettled_2_b fX0_copyTo fX0_areAs
      obtain ⟨μ1, q1, q2, q3, q4⟩ := r_take (L := L) (μ := μ) (r := w + 1) (r1 := o + 7) hLs.1 hL.2.2.2 (by decide) (by omega)
      have hS1 : Sto d (ZS w) (o + 7 + 1) cx μ0 μ1 g := ⟨fun x a b => by rw [q2 x (fun q => b (Or.inl q))]; exact h3.1 x a b, fun j hj => by rw [q2 _ (by omega)]; exact h3.2.1 j hj, fun j hj => by rw [q2 _ (by omega)]; exact h3.2.2 j hj⟩
      have hC1 := hC0.sto hS1 hZ
      obtain ⟨μ2, p1, p2⟩ := s_doOne hd hL hLs hwo hC1 (Sto.rf hS1.2.2) h4 hk
      have hb2 := gb_sw hd h4 kind
      obtain ⟨b, l1, l2⟩ := r_like (L := L) (μ := μ2) (r := o + 7) (r1 := w + 1) hL.2.2.2 hLs.1 (by decide)
      have hS2 : Sto d (ZS w) (o + 7 + 1) cx μ0 μ2 (swG d kind g) := hS1.trans (p2.mono (fun x q => Or.inr q))
      have hah : ∀ j, j < 169 → μ2 (w + 1 + 1) j = μ1 (o + 7 + 1) j := fun j hj => by
        rw [p2.1 _ (by omega) (fun q => by rcases q with q | q <;> omega), q3 j hj, q2 _ (by omega)]
      have hiff := Sto.all hd p2 hS1.2.2 hb2 h4
      have hn20 : ¬ (20 : Int32) ≤ nI n := nI_ge (b := 20) (by omega) (by decide)
      rw [if_neg hn20, q1, bv_s, bv_s, p1, bv_s, l1, bd_s]
      rcases l2 with ⟨rfl, l2⟩ | ⟨rfl, j, hj, l2⟩
      · have hall : ∀ k, d.U k → swG d kind g k = g k := hiff.mp (fun j hj => (l2 j hj).trans (hah j hj))
        rw [show zr 1 μ2 = some ((1 : Int32), μ2) from rfl, bd_s, if_neg (by decide)]
        have e : stG d kind (r + 1) n g = (n, swG d kind g) := by rw [stG, if_pos hall]
        rw [e]
        exact ⟨μ2, rfl, hS2⟩
      · have hall : ¬ ∀ k, d.U k → swG d kind g k = g k := fun q => l2 ((hiff.mpr q j hj).trans (hah j hj).symm)
        rw [show zr 0 μ2 = some ((0 : Int32), μ2) from rfl, bd_s, if_pos rfl, ltx_s, nI_1]
        have e : stG d kind (r + 1) n g = stG d kind r (n + 1) (swG d kind g) := by rw [stG, if_neg hall]
        rw [e]
        exact ih (n + 1) k μ2 _ (by omega) (by omega) hS2 hb2
  unfold fX5_doTillSettled
  exact key 20 0 FU μ g rfl (FU_gt (by decide)) hS hb
end PSC
