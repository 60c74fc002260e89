/-! the reference's costs and sweeps -/
def LR (L : Nat → Nat) (o : Nat) : Prop := L (o + 1) = 200 ∧ L (o + 2) = 6 ∧ L (o + 3) = 9 ∧ L (o + 4) = 9 ∧ L (o + 5) = 6 ∧ L (o + 6) = 169 ∧ L (o + 7) = 1014 ∧ L (o + 8) = 169 ∧ L (o + 9) = 6 ∧ L (o + 10) = 9 ∧ L (o + 11) = 9 ∧ L (o + 12) = 169 ∧ L (o + 13) = 4 ∧ L (o + 14) = 169 ∧ L (o + 15) = 6 ∧ L (o + 16) = 6
def RS (o : Nat) (μ : Mem) (d : Sp) : Prop := μ o 2 = nI d.N ∧ μ o 4 = nI d.T ∧ μ o 7 = nI d.tp ∧ (∀ i, i < d.N → μ (o + 2) i = nI (d.z i)) ∧ (∀ t, t < d.T → μ (o + 3) t = nI (d.lo t)) ∧ (∀ t, t < d.T → μ (o + 4) t = nI (d.hi t))
def Rg (o : Nat) (μ : Mem) (d : Sp) (g : Nat → Nat) : Prop := ∀ k, d.U k → μ (o + 6) k = nI (g k)
def ei (k : Nat) : Nat := k
def rZ (Z : Nat → Prop) (o : Nat) : Prop := ¬ Z o ∧ ¬ Z (o + 2) ∧ ¬ Z (o + 3) ∧ ¬ Z (o + 4)
section PQ
variable {L : Nat → Nat} {o : Nat} {μ : Mem} {d : Sp} {g : Nat → Nat} {Z : Nat → Prop} {μ0 : Mem}
theorem ei_inj : ∀ i j, d.U i → d.U j → ei i = ei j → i = j := fun _ _ _ _ h => h
theorem RS.of (h : RS o μ0 d) (h0 : μ o = μ0 o) (h1 : μ (o + 2) = μ0 (o + 2)) (h2 : μ (o + 3) = μ0 (o + 3)) (h3 : μ (o + 4) = μ0 (o + 4)) : RS o μ d := by
  unfold RS
  rw [h0, h1, h2, h3]
  exact h
theorem RS.sto (h : RS o μ0 d) (hS : Sto d Z (o + 6) ei μ0 μ g) (hZ : rZ Z o) : RS o μ d :=
  h.of (hS.1 _ (by omega) hZ.1) (hS.1 _ (by omega) hZ.2.1) (hS.1 _ (by omega) hZ.2.2.1) (hS.1 _ (by omega) hZ.2.2.2)
theorem q_many {X : Type} {A : Int32 → Option X} (hd : d.ok) (hL : LR L o) (hC : RS o μ d) {i : Nat} (hi : i < d.N) : ald L μ (o + 2) (nI i) A = A (nI (d.z i)) := by
  have h1 := hd.1
  have h2 := hL.2.1
  rw [ald_s (by omega) (by omega), hC.2.2.2.1 i hi]
theorem q_lo {X : Type} {A : Int32 → Option X} (hd : d.ok) (hL : LR L o) (hC : RS o μ d) {t : Nat} (ht : t < d.T) : ald L μ (o + 3) (nI t) A = A (nI (d.lo t)) := by
  have h1 := hd.2.2.1
  have h2 := hL.2.2.1
  rw [ald_s (by omega) (by omega), hC.2.2.2.2.1 t ht]
theorem q_hi {X : Type} {A : Int32 → Option X} (hd : d.ok) (hL : LR L o) (hC : RS o μ d) {t : Nat} (ht : t < d.T) : ald L μ (o + 4) (nI t) A = A (nI (d.hi t)) := by
  have h1 := hd.2.2.1
  have h2 := hL.2.2.2.1
  rw [ald_s (by omega) (by omega), hC.2.2.2.2.2 t ht]
theorem q_get {X : Type} {A : Int32 → Option X} (hd : d.ok) (hL : LR L o) (hg : Rg o μ d g) {k : Nat} (hk : d.U k) : ald L μ (o + 6) (nI k) A = A (nI (g k)) := by
  have h1 := Sp.Ult hd hk
  have h2 := hL.2.2.2.2.2.1
  rw [ald_s (by omega) (by omega), hg k hk]
theorem q_put {X : Type} {A : Mem → Option X} {v : Int32} (hd : d.ok) (hL : LR L o) {k : Nat} (hk : d.U k) : ast L μ (o + 6) (nI k) v A = A (up μ (o + 6) (ei k) v) := by
  have h1 := Sp.Ult hd hk
  have h2 := hL.2.2.2.2.2.1
  rw [ast_s (by omega) (by omega)]
  rfl
theorem q_si (i a : Nat) : (4 : Int32) * nI i + nI a = nI (si i a) := by rw [n4, pk_mul, nI_add]; rfl
theorem q_nameOf (hd : d.ok) (hL : LR L o) (hC : RS o μ d) {s t : Nat} (hs : s < 2) (ht : t < d.T) : fX9_nameOf L o (nI t) (nI s) μ = some (nI (d.nm s t), μ) := by
  unfold fX9_nameOf
  rcases (show s = 0 ∨ s = 1 by omega) with rfl | rfl
  · rw [if_pos (show nI 0 = 0 from rfl), q_lo hd hL hC ht]
    rfl
  · rw [if_neg (by decide), q_hi hd hL hC ht]
    rfl
theorem q_1s {s : Nat} (hs : s < 2) : (1 : Int32) - nI s = nI (1 - s) := by
  rcases (show s = 0 ∨ s = 1 by omega) with rfl | rfl <;> rfl
theorem q_pairAt {s t a b : Nat} (hs : s < 2) : fX9_pairAt L (nI t) (nI s) (nI a) (nI b) μ = some (nI (pk t s a b), μ) := by
  unfold fX9_pairAt fX9_pairAt_24
  rcases (show s = 0 ∨ s = 1 by omega) with rfl | rfl
  · rw [if_pos (show nI 0 = 0 from rfl), n24, n16, n4, pk_mul, pk_mul, nI_add, nI_add, nI_add]
    congr 3
    simp only [pk, pi, if_pos]
    omega
  · rw [if_neg (by decide), n24, n16, n4, pk_mul, pk_mul, nI_add, nI_add, nI_add]
    congr 3
    simp [pk, pi]
    omega
theorem q_sum (hd : d.ok) (hC : RS o μ d) {a b : Nat} (ha : a < 2 ^ 30) (hb : b < 2 ^ 30) : fX9_sum L o (nI a) (nI b) μ = some (nI (sm d.tp a b), μ) := by
  unfold fX9_sum
  rw [hC.2.2.1, ← sum_eq hd.2.2.2.2.2 ha hb]
  split <;> rfl
theorem q_less (hd : d.ok) (hC : RS o μ d) {a x : Nat} (ha : a ≤ d.tp) (hx : x ≤ a) : fX9_less L o (nI a) (nI x) μ = some (nI (ls d.tp a x), μ) := by
  have h := hd.2.2.2.2.2
  unfold fX9_less ls
  rw [hC.2.2.1]
  by_cases q : a = d.tp
  · rw [if_pos (nEq q), if_pos q, q]
  · rw [if_neg (nNe q (by omega) (by omega)), if_neg q, pk_sub hx]
theorem q_leastSingle (hd : d.ok) (hL : LR L o) (hC : RS o μ d) (hg : Rg o μ d g) (hb : gb d g) {i : Nat} (hi : i < d.N) : fX9_leastSingle L o (nI i) μ = some (nI (mn (fun a => g (si i a)) d.tp (d.z i)), μ) := by
  have hz := Sp.hz hd hi
  have ht := hd.2.2.2.2.2
  have h0 := hb _ (Sp.Us hi (a := 0) (by omega))
  have e1 : mn (fun a => g (si i a)) d.tp 1 = g (si i 0) := by
    show (if g (si i 0) < d.tp then g (si i 0) else d.tp) = g (si i 0)
    by_cases q : g (si i 0) < d.tp
    · rw [if_pos q]
    · rw [if_neg q]; omega
  unfold fX9_leastSingle
  rw [show (4 : Int32) * nI i = nI (si i 0) by rw [n4, pk_mul]; rfl, q_get hd hL hg (Sp.Us hi (by omega)), ← e1]
  refine lpC (fun k a => fX9_leastSingle_11 L o k (nI i) (nI (mn (fun a => g (si i a)) d.tp a)) (nI a) μ) _ (d.z i) ?_ ?_ (d.z i - 1) 1 FU (by omega) (FU_gt (by omega))
  · intro k
    simp only [fX9_leastSingle_11]
    unfold fX9_leastSingle_11_b
    rw [q_many hd hL hC hi, if_pos (nI_le (Nat.le_refl _) (by omega))]
  · intro k a ha
    have h1 := hb _ (Sp.Us hi ha)
    have h2 := mn_le (fun a => g (si i a)) d.tp a
    simp only [fX9_leastSingle_11]
    unfold fX9_leastSingle_11_b fX9_leastSingle_49
    rw [q_many hd hL hC hi, if_neg (nI_ge ha (by omega)), q_si, q_get hd hL hg (Sp.Us hi ha)]
    simp only [mn]
    by_cases q : g (si i a) < mn (fun a => g (si i a)) d.tp a
    · rw [if_neg (nI_ge q (by omega)), q_get hd hL hg (Sp.Us hi ha), ltx_s, nI_1, if_pos q]
    · rw [if_pos (nI_le (by omega) (by omega)), ltx_s, nI_1, if_neg q]
theorem q_leastPair (hd : d.ok) (hL : LR L o) (hC : RS o μ d) (hg : Rg o μ d g) (hb : gb d g) {s t a : Nat} (hs : s < 2) (ht : t < d.T) (ha : a < d.z (d.nm s t)) : fX9_leastPair L o (nI t) (nI s) (nI a) μ = some (nI (mn (fun b => g (pk t s a b)) d.tp (d.z (d.nm (1 - s) t))), μ) := by
  have hn := Sp.nm_lt hd (s := 1 - s) ht
  have hz := Sp.hz hd hn
  have htp := hd.2.2.2.2.2
  unfold fX9_leastPair
  rw [ltx_s, hC.2.2.1]
  refine lpC (fun k b => fX9_leastPair_9 L o k (nI t) (nI s) (nI a) (nI (mn (fun b => g (pk t s a b)) d.tp b)) (nI b) μ) _ (d.z (d.nm (1 - s) t)) ?_ ?_ (d.z (d.nm (1 - s) t)) 0 FU (by omega) (FU_gt (by omega))
  · intro k
    simp only [fX9_leastPair_9]
    unfold fX9_leastPair_9_b
    rw [q_1s hs, q_nameOf hd hL hC (by omega) ht, bd_s, q_many hd hL hC hn, if_pos (nI_le (Nat.le_refl _) (by omega))]
  · intro k b hbz
    have h1 := hb _ (Sp.Uk hs ht ha hbz)
    have h2 := mn_le (fun b => g (pk t s a b)) d.tp b
    simp only [fX9_leastPair_9]
    unfold fX9_leastPair_9_b fX9_leastPair_56
    rw [q_1s hs, q_nameOf hd hL hC (by omega) ht, bd_s, q_many hd hL hC hn, if_neg (nI_ge hbz (by omega)), q_pairAt hs, bd_s, q_get hd hL hg (Sp.Uk hs ht ha hbz)]
    simp only [mn]
    by_cases q : g (pk t s a b) < mn (fun b => g (pk t s a b)) d.tp b
    · rw [if_neg (nI_ge q (by omega)), ltx_s, nI_1, if_pos q]
    · rw [if_pos (nI_le (by omega) (by omega)), ltx_s, nI_1, if_neg q]
theorem q_isShut (hd : d.ok) (hL : LR L o) (hC : RS o μ d) (hg : Rg o μ d g) (hb : gb d g) {i a : Nat} (hi : i < d.N) (ha : a < d.z i) : fX9_isShut L o (nI i) (nI a) μ = some ((if sm d.tp (g 168) (g (si i a)) = d.tp then 1 else 0), μ) := by
  have h1 := hb _ (Sp.Us hi ha)
  have h2 := hb _ (Sp.Uc)
  have h3 := hd.2.2.2.2.2
  have h4 := sm_le d.tp (g 168) (g (si i a))
  unfold fX9_isShut
  rw [show (168 : Int32) = nI 168 from rfl, q_get hd hL hg Sp.Uc, q_si, q_get hd hL hg (Sp.Us hi ha), q_sum hd hC (by omega) (by omega), bd_s, hC.2.2.1]
  by_cases h : sm d.tp (g 168) (g (si i a)) = d.tp
  · rw [if_pos h, h, if_pos rfl]
  · rw [if_neg h, if_neg (nNe h (by omega) (by omega))]
theorem q_projects (hd : d.ok) (hL : LR L o) (hC0 : RS o μ0 d) (hZ : rZ Z o) (hS : Sto d Z (o + 6) ei μ0 μ g) (hb : gb d g) {s t a x : Nat} (hs : s < 2) (ht : t < d.T) (ha : a < d.z (d.nm s t)) (hx : x ≤ 99) (hxx : ∀ b, b < d.z (d.nm (1 - s) t) → x ≤ g (pk t s a b)) :
    ∃ μ', fX9_projects L o (nI t) (nI s) (nI a) (nI x) μ = some μ' ∧ Sto d Z (o + 6) ei μ0 μ' (mvV d t s a x g) := by
  have hn := Sp.nm_lt hd (s := 1 - s) ht
  have hz := Sp.hz hd hn
  have htp := hd.2.2.2.2.2
  unfold fX9_projects
  refine Exists.elim (lpI (fun k b μ => fX9_projects_3 L o k (nI t) (nI s) (nI a) (nI x) (nI b) μ) (fun μ => bd (fX9_nameOf L o (nI t) (nI s) μ) (fun b5 μ4 => lt' (((4 : Int32) * b5) + nI a) (fun a6 => ald L μ4 (o + 6) a6 (fun a7 => bd (fX9_sum L o a7 (nI x) μ4) (fun b9 μ8 => ast L μ8 (o + 6) a6 b9 (fun μ10 => some μ10)))))) (fun b μ => Sto d Z (o + 6) ei μ0 μ (fo (fun b => lsG d.tp x (pk t s a b)) b g) ∧ gb d (fo (fun b => lsG d.tp x (pk t s a b)) b g)) (d.z (d.nm (1 - s) t)) ?_ ?_ (d.z (d.nm (1 - s) t)) 0 μ FU (by omega) (FU_gt (by omega)) ⟨hS, hb⟩) ?_
  · intro k μ ⟨h1, h2⟩
    have hC' := hC0.sto h1 hZ
    simp only [fX9_projects_3]
    unfold fX9_projects_3_b
    rw [q_1s hs, q_nameOf hd hL hC' (by omega) ht, bd_s, q_many hd hL hC' hn, if_pos (nI_le (Nat.le_refl _) (by omega))]
  · intro k b μ hbz ⟨h1, h2⟩
    have hU := Sp.Uk hs ht ha hbz
    have hC' := hC0.sto h1 hZ
    have hg0 : fo (fun b => lsG d.tp x (pk t s a b)) b g (pk t s a b) = g (pk t s a b) := fo_ne (fun i g hi => gu_ne (pk_inj hs (by omega)))
    refine ⟨_, ?_, h1.up ei_inj hU, gb_ls h2 hU⟩
    simp only [fX9_projects_3]
    conv => lhs; unfold fX9_projects_3_b
    rw [q_1s hs, q_nameOf hd hL hC' (by omega) ht, bd_s, q_many hd hL hC' hn, if_neg (nI_ge hbz (by omega)), q_pairAt hs, bd_s, q_get hd hL h1.2.2 hU, q_less hd hC' (h2 _ hU) (by rw [hg0]; exact hxx b hbz), bd_s, q_put hd hL hU, ltx_s, nI_1]
  · intro μ' ⟨h1, h2, h3⟩
    have hC' := hC0.sto h2 hZ
    have hU := Sp.Us (Sp.nm_lt hd (s := s) ht) ha
    have hk := h3 _ hU
    refine ⟨_, h1.trans ?_, h2.up ei_inj hU⟩
    rw [q_nameOf hd hL hC' hs ht, bd_s, ltx_s, q_si, q_get hd hL h2.2.2 hU, q_sum hd hC' (by omega) (by omega), bd_s, q_put hd hL hU]
theorem q_extendsBy (hd : d.ok) (hL : LR L o) (hC0 : RS o μ0 d) (hZ : rZ Z o) (hS : Sto d Z (o + 6) ei μ0 μ g) (hb : gb d g) {s t a x : Nat} (hs : s < 2) (ht : t < d.T) (ha : a < d.z (d.nm s t)) (hx : x ≤ 99) (hxx : x ≤ g (si (d.nm s t) a)) :
    ∃ μ', fX9_extendsBy L o (nI t) (nI s) (nI a) (nI x) μ = some μ' ∧ Sto d Z (o + 6) ei μ0 μ' (mvT d t s a x g) := by
  have hn := Sp.nm_lt hd (s := 1 - s) ht
  have hz := Sp.hz hd hn
  have htp := hd.2.2.2.2.2
  have hC := hC0.sto hS hZ
  have hU := Sp.Us (Sp.nm_lt hd (s := s) ht) ha
  have hS1 := hS.up ei_inj (v := ls d.tp (g (si (d.nm s t) a)) x) hU
  unfold fX9_extendsBy
  rw [q_nameOf hd hL hC hs ht, bd_s, ltx_s, q_si, q_get hd hL hS.2.2 hU, q_less hd hC (hb _ hU) hxx, bd_s, q_put hd hL hU]
  refine Exists.elim (lpI (fun k b μ => fX9_extendsBy_35 L o k (nI t) (nI s) (nI a) (nI x) (nI b) μ) (fun μ => some μ) (fun b μ => Sto d Z (o + 6) ei μ0 μ (fo (fun b => smG d.tp x (pk t s a b)) b (lsG d.tp x (si (d.nm s t) a) g)) ∧ gb d (fo (fun b => smG d.tp x (pk t s a b)) b (lsG d.tp x (si (d.nm s t) a) g))) (d.z (d.nm (1 - s) t)) ?_ ?_ (d.z (d.nm (1 - s) t)) 0 _ FU (by omega) (FU_gt (by omega)) ⟨hS1, gb_ls hb hU⟩) ?_
  · intro k μ ⟨h1, h2⟩
    have hC' := hC0.sto h1 hZ
    simp only [fX9_extendsBy_35]
    unfold fX9_extendsBy_35_b
    rw [q_1s hs, q_nameOf hd hL hC' (by omega) ht, bd_s, q_many hd hL hC' hn, if_pos (nI_le (Nat.le_refl _) (by omega))]
  · intro k b μ hbz ⟨h1, h2⟩
    have hU := Sp.Uk hs ht ha hbz
    have hC' := hC0.sto h1 hZ
    have hk := h2 _ hU
    refine ⟨_, ?_, h1.up ei_inj hU, gb_sm h2⟩
    simp only [fX9_extendsBy_35]
    conv => lhs; unfold fX9_extendsBy_35_b
    rw [q_1s hs, q_nameOf hd hL hC' (by omega) ht, bd_s, q_many hd hL hC' hn, if_neg (nI_ge hbz (by omega)), q_pairAt hs, bd_s, q_get hd hL h1.2.2 hU, q_sum hd hC' (by omega) (by omega), bd_s, q_put hd hL hU, ltx_s, nI_1]
  · intro μ' ⟨h1, h2, h3⟩
    exact ⟨μ', h1, h2⟩
theorem q_raises (hd : d.ok) (hL : LR L o) (hC0 : RS o μ0 d) (hZ : rZ Z o) (hS : Sto d Z (o + 6) ei μ0 μ g) (hb : gb d g) {i x : Nat} (hi : i < d.N) (hx : x ≤ 99) (hxx : ∀ a, a < d.z i → x ≤ g (si i a)) :
    ∃ μ', fX9_raises L o (nI i) (nI x) μ = some μ' ∧ Sto d Z (o + 6) ei μ0 μ' (mvC d i x g) := by
  have hz := Sp.hz hd hi
  have htp := hd.2.2.2.2.2
  unfold fX9_raises
  refine Exists.elim (lpI (fun k a μ => fX9_raises_2 L o k (nI i) (nI x) (nI a) μ) (fun μ => ald L μ (o + 6) (168 : Int32) (fun a2 => bd (fX9_sum L o a2 (nI x) μ) (fun b4 μ3 => ast L μ3 (o + 6) (168 : Int32) b4 (fun μ5 => some μ5)))) (fun a μ => Sto d Z (o + 6) ei μ0 μ (fo (fun a => lsG d.tp x (si i a)) a g) ∧ gb d (fo (fun a => lsG d.tp x (si i a)) a g)) (d.z i) ?_ ?_ (d.z i) 0 μ FU (by omega) (FU_gt (by omega)) ⟨hS, hb⟩) ?_
  · intro k μ ⟨h1, h2⟩
    have hC' := hC0.sto h1 hZ
    simp only [fX9_raises_2]
    unfold fX9_raises_2_b
    rw [q_many hd hL hC' hi, if_pos (nI_le (Nat.le_refl _) (by omega))]
  · intro k a μ ha ⟨h1, h2⟩
    have hU := Sp.Us hi ha
    have hC' := hC0.sto h1 hZ
    have hg0 : fo (fun a => lsG d.tp x (si i a)) a g (si i a) = g (si i a) := fo_ne (fun j g hj => gu_ne (si_inj (by omega)))
    refine ⟨_, ?_, h1.up ei_inj hU, gb_ls h2 hU⟩
    simp only [fX9_raises_2]
    conv => lhs; unfold fX9_raises_2_b
    rw [q_many hd hL hC' hi, if_neg (nI_ge ha (by omega)), q_si, q_get hd hL h1.2.2 hU, q_less hd hC' (h2 _ hU) (by rw [hg0]; exact hxx a ha), bd_s, q_put hd hL hU, ltx_s, nI_1]
  · intro μ' ⟨h1, h2, h3⟩
    have hC' := hC0.sto h2 hZ
    have hk := h3 _ Sp.Uc
    refine ⟨_, h1.trans ?_, h2.up ei_inj Sp.Uc⟩
    rw [show (168 : Int32) = nI 168 from rfl, q_get hd hL h2.2.2 Sp.Uc, q_sum hd hC' (by omega) (by omega), bd_s, q_put hd hL Sp.Uc]
theorem gu_same (g : Nat → Nat) (k : Nat) : gu g k (g k) = g := by
  funext j
  unfold gu
  split
  · next h => rw [h]
  · rfl
theorem q_node (hd : d.ok) (hL : LR L o) (hC0 : RS o μ0 d) (hZ : rZ Z o) (hS : Sto d Z (o + 6) ei μ0 μ g) (hb : gb d g) {i : Nat} (hi : i < d.N) (self2 : Int32 → Mem → Option Mem) : ∃ μ', fX9_nodes_26 L o self2 (nI i) μ = self2 (nI (i + 1)) μ' ∧ Sto d Z (o + 6) ei μ0 μ' (fo (shG d i) (d.z i) g) := by
  have hz := Sp.hz hd hi
  have htp := hd.2.2.2.2.2
  unfold fX9_nodes_26
  refine Exists.elim (lpI (fun k a μ => fX9_nodes_28 L o self2 k (nI i) (nI a) μ) (fun μ => self2 (nI (i + 1)) μ) (fun a μ => Sto d Z (o + 6) ei μ0 μ (fo (shG d i) a g) ∧ gb d (fo (shG d i) a g)) (d.z i) ?_ ?_ (d.z i) 0 μ FU (by omega) (FU_gt (by omega)) ⟨hS, hb⟩) ?_
  · intro k μ ⟨h1, h2⟩
    have hC' := hC0.sto h1 hZ
    simp only [fX9_nodes_28]
    unfold fX9_nodes_28_b
    rw [q_many hd hL hC' hi, if_pos (nI_le (Nat.le_refl _) (by omega)), ltx_s, nI_1]
  · intro k a μ ha ⟨h1, h2⟩
    have hU := Sp.Us hi ha
    have hC' := hC0.sto h1 hZ
    simp only [fX9_nodes_28]
    unfold fX9_nodes_28_b fX9_nodes_73
    rw [q_many hd hL hC' hi, if_neg (nI_ge ha (by omega)), q_isShut hd hL hC' h1.2.2 h2 hi ha, bd_s, q_si]
    simp only [fo]
    by_cases hsh : sm d.tp (fo (shG d i) a g 168) (fo (shG d i) a g (si i a)) = d.tp
    · rw [if_pos hsh, if_neg (by decide), q_put hd hL hU, ltx_s, nI_1, hC'.2.2.1]
      refine ⟨_, rfl, ?_, gb_shG h2⟩
      rw [shG, if_pos hsh]
      exact h1.up ei_inj hU
    · rw [if_neg hsh, if_pos rfl, q_get hd hL h1.2.2 hU, q_put hd hL hU, ltx_s, nI_1]
      refine ⟨_, rfl, ?_, gb_shG h2⟩
      rw [shG, if_neg hsh]
      have h5 := h1.up ei_inj (v := fo (shG d i) a g (si i a)) hU
      rw [gu_same] at h5
      exact h5
  · intro μ' ⟨h1, h2, h3⟩
    exact ⟨μ', h1, h2⟩
theorem q_nodes (hd : d.ok) (hL : LR L o) (hC0 : RS o μ0 d) (hZ : rZ Z o) (hS : Sto d Z (o + 6) ei μ0 μ g) (hb : gb d g) : ∃ μ', fX9_nodes L o μ = some μ' ∧ Sto d Z (o + 6) ei μ0 μ' (nodesG d g) := by
  have hN := hd.1
  have htp := hd.2.2.2.2.2
  unfold fX9_nodes
  refine Exists.elim (lpI (fun k i μ => fX9_nodes_2 L o k (nI i) μ) (fun μ => some μ) (fun i μ => Sto d Z (o + 6) ei μ0 μ (fo (nodeG d) i g) ∧ gb d (fo (nodeG d) i g)) d.N ?_ ?_ d.N 0 μ FU (by omega) (FU_gt (by omega)) ⟨hS, hb⟩) ?_
  · intro k μ ⟨h1, h2⟩
    have hC := hC0.sto h1 hZ
    simp only [fX9_nodes_2]
    unfold fX9_nodes_2_b
    rw [hC.1, if_pos (nI_le (Nat.le_refl _) (by omega))]
  · intro k i μ hi ⟨h1, h2⟩
    have hC := hC0.sto h1 hZ
    have hgb := gb_node h2 hi
    simp only [fX9_nodes_2]
    unfold fX9_nodes_2_b
    rw [hC.1, if_neg (nI_ge hi (by omega)), q_leastSingle hd hL hC h1.2.2 h2 hi, bd_s]
    simp only [fo]
    generalize hG : fo (nodeG d) i g = G at h1 h2 hgb
    have hm := mn_le (fun a => G (si i a)) d.tp (d.z i)
    have hat := mn_at (fun a => G (si i a)) d.tp (d.z i)
    by_cases hx : 0 < mn (fun a => G (si i a)) d.tp (d.z i)
    · obtain ⟨μ1, q1, q2⟩ := q_raises hd hL hC0 hZ h1 h2 hi (x := mn (fun a => G (si i a)) d.tp (d.z i)) (by omega) hat
      obtain ⟨μ2, q3, q4⟩ := q_node hd hL hC0 hZ q2 (gb_mvC h2 hi) hi (fX9_nodes_2 L o k)
      rw [if_neg (fun q => (nle0 (by omega)).mp q hx), q1, bv_s, q3]
      refine ⟨μ2, rfl, ?_, hgb⟩
      rw [nodeG, if_pos hx]
      exact q4
    · obtain ⟨μ2, q3, q4⟩ := q_node hd hL hC0 hZ h1 h2 hi (fX9_nodes_2 L o k)
      rw [if_pos ((nle0 (by omega)).mpr hx), q3]
      refine ⟨μ2, rfl, ?_, hgb⟩
      rw [nodeG, if_neg hx]
      exact q4
  · intro μ' ⟨h1, h2, h3⟩
    exact ⟨μ', h1, h2⟩
theorem q_shuts (hd : d.ok) (hL : LR L o) (hC0 : RS o μ0 d) (hZ : rZ Z o) (hS : Sto d Z (o + 6) ei μ0 μ g) (hb : gb d g) {t : Nat} (ht : t < d.T) :
    ∃ μ', fX9_shuts L o (nI t) μ = some μ' ∧ Sto d Z (o + 6) ei μ0 μ' (tpT d t g) := by
  have hl := Sp.hl hd ht
  have hz := Sp.hz hd hl.1
  have hz2 := Sp.hz hd hl.2.1
  have htp := hd.2.2.2.2.2
  unfold fX9_shuts
  refine Exists.elim (lpI (fun k a μ => fX9_shuts_2 L o k (nI t) (nI a) μ) (fun μ => some μ) (fun a μ => Sto d Z (o + 6) ei μ0 μ (fo (fun a => fo (tpG d t a) (d.z (d.hi t))) a g) ∧ gb d (fo (fun a => fo (tpG d t a) (d.z (d.hi t))) a g)) (d.z (d.lo t)) ?_ ?_ (d.z (d.lo t)) 0 μ FU (by omega) (FU_gt (by omega)) ⟨hS, hb⟩) ?_
  · intro k μ ⟨h1, h2⟩
    have hC' := hC0.sto h1 hZ
    simp only [fX9_shuts_2]
    unfold fX9_shuts_2_b
    rw [q_lo hd hL hC' ht, q_many hd hL hC' hl.1, if_pos (nI_le (Nat.le_refl _) (by omega))]
  · intro k a μ ha ⟨h1, h2⟩
    have hC' := hC0.sto h1 hZ
    simp only [fX9_shuts_2]
    unfold fX9_shuts_2_b
    rw [q_lo hd hL hC' ht, q_many hd hL hC' hl.1, if_neg (nI_ge ha (by omega))]
    refine Exists.elim (lpI (fun kk b μ => fX9_shuts_19 L o (fX9_shuts_2 L o k) kk (nI t) (nI a) (nI b) μ) (fun μ => fX9_shuts_2 L o k (nI t) (nI (a + 1)) μ) (fun b μ => Sto d Z (o + 6) ei μ0 μ (fo (tpG d t a) b (fo (fun a => fo (tpG d t a) (d.z (d.hi t))) a g)) ∧ gb d (fo (tpG d t a) b (fo (fun a => fo (tpG d t a) (d.z (d.hi t))) a g))) (d.z (d.hi t)) ?_ ?_ (d.z (d.hi t)) 0 μ FU (by omega) (FU_gt (by omega)) ⟨h1, h2⟩) ?_
    · intro k' μ ⟨h1, h2⟩
      have hC' := hC0.sto h1 hZ
      simp only [fX9_shuts_19]
      unfold fX9_shuts_19_b
      rw [q_hi hd hL hC' ht, q_many hd hL hC' hl.2.1, if_pos (nI_le (Nat.le_refl _) (by omega)), ltx_s, nI_1]
    · intro k' b μ hbz ⟨h1, h2⟩
      have hC' := hC0.sto h1 hZ
      generalize hG : fo (tpG d t a) b (fo (fun a => fo (tpG d t a) (d.z (d.hi t))) a g) = G at h1 h2
      have e1 := h2 _ (Sp.Us hl.1 ha)
      have e2 := h2 _ (Sp.Us hl.2.1 hbz)
      simp only [fX9_shuts_19]
      unfold fX9_shuts_19_b fX9_shuts_78 fX9_shuts_94
      rw [q_hi hd hL hC' ht, q_many hd hL hC' hl.2.1, if_neg (nI_ge hbz (by omega)), q_lo hd hL hC' ht, q_si, q_get hd hL h1.2.2 (Sp.Us hl.1 ha), hC'.2.2.1]
      simp only [fo]
      rw [hG]
      by_cases q1 : G (si (d.lo t) a) = d.tp
      · rw [if_pos (nEq q1), n0, q_pairAt (by decide), bd_s, show pk t 0 a b = pi t a b from rfl, q_put hd hL (Sp.Up ht ha hbz), ltx_s, nI_1, hC'.2.2.1]
        refine ⟨_, rfl, ?_, gb_tpG h2⟩
        rw [tpG, if_pos (Or.inl q1)]
        exact h1.up ei_inj (Sp.Up ht ha hbz)
      · rw [if_neg (nNe q1 (by omega) (by omega)), q_hi hd hL hC' ht, q_si, q_get hd hL h1.2.2 (Sp.Us hl.2.1 hbz)]
        by_cases q2 : G (si (d.hi t) b) = d.tp
        · rw [if_pos (nEq q2), n0, q_pairAt (by decide), bd_s, show pk t 0 a b = pi t a b from rfl, q_put hd hL (Sp.Up ht ha hbz), ltx_s, nI_1, hC'.2.2.1]
          refine ⟨_, rfl, ?_, gb_tpG h2⟩
          rw [tpG, if_pos (Or.inr q2)]
          exact h1.up ei_inj (Sp.Up ht ha hbz)
        · rw [if_neg (nNe q2 (by omega) (by omega)), ltx_s, nI_1]
          refine ⟨_, rfl, ?_, gb_tpG h2⟩
          rw [tpG, if_neg (fun q => q.elim q1 q2)]
          exact h1
    · intro μ' ⟨g1, g2, g3⟩
      exact ⟨μ', g1, g2, g3⟩
  · intro μ' ⟨h1, h2, h3⟩
    exact ⟨μ', h1, h2⟩
theorem q_pls (hd : d.ok) (hL : LR L o) (hC0 : RS o μ0 d) (hZ : rZ Z o) (hS : Sto d Z (o + 6) ei μ0 μ g) (hb : gb d g) {s t : Nat} (hs : s < 2) (ht : t < d.T) (self7 : Int32 → Int32 → Mem → Option Mem) : ∃ μ', fX9_arcs_14 L o self7 FU (nI t) (nI s) (0 : Int32) μ = self7 (nI t) (nI (s + 1)) μ' ∧ Sto d Z (o + 6) ei μ0 μ' (plsG d t s g) := by
  have htp := hd.2.2.2.2.2
  have hn := Sp.nm_lt hd (s := s) ht
  have hz := Sp.hz hd hn
  refine Exists.elim (lpI (fun k a μ => fX9_arcs_14 L o self7 k (nI t) (nI s) (nI a) μ) (fun μ => self7 (nI t) (nI (s + 1)) μ) (fun a μ => Sto d Z (o + 6) ei μ0 μ (fo (plG d t s) a g) ∧ gb d (fo (plG d t s) a g)) (d.z (d.nm s t)) ?_ ?_ (d.z (d.nm s t)) 0 μ FU (by omega) (FU_gt (by omega)) ⟨hS, hb⟩) ?_
  · intro k μ ⟨h1, h2⟩
    have hC := hC0.sto h1 hZ
    simp only [fX9_arcs_14]
    unfold fX9_arcs_14_b
    rw [q_nameOf hd hL hC hs ht, bd_s, q_many hd hL hC hn, if_pos (nI_le (Nat.le_refl _) (by omega)), ltx_s, nI_1]
  · intro k a μ ha ⟨h1, h2⟩
    have hC := hC0.sto h1 hZ
    have hgb := gb_pl hd h2 hs ht ha
    simp only [fX9_arcs_14]
    unfold fX9_arcs_14_b fX9_arcs_52
    rw [q_nameOf hd hL hC hs ht, bd_s, q_many hd hL hC hn, if_neg (nI_ge ha (by omega)), q_leastPair hd hL hC h1.2.2 h2 hs ht ha, bd_s]
    simp only [fo]
    generalize hG : fo (plG d t s) a g = G at h1 h2 hgb
    have hm := mn_le (fun b => G (pk t s a b)) d.tp (d.z (d.nm (1 - s) t))
    have hat := mn_at (fun b => G (pk t s a b)) d.tp (d.z (d.nm (1 - s) t))
    by_cases hx : 0 < mn (fun b => G (pk t s a b)) d.tp (d.z (d.nm (1 - s) t))
    · obtain ⟨μ1, h3, h4⟩ := q_projects hd hL hC0 hZ h1 h2 hs ht ha (x := mn (fun b => G (pk t s a b)) d.tp (d.z (d.nm (1 - s) t))) (by omega) hat
      rw [if_neg (fun q => (nle0 (by omega)).mp q hx), h3, bv_s, ltx_s, nI_1]
      refine ⟨μ1, rfl, ?_, hgb⟩
      rw [plG, if_pos hx]
      exact h4
    · rw [if_pos ((nle0 (by omega)).mpr hx), ltx_s, nI_1]
      refine ⟨μ, rfl, ?_, hgb⟩
      rw [plG, if_neg hx]
      exact h1
  · intro μ' ⟨h1, h2, h3⟩
    exact ⟨μ', h1, h2⟩
theorem q_arc (hd : d.ok) (hL : LR L o) (hC0 : RS o μ0 d) (hZ : rZ Z o) (hS : Sto d Z (o + 6) ei μ0 μ g) (hb : gb d g) {t : Nat} (ht : t < d.T) : ∃ μ', fX9_arcs L o (nI t) μ = some μ' ∧ Sto d Z (o + 6) ei μ0 μ' (arcG d t g) := by
  obtain ⟨μ1, q1, q2⟩ := q_shuts hd hL hC0 hZ hS hb ht
  have b1 := gb_tpT (d := d) hb (t := t)
  have b2 := gb_pls hd b1 (s := 0) (by decide) ht
  unfold fX9_arcs
  rw [q1, bv_s]
  obtain ⟨k, hk⟩ : ∃ k, FU = k + 1 + 1 + 1 := ⟨99997, rfl⟩
  obtain ⟨μ2, q3, q4⟩ := q_pls hd hL hC0 hZ q2 b1 (s := 0) (by decide) ht (fX9_arcs_7 L o (k + 1 + 1))
  obtain ⟨μ3, q5, q6⟩ := q_pls hd hL hC0 hZ q4 b2 (s := 1) (by decide) ht (fX9_arcs_7 L o (k + 1))
  have e1 : fX9_arcs_7 L o (k + 1 + 1 + 1) (nI t) (nI 0) μ1 = fX9_arcs_14 L o (fX9_arcs_7 L o (k + 1 + 1)) FU (nI t) (nI 0) (0 : Int32) μ1 := by
    show fX9_arcs_7_b L o (fX9_arcs_7 L o (k + 1 + 1)) (nI t) (nI 0) μ1 = _
    unfold fX9_arcs_7_b
    rw [if_neg (by decide)]
  have e0 : fX9_arcs_7 L o FU (nI t) (0 : Int32) μ1 = fX9_arcs_7 L o (k + 1 + 1 + 1) (nI t) (nI 0) μ1 := by rw [← hk]; rfl
  have e2 : fX9_arcs_7 L o (k + 1 + 1) (nI t) (nI (0 + 1)) μ2 = fX9_arcs_14 L o (fX9_arcs_7 L o (k + 1)) FU (nI t) (nI 1) (0 : Int32) μ2 := by
    show fX9_arcs_7_b L o (fX9_arcs_7 L o (k + 1)) (nI t) (nI (0 + 1)) μ2 = _
    unfold fX9_arcs_7_b
    rw [if_neg (by decide)]
  have e3 : fX9_arcs_7 L o (k + 1) (nI t) (nI (1 + 1)) μ3 = some μ3 := by
    simp only [fX9_arcs_7]
    unfold fX9_arcs_7_b
    rw [if_pos (by decide)]
  rw [e0, e1, q3, e2, q5, e3]
  exact ⟨μ3, rfl, q6⟩
end PQ
