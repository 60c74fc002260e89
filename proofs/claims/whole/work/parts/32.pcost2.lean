theorem nEq {a b : Nat} (h : a = b) : nI a = nI b := by rw [h]
theorem nNe {a b : Nat} (h : ¬ a = b) (ha : a < 2 ^ 31) (hb : b < 2 ^ 31) : ¬ nI a = nI b := fun q => h ((nI_eq ha hb).mp q)
/-! sides of a table -/
def Sp.nm (d : Sp) (s t : Nat) : Nat := if s = 0 then d.lo t else d.hi t
def pk (t s a b : Nat) : Nat := if s = 0 then pi t a b else pi t b a
theorem Sp.nm_lt {d : Sp} (hd : d.ok) {s t : Nat} (ht : t < d.T) : d.nm s t < d.N := by
  have := Sp.hl hd ht
  unfold Sp.nm
  split <;> omega
theorem Sp.Uk {d : Sp} {s t a b : Nat} (hs : s < 2) (ht : t < d.T) (ha : a < d.z (d.nm s t)) (hb : b < d.z (d.nm (1 - s) t)) : d.U (pk t s a b) := by
  rcases (show s = 0 ∨ s = 1 by omega) with rfl | rfl
  · exact Sp.Up ht ha hb
  · exact Sp.Up ht hb ha
theorem pk_inj {t s a b b' : Nat} (hs : s < 2) (h : b ≠ b') : pk t s a b ≠ pk t s a b' := by
  rcases (show s = 0 ∨ s = 1 by omega) with rfl | rfl <;> simp [pk, pi] <;> omega
theorem fo_ind {α : Type} {P : α → Prop} {f : Nat → α → α} {g : α} : ∀ {n : Nat}, P g → (∀ i g, i < n → P g → P (f i g)) → P (fo f n g)
  | 0, h, _ => h
  | n + 1, h, hs => hs n _ (by omega) (fo_ind h (fun i g hi => hs i g (by omega)))
theorem fo_ne {f : Nat → (Nat → Nat) → Nat → Nat} {g : Nat → Nat} {k n : Nat} (h : ∀ i g, i < n → f i g k = g k) : fo f n g k = g k := fo_ind (P := fun g' => g' k = g k) rfl (fun i g' hi hg => (h i g' hi).trans hg)
theorem fo_ext {α : Type} {f f' : Nat → α → α} {g : α} : ∀ {n : Nat}, (∀ i g, i < n → f i g = f' i g) → fo f n g = fo f' n g
  | 0, _ => rfl
  | n + 1, h => by
    simp only [fo]
    rw [fo_ext (fun i g hi => h i g (by omega)), h n _ (by omega)]
theorem gb_gu {d : Sp} {g : Nat → Nat} {k v : Nat} (h : gb d g) (hv : v ≤ d.tp) : gb d (gu g k v) := by
  intro j hj
  by_cases hjk : j = k
  · subst hjk; rw [gu_at]; exact hv
  · rw [gu_ne hjk]; exact h j hj
theorem ls_le {tp a x : Nat} (h : a ≤ tp) : ls tp a x ≤ tp := by unfold ls; split <;> omega
/-- PROJECTED, EXTENDED, RAISED as they are done -/
def lsG (tp x k : Nat) (g : Nat → Nat) : Nat → Nat := gu g k (ls tp (g k) x)
def smG (tp x k : Nat) (g : Nat → Nat) : Nat → Nat := gu g k (sm tp (g k) x)
def mvV (d : Sp) (t s a x : Nat) (g : Nat → Nat) : Nat → Nat := smG d.tp x (si (d.nm s t) a) (fo (fun b => lsG d.tp x (pk t s a b)) (d.z (d.nm (1 - s) t)) g)
def mvT (d : Sp) (t s a x : Nat) (g : Nat → Nat) : Nat → Nat := fo (fun b => smG d.tp x (pk t s a b)) (d.z (d.nm (1 - s) t)) (lsG d.tp x (si (d.nm s t) a) g)
def mvC (d : Sp) (i x : Nat) (g : Nat → Nat) : Nat → Nat := smG d.tp x 168 (fo (fun a => lsG d.tp x (si i a)) (d.z i) g)
theorem gb_ls {d : Sp} {g : Nat → Nat} {k x : Nat} (h : gb d g) (hk : d.U k) : gb d (lsG d.tp x k g) := gb_gu h (ls_le (h k hk))
theorem gb_sm {d : Sp} {g : Nat → Nat} {k x : Nat} (h : gb d g) : gb d (smG d.tp x k g) := gb_gu h (sm_le _ _ _)
section PC2
variable {L : Nat → Nat} {o : Nat} {μ : Mem} {d : Sp} {g : Nat → Nat}
theorem c_nameOn (hd : d.ok) (hL : LC L o) (hC : CS o μ d) {s t : Nat} (hs : s < 2) (ht : t < d.T) : fX0_nameOn L o (nI t) (nI s) μ = some (nI (d.nm s t), μ) := by
  rcases (show s = 0 ∨ s = 1 by omega) with rfl | rfl
  · exact c_nameOn0 hd hL hC ht
  · exact c_nameOn1 hd hL hC ht
theorem c_valuesOn (hd : d.ok) (hL : LC L o) (hC : CS o μ d) {s t : Nat} (hs : s < 2) (ht : t < d.T) : fX0_valuesOn L o (nI t) (nI s) μ = some (nI (d.z (d.nm s t)), μ) := by
  rcases (show s = 0 ∨ s = 1 by omega) with rfl | rfl
  · exact c_valuesOn0 hd hL hC ht
  · exact c_valuesOn1 hd hL hC ht
theorem c_across {s : Nat} (hs : s < 2) : fX0_acrossFrom L (nI s) μ = some (nI (1 - s), μ) := by
  rcases (show s = 0 ∨ s = 1 by omega) with rfl | rfl <;> rfl
theorem c_pairFrom (hd : d.ok) {s t a b : Nat} (hs : s < 2) (ht : t < d.T) (ha : a < d.z (d.nm s t)) (hb : b < d.z (d.nm (1 - s) t)) : fX0_pairFrom L (nI t) (nI s) (nI a) (nI b) μ = some (nI (cx (pk t s a b)), μ) := by
  rcases (show s = 0 ∨ s = 1 by omega) with rfl | rfl
  · unfold fX0_pairFrom
    rw [if_pos (show nI 0 = 0 from rfl), c_pairAt, bd_s]
    show _ = some (nI (cx (pi t a b)), μ)
    rw [cx_p hd ht ha hb]
  · unfold fX0_pairFrom
    rw [if_neg (by decide), c_pairAt, bd_s]
    show _ = some (nI (cx (pi t b a)), μ)
    rw [cx_p hd ht hb ha]
theorem c_leastPairOf (hd : d.ok) (hL : LC L o) (hC : CS o μ d) (hg : Cg o μ d g) (hb : gb d g) {s t a : Nat} (hs : s < 2) (ht : t < d.T) (ha : a < d.z (d.nm s t)) : fX0_leastPairOf L o (nI t) (nI s) (nI a) μ = some (nI (mn (fun b => g (pk t s a b)) d.tp (d.z (d.nm (1 - s) t))), μ) := by
  have hz := Sp.hz hd (Sp.nm_lt hd (s := 1 - s) ht)
  have htp := hd.2.2.2.2.2
  unfold fX0_leastPairOf
  rw [ltx_s, hC.2.2.1, c_across hs, bd_s, c_valuesOn hd hL hC (by omega) ht, bd_s]
  refine lpC (fun k b => fX0_leastPairOf_20 L o k (nI t) (nI s) (nI a) (nI (mn (fun b => g (pk t s a b)) d.tp b)) (nI (d.z (d.nm (1 - s) t))) (nI b) μ) _ (d.z (d.nm (1 - s) t)) ?_ ?_ (d.z (d.nm (1 - s) t)) 0 FU (by omega) (FU_gt (by omega))
  · intro k
    simp only [fX0_leastPairOf_20]
    unfold fX0_leastPairOf_20_b
    rw [if_pos (nI_le (Nat.le_refl _) (by omega))]
  · intro k b hbz
    have h1 := hb _ (Sp.Uk hs ht ha hbz)
    have h2 := mn_le (fun b => g (pk t s a b)) d.tp b
    simp only [fX0_leastPairOf_20]
    conv => lhs; unfold fX0_leastPairOf_20_b
    rw [if_neg (nI_ge hbz (by omega)), c_pairFrom hd hs ht ha hbz, bd_s, c_get hd hL hg (Sp.Uk hs ht ha hbz), bd_s, ltx_s, ltx_s, nI_1]
    congr 1
    rw [nif]
    congr 1
    simp only [mn]
    simp only [nlt (show g (pk t s a b) < 2 ^ 31 by omega) (show mn (fun b => g (pk t s a b)) d.tp b < 2 ^ 31 by omega)]
theorem c_leastOfTable (hd : d.ok) (hL : LC L o) (hC : CS o μ d) (hg : Cg o μ d g) (hb : gb d g) {t : Nat} (ht : t < d.T) : fX0_leastOfTable L o (nI t) μ = some (nI (mn (fun a => mn (fun b => g (pk t 0 a b)) d.tp (d.z (d.hi t))) d.tp (d.z (d.lo t))), μ) := by
  have hz := Sp.hz hd (Sp.hl hd ht).1
  have htp := hd.2.2.2.2.2
  unfold fX0_leastOfTable
  rw [ltx_s, hC.2.2.1]
  refine lpC (fun k a => fX0_leastOfTable_7 L o k (nI t) (nI (mn (fun a => mn (fun b => g (pk t 0 a b)) d.tp (d.z (d.hi t))) d.tp a)) (nI a) μ) _ (d.z (d.lo t)) ?_ ?_ (d.z (d.lo t)) 0 FU (by omega) (FU_gt (by omega))
  · intro k
    simp only [fX0_leastOfTable_7]
    unfold fX0_leastOfTable_7_b
    rw [c_valuesOn0 hd hL hC ht, bd_s, if_pos (nI_le (Nat.le_refl _) (by omega))]
  · intro k a ha
    have h1 := mn_le (fun b => g (pk t 0 a b)) d.tp (d.z (d.hi t))
    have h2 := mn_le (fun a => mn (fun b => g (pk t 0 a b)) d.tp (d.z (d.hi t))) d.tp a
    have h3 := c_leastPairOf hd hL hC hg hb (s := 0) (by decide) ht ha
    rw [show nI 0 = (0 : Int32) from rfl, show d.nm (1 - 0) t = d.hi t from rfl] at h3
    simp only [fX0_leastOfTable_7]
    conv => lhs; unfold fX0_leastOfTable_7_b
    rw [c_valuesOn0 hd hL hC ht, bd_s, if_neg (nI_ge ha (by omega)), h3, bd_s, ltx_s, ltx_s, nI_1]
    congr 1
    rw [nif]
    congr 1
    simp only [mn]
    simp only [nlt (show mn (fun b => g (pk t 0 a b)) d.tp (d.z (d.hi t)) < 2 ^ 31 by omega) (show mn (fun a => mn (fun b => g (pk t 0 a b)) d.tp (d.z (d.hi t))) d.tp a < 2 ^ 31 by omega)]
theorem c_isShut (hd : d.ok) (hL : LC L o) (hC : CS o μ d) (hg : Cg o μ d g) (hb : gb d g) {i a : Nat} (hi : i < d.N) (ha : a < d.z i) : fX0_isShut L o (nI i) (nI a) μ = some ((if sm d.tp (g 168) (g (si i a)) = d.tp then 1 else 0), μ) := by
  have h1 := hb _ (Sp.Us hi ha)
  have h2 := hb _ (Sp.Uc)
  have h3 := hd.2.2.2.2.2
  have h4 := sm_le d.tp (g 168) (g (si i a))
  unfold fX0_isShut
  rw [c_constant hd hL hg, bd_s, c_single hd hL hg hi ha, bd_s, c_sum hd hC (by omega) (by omega), bd_s, hC.2.2.1]
  by_cases h : sm d.tp (g 168) (g (si i a)) = d.tp
  · rw [if_pos h, h, if_pos rfl]
  · rw [if_neg h, if_neg (fun q => h ((nI_eq (by omega) (by omega)).mp q))]
theorem Cg.sto {Z : Nat → Prop} {μ0 : Mem} (h : Sto d Z (o + 7 + 1) cx μ0 μ g) : Cg o μ d g := h.2.2
def nZ (Z : Nat → Prop) (o : Nat) : Prop := ¬ Z o ∧ ¬ Z (o + 1 + 1) ∧ ¬ Z (o + 3 + 1) ∧ ¬ Z (o + 5 + 1)
theorem c_moveToValue {Z : Nat → Prop} {μ0 : Mem} (hd : d.ok) (hL : LC L o) (hC0 : CS o μ0 d) (hZ : nZ Z o) (hS : Sto d Z (o + 7 + 1) cx μ0 μ g) (hb : gb d g) {s t a x : Nat} (hs : s < 2) (ht : t < d.T) (ha : a < d.z (d.nm s t)) (hx : x ≤ 99) (hxx : ∀ b, b < d.z (d.nm (1 - s) t) → x ≤ g (pk t s a b)) :
    ∃ μ', fX0_moveToValue L o (nI t) (nI s) (nI a) (nI x) μ = some μ' ∧ Sto d Z (o + 7 + 1) cx μ0 μ' (mvV d t s a x g) := by
  have hz := Sp.hz hd (Sp.nm_lt hd (s := 1 - s) ht)
  have hC := hC0.sto hS hZ
  unfold fX0_moveToValue
  rw [c_across hs, bd_s, c_valuesOn hd hL hC (by omega) ht, bd_s]
  refine Exists.elim (lpI (fun k b μ => fX0_moveToValue_14 L o k (nI t) (nI s) (nI a) (nI x) (nI (d.z (d.nm (1 - s) t))) (nI b) μ) (fun μ => bd (fX0_nameOn L o (nI t) (nI s) μ) (fun b2 μ1 => bd (fX0_singleAt L b2 (nI a) μ1) (fun b4 μ3 => bv (fX0_enlarge L o b4 (nI x) μ3) (fun μ5 => some μ5)))) (fun b μ => Sto d Z (o + 7 + 1) cx μ0 μ (fo (fun b => lsG d.tp x (pk t s a b)) b g) ∧ gb d (fo (fun b => lsG d.tp x (pk t s a b)) b g)) (d.z (d.nm (1 - s) t)) ?_ ?_ (d.z (d.nm (1 - s) t)) 0 μ FU (by omega) (FU_gt (by omega)) ⟨hS, hb⟩) ?_
  · intro k μ h
    simp only [fX0_moveToValue_14]
    unfold fX0_moveToValue_14_b
    rw [if_pos (nI_le (Nat.le_refl _) (by omega))]
  · intro k b μ hbz ⟨h1, h2⟩
    have hU := Sp.Uk hs ht ha hbz
    have hC' := hC0.sto h1 hZ
    have hg0 : fo (fun b => lsG d.tp x (pk t s a b)) b g (pk t s a b) = g (pk t s a b) := fo_ne (fun i g hi => gu_ne (pk_inj hs (by omega)))
    refine ⟨_, ?_, h1.up (cx_inj hd) hU, gb_ls h2 hU⟩
    simp only [fX0_moveToValue_14]
    conv => lhs; unfold fX0_moveToValue_14_b
    rw [if_neg (nI_ge hbz (by omega)), c_pairFrom hd hs ht ha hbz, bd_s, c_lessen hd hL hC' h1.2.2 h2 hU (by rw [hg0]; exact hxx b hbz), bv_s, ltx_s, nI_1]
  · intro μ' ⟨h1, h2, h3⟩
    have hC' := hC0.sto h2 hZ
    refine ⟨_, h1.trans ?_, h2.up (cx_inj hd) (Sp.Us (Sp.nm_lt hd (s := s) ht) ha)⟩
    rw [c_nameOn hd hL hC' hs ht, bd_s, c_singleAt, bd_s, ← cx_s hd (Sp.nm_lt hd (s := s) ht) ha, c_enlarge hd hL hC' h2.2.2 h3 (Sp.Us (Sp.nm_lt hd (s := s) ht) ha) hx, bv_s]
theorem gb_mvV (hd : d.ok) (hb : gb d g) {s t a x : Nat} (hs : s < 2) (ht : t < d.T) (ha : a < d.z (d.nm s t)) : gb d (mvV d t s a x g) := gb_sm (fo_ind hb (fun _ _ hi hg => gb_ls hg (Sp.Uk hs ht ha hi)))
theorem c_moveToTable {Z : Nat → Prop} {μ0 : Mem} (hd : d.ok) (hL : LC L o) (hC0 : CS o μ0 d) (hZ : nZ Z o) (hS : Sto d Z (o + 7 + 1) cx μ0 μ g) (hb : gb d g) {s t a x : Nat} (hs : s < 2) (ht : t < d.T) (ha : a < d.z (d.nm s t)) (hx : x ≤ 99) (hxx : x ≤ g (si (d.nm s t) a)) :
    ∃ μ', fX0_moveToTable L o (nI t) (nI s) (nI a) (nI x) μ = some μ' ∧ Sto d Z (o + 7 + 1) cx μ0 μ' (mvT d t s a x g) := by
  have hz := Sp.hz hd (Sp.nm_lt hd (s := 1 - s) ht)
  have hC := hC0.sto hS hZ
  have hU := Sp.Us (Sp.nm_lt hd (s := s) ht) ha
  have hS1 := hS.up (cx_inj hd) (v := ls d.tp (g (si (d.nm s t) a)) x) hU
  have hC1 := hC0.sto hS1 hZ
  unfold fX0_moveToTable
  rw [c_nameOn hd hL hC hs ht, bd_s, c_singleAt, bd_s, ← cx_s hd (Sp.nm_lt hd (s := s) ht) ha, c_lessen hd hL hC hS.2.2 hb hU hxx, bv_s, c_across hs, bd_s, c_valuesOn hd hL hC1 (by omega) ht, bd_s]
  refine Exists.elim (lpI (fun k b μ => fX0_moveToTable_30 L o k (nI t) (nI s) (nI a) (nI x) (nI (d.z (d.nm (1 - s) t))) (nI b) μ) (fun μ => some μ) (fun b μ => Sto d Z (o + 7 + 1) cx μ0 μ (fo (fun b => smG d.tp x (pk t s a b)) b (lsG d.tp x (si (d.nm s t) a) g)) ∧ gb d (fo (fun b => smG d.tp x (pk t s a b)) b (lsG d.tp x (si (d.nm s t) a) g))) (d.z (d.nm (1 - s) t)) ?_ ?_ (d.z (d.nm (1 - s) t)) 0 _ FU (by omega) (FU_gt (by omega)) ⟨hS1, gb_ls hb hU⟩) ?_
  · intro k μ h
    simp only [fX0_moveToTable_30]
    unfold fX0_moveToTable_30_b
    rw [if_pos (nI_le (Nat.le_refl _) (by omega))]
  · intro k b μ hbz ⟨h1, h2⟩
    have hU := Sp.Uk hs ht ha hbz
    have hC' := hC0.sto h1 hZ
    refine ⟨_, ?_, h1.up (cx_inj hd) hU, gb_sm h2⟩
    simp only [fX0_moveToTable_30]
    conv => lhs; unfold fX0_moveToTable_30_b
    rw [if_neg (nI_ge hbz (by omega)), c_pairFrom hd hs ht ha hbz, bd_s, c_enlarge hd hL hC' h1.2.2 h2 hU hx, bv_s, ltx_s, nI_1]
  · intro μ' ⟨h1, h2, h3⟩
    exact ⟨μ', h1, h2⟩
theorem gb_mvT (hd : d.ok) (hb : gb d g) {s t a x : Nat} (ht : t < d.T) (ha : a < d.z (d.nm s t)) : gb d (mvT d t s a x g) := fo_ind (gb_ls hb (Sp.Us (Sp.nm_lt hd (s := s) ht) ha)) (fun _ _ _ hg => gb_sm hg)
theorem si_inj {i a b : Nat} (h : a ≠ b) : si i a ≠ si i b := by unfold si; omega
theorem c_moveToConstant {Z : Nat → Prop} {μ0 : Mem} (hd : d.ok) (hL : LC L o) (hC0 : CS o μ0 d) (hZ : nZ Z o) (hS : Sto d Z (o + 7 + 1) cx μ0 μ g) (hb : gb d g) {i x : Nat} (hi : i < d.N) (hx : x ≤ 99) (hxx : ∀ a, a < d.z i → x ≤ g (si i a)) :
    ∃ μ', fX0_moveToConstant L o (nI i) (nI x) μ = some μ' ∧ Sto d Z (o + 7 + 1) cx μ0 μ' (mvC d i x g) := by
  have hz := Sp.hz hd hi
  unfold fX0_moveToConstant
  refine Exists.elim (lpI (fun k a μ => fX0_moveToConstant_2 L o k (nI i) (nI x) (nI a) μ) (fun μ => bv (fX0_enlarge L o (0 : Int32) (nI x) μ) (fun μ3 => some μ3)) (fun a μ => Sto d Z (o + 7 + 1) cx μ0 μ (fo (fun a => lsG d.tp x (si i a)) a g) ∧ gb d (fo (fun a => lsG d.tp x (si i a)) a g)) (d.z i) ?_ ?_ (d.z i) 0 μ FU (by omega) (FU_gt (by omega)) ⟨hS, hb⟩) ?_
  · intro k μ ⟨h1, h2⟩
    have hC' := hC0.sto h1 hZ
    simp only [fX0_moveToConstant_2]
    unfold fX0_moveToConstant_2_b
    rw [c_valuesOf hd hL hC' hi, bd_s, if_pos (nI_le (Nat.le_refl _) (by omega))]
  · intro k a μ ha ⟨h1, h2⟩
    have hU := Sp.Us hi ha
    have hC' := hC0.sto h1 hZ
    have hg0 : fo (fun a => lsG d.tp x (si i a)) a g (si i a) = g (si i a) := fo_ne (fun j g hj => gu_ne (si_inj (by omega)))
    refine ⟨_, ?_, h1.up (cx_inj hd) hU, gb_ls h2 hU⟩
    simp only [fX0_moveToConstant_2]
    conv => lhs; unfold fX0_moveToConstant_2_b
    rw [c_valuesOf hd hL hC' hi, bd_s, if_neg (nI_ge ha (by omega)), c_singleAt, bd_s, ← cx_s hd hi ha, c_lessen hd hL hC' h1.2.2 h2 hU (by rw [hg0]; exact hxx a ha), bv_s, ltx_s, nI_1]
  · intro μ' ⟨h1, h2, h3⟩
    have hC' := hC0.sto h2 hZ
    refine ⟨_, h1.trans ?_, h2.up (cx_inj hd) Sp.Uc⟩
    rw [n0, ← cx_c, c_enlarge hd hL hC' h2.2.2 h3 Sp.Uc hx, bv_s]
theorem gb_mvC (hb : gb d g) {i x : Nat} (hi : i < d.N) : gb d (mvC d i x g) := gb_sm (fo_ind hb (fun _ _ ha hg => gb_ls hg (Sp.Us hi ha)))
/-- SINGLE costs of values that are shut become the top -/
def shG (d : Sp) (i a : Nat) (g : Nat → Nat) : Nat → Nat := if sm d.tp (g 168) (g (si i a)) = d.tp then gu g (si i a) d.tp else g
theorem gb_shG (hb : gb d g) {i a : Nat} : gb d (shG d i a g) := by
  unfold shG
  split
  · exact gb_gu hb (Nat.le_refl _)
  · exact hb
theorem c_topShut {Z : Nat → Prop} {μ0 : Mem} (hd : d.ok) (hL : LC L o) (hC0 : CS o μ0 d) (hZ : nZ Z o) (hS : Sto d Z (o + 7 + 1) cx μ0 μ g) (hb : gb d g) {i : Nat} (hi : i < d.N) :
    ∃ μ', fX0_topShutSingles L o (nI i) μ = some μ' ∧ Sto d Z (o + 7 + 1) cx μ0 μ' (fo (shG d i) (d.z i) g) := by
  have hz := Sp.hz hd hi
  unfold fX0_topShutSingles
  refine Exists.elim (lpI (fun k a μ => fX0_topShutSingles_2 L o k (nI i) (nI a) μ) (fun μ => some μ) (fun a μ => Sto d Z (o + 7 + 1) cx μ0 μ (fo (shG d i) a g) ∧ gb d (fo (shG d i) a g)) (d.z i) ?_ ?_ (d.z i) 0 μ FU (by omega) (FU_gt (by omega)) ⟨hS, hb⟩) ?_
  · intro k μ ⟨h1, h2⟩
    have hC' := hC0.sto h1 hZ
    simp only [fX0_topShutSingles_2]
    unfold fX0_topShutSingles_2_b
    rw [c_valuesOf hd hL hC' hi, bd_s, if_pos (nI_le (Nat.le_refl _) (by omega))]
  · intro k a μ ha ⟨h1, h2⟩
    have hU := Sp.Us hi ha
    have hC' := hC0.sto h1 hZ
    simp only [fX0_topShutSingles_2]
    unfold fX0_topShutSingles_2_b fX0_topShutSingles_30
    rw [c_valuesOf hd hL hC' hi, bd_s, if_neg (nI_ge ha (by omega)), c_isShut hd hL hC' h1.2.2 h2 hi ha, bd_s]
    by_cases hsh : sm d.tp (fo (shG d i) a g 168) (fo (shG d i) a g (si i a)) = d.tp
    · rw [if_pos hsh, if_neg (by decide), c_setSingle hd hL hi ha, bv_s, ltx_s, nI_1, hC'.2.2.1]
      refine ⟨_, rfl, ?_, gb_shG h2⟩
      simp only [fo]
      rw [shG, if_pos hsh]
      exact h1.up (cx_inj hd) hU
    · rw [if_neg hsh, if_pos rfl, ltx_s, nI_1]
      refine ⟨_, rfl, ?_, gb_shG h2⟩
      simp only [fo]
      rw [shG, if_neg hsh]
      exact h1
  · intro μ' ⟨h1, h2, h3⟩
    exact ⟨μ', h1, h2⟩
/-- costs of pairs with a value of single cost top become the top -/
def tpG (d : Sp) (t a b : Nat) (g : Nat → Nat) : Nat → Nat := if g (si (d.lo t) a) = d.tp ∨ g (si (d.hi t) b) = d.tp then gu g (pi t a b) d.tp else g
theorem gb_tpG (hb : gb d g) {t a b : Nat} : gb d (tpG d t a b g) := by
  unfold tpG
  split
  · exact gb_gu hb (Nat.le_refl _)
  · exact hb
def tpT (d : Sp) (t : Nat) (g : Nat → Nat) : Nat → Nat := fo (fun a => fo (tpG d t a) (d.z (d.hi t))) (d.z (d.lo t)) g
theorem gb_tpT (hb : gb d g) {t : Nat} : gb d (tpT d t g) := fo_ind hb (fun _ _ _ h => fo_ind h (fun _ _ _ h => gb_tpG h))
theorem c_topPairs {Z : Nat → Prop} {μ0 : Mem} (hd : d.ok) (hL : LC L o) (hC0 : CS o μ0 d) (hZ : nZ Z o) (hS : Sto d Z (o + 7 + 1) cx μ0 μ g) (hb : gb d g) {t : Nat} (ht : t < d.T) :
    ∃ μ', fX0_topPairsOfTopSingles L o (nI t) μ = some μ' ∧ Sto d Z (o + 7 + 1) cx μ0 μ' (tpT d t g) := by
  have hl := Sp.hl hd ht
  have hz := Sp.hz hd hl.1
  have hz2 := Sp.hz hd hl.2.1
  have htp := hd.2.2.2.2.2
  have hC := hC0.sto hS hZ
  unfold fX0_topPairsOfTopSingles
  rw [c_nameOn0 hd hL hC ht, bd_s, c_nameOn1 hd hL hC ht, bd_s]
  refine Exists.elim (lpI (fun k a μ => fX0_topPairsOfTopSingles_17 L o k (nI t) (nI (d.lo t)) (nI (d.hi t)) (nI a) μ) (fun μ => some μ) (fun a μ => Sto d Z (o + 7 + 1) cx μ0 μ (fo (fun a => fo (tpG d t a) (d.z (d.hi t))) a g) ∧ gb d (fo (fun a => fo (tpG d t a) (d.z (d.hi t))) a g)) (d.z (d.lo t)) ?_ ?_ (d.z (d.lo t)) 0 μ FU (by omega) (FU_gt (by omega)) ⟨hS, hb⟩) ?_
  · intro k μ ⟨h1, h2⟩
    have hC' := hC0.sto h1 hZ
    simp only [fX0_topPairsOfTopSingles_17]
    unfold fX0_topPairsOfTopSingles_17_b
    rw [c_valuesOf hd hL hC' hl.1, bd_s, if_pos (nI_le (Nat.le_refl _) (by omega))]
  · intro k a μ ha ⟨h1, h2⟩
    have hC' := hC0.sto h1 hZ
    simp only [fX0_topPairsOfTopSingles_17]
    unfold fX0_topPairsOfTopSingles_17_b
    rw [c_valuesOf hd hL hC' hl.1, bd_s, if_neg (nI_ge ha (by omega))]
    refine Exists.elim (lpI (fun kk b μ => fX0_topPairsOfTopSingles_30 L o (fX0_topPairsOfTopSingles_17 L o k) kk (nI t) (nI (d.lo t)) (nI (d.hi t)) (nI a) (nI b) μ) (fun μ => fX0_topPairsOfTopSingles_17 L o k (nI t) (nI (d.lo t)) (nI (d.hi t)) (nI (a + 1)) μ) (fun b μ => Sto d Z (o + 7 + 1) cx μ0 μ (fo (tpG d t a) b (fo (fun a => fo (tpG d t a) (d.z (d.hi t))) a g)) ∧ gb d (fo (tpG d t a) b (fo (fun a => fo (tpG d t a) (d.z (d.hi t))) a g))) (d.z (d.hi t)) ?_ ?_ (d.z (d.hi t)) 0 μ FU (by omega) (FU_gt (by omega)) ⟨h1, h2⟩) ?_
    · intro k' μ ⟨h1, h2⟩
      have hC' := hC0.sto h1 hZ
      simp only [fX0_topPairsOfTopSingles_30]
      unfold fX0_topPairsOfTopSingles_30_b
      rw [c_valuesOf hd hL hC' hl.2.1, bd_s, if_pos (nI_le (Nat.le_refl _) (by omega)), ltx_s, nI_1]
    · intro k' b μ hbz ⟨h1, h2⟩
      have hC' := hC0.sto h1 hZ
      generalize hG : fo (tpG d t a) b (fo (fun a => fo (tpG d t a) (d.z (d.hi t))) a g) = G at h1 h2
      have e1 := h2 _ (Sp.Us hl.1 ha)
      have e2 := h2 _ (Sp.Us hl.2.1 hbz)
      simp only [fX0_topPairsOfTopSingles_30]
      unfold fX0_topPairsOfTopSingles_30_b fX0_topPairsOfTopSingles_68 fX0_topPairsOfTopSingles_81
      rw [c_valuesOf hd hL hC' hl.2.1, bd_s, if_neg (nI_ge hbz (by omega)), c_single hd hL h1.2.2 hl.1 ha, bd_s, hC'.2.2.1]
      simp only [fo]
      rw [hG]
      by_cases q1 : G (si (d.lo t) a) = d.tp
      · rw [if_pos (nEq q1), c_setPair hd hL ht ha hbz, bv_s, ltx_s, nI_1]
        refine ⟨_, rfl, ?_, gb_tpG h2⟩
        rw [tpG, if_pos (Or.inl q1)]
        exact h1.up (cx_inj hd) (Sp.Up ht ha hbz)
      · rw [if_neg (nNe q1 (by omega) (by omega)), c_single hd hL h1.2.2 hl.2.1 hbz, bd_s, hC'.2.2.1]
        by_cases q2 : G (si (d.hi t) b) = d.tp
        · rw [if_pos (nEq q2), c_setPair hd hL ht ha hbz, bv_s, ltx_s, nI_1]
          refine ⟨_, rfl, ?_, gb_tpG h2⟩
          rw [tpG, if_pos (Or.inr q2)]
          exact h1.up (cx_inj hd) (Sp.Up ht ha hbz)
        · rw [if_neg (nNe q2 (by omega) (by omega)), ltx_s, nI_1]
          refine ⟨_, rfl, ?_, gb_tpG h2⟩
          rw [tpG, if_neg (fun q => q.elim q1 q2)]
          exact h1
    · intro μ' ⟨g1, g2, g3⟩
      exact ⟨μ', g1, g2, g3⟩
  · intro μ' ⟨h1, h2, h3⟩
    exact ⟨μ', h1, h2⟩
end PC2
