/-! the class's Costs -/
def LC (L : Nat → Nat) (o : Nat) : Prop := L (o + 1 + 1) = 6 ∧ L (o + 3 + 1) = 9 ∧ L (o + 5 + 1) = 9 ∧ L (o + 7 + 1) = 169
def CS (o : Nat) (μ : Mem) (d : Sp) : Prop := μ o 4 = nI d.N ∧ μ o 5 = nI d.T ∧ μ o 6 = nI d.tp ∧ (∀ i, i < d.N → μ (o + 1 + 1) i = nI (d.z i)) ∧ (∀ t, t < d.T → μ (o + 3 + 1) t = nI (d.lo t)) ∧ (∀ t, t < d.T → μ (o + 5 + 1) t = nI (d.hi t))
def Cg (o : Nat) (μ : Mem) (d : Sp) (g : Nat → Nat) : Prop := ∀ k, d.U k → μ (o + 7 + 1) (cx k) = nI (g k)
def gb (d : Sp) (g : Nat → Nat) : Prop := ∀ k, d.U k → g k ≤ d.tp
theorem rget {L : Nat → Nat} {μ : Mem} {r k n : Nat} (hL : L (r + 1) = n) (h : k < n) (hn : n < 2 ^ 31) : fX3_get L r (nI k) μ = some (μ (r + 1) k, μ) := by
  unfold fX3_get
  rw [if_neg (nI_pos (by omega)), hL, if_neg (nI_ge h hn), ald_s (by omega) (by omega)]
theorem rset {L : Nat → Nat} {μ : Mem} {r k n : Nat} {v : Int32} (hL : L (r + 1) = n) (h : k < n) (hn : n < 2 ^ 31) : fX3_set L r (nI k) v μ = some (up μ (r + 1) k v) := by
  unfold fX3_set
  rw [if_neg (nI_pos (by omega)), hL, if_neg (nI_ge h hn), ast_s (by omega) (by omega)]
section PC
variable {L : Nat → Nat} {o : Nat} {μ : Mem} {d : Sp} {g : Nat → Nat}
theorem CS.of {μ0 : Mem} (h : CS o μ0 d) (h0 : μ o = μ0 o) (h1 : μ (o + 1 + 1) = μ0 (o + 1 + 1)) (h2 : μ (o + 3 + 1) = μ0 (o + 3 + 1)) (h3 : μ (o + 5 + 1) = μ0 (o + 5 + 1)) : CS o μ d := by
  unfold CS
  rw [h0, h1, h2, h3]
  exact h
theorem CS.sto {Z : Nat → Prop} {μ0 : Mem} (h : CS o μ0 d) (hS : Sto d Z (o + 7 + 1) cx μ0 μ g) (hZ : ¬ Z o ∧ ¬ Z (o + 1 + 1) ∧ ¬ Z (o + 3 + 1) ∧ ¬ Z (o + 5 + 1)) : CS o μ d :=
  h.of (hS.1 _ (by omega) hZ.1) (hS.1 _ (by omega) hZ.2.1) (hS.1 _ (by omega) hZ.2.2.1) (hS.1 _ (by omega) hZ.2.2.2)
theorem c_valuesOf (hd : d.ok) (hL : LC L o) (hC : CS o μ d) {i : Nat} (hi : i < d.N) : fX0_valuesOf L o (nI i) μ = some (nI (d.z i), μ) := by
  unfold fX0_valuesOf
  rw [rget hL.1 (by have := hd.1; omega) (by decide), bd_s, hC.2.2.2.1 i hi]
theorem c_nameOn0 (hd : d.ok) (hL : LC L o) (hC : CS o μ d) {t : Nat} (ht : t < d.T) : fX0_nameOn L o (nI t) 0 μ = some (nI (d.lo t), μ) := by
  unfold fX0_nameOn
  rw [if_pos rfl, rget hL.2.1 (by have := hd.2.2.1; omega) (by decide), bd_s, hC.2.2.2.2.1 t ht]
theorem c_nameOn1 (hd : d.ok) (hL : LC L o) (hC : CS o μ d) {t : Nat} (ht : t < d.T) : fX0_nameOn L o (nI t) 1 μ = some (nI (d.hi t), μ) := by
  unfold fX0_nameOn
  rw [if_neg (by decide), rget hL.2.2.1 (by have := hd.2.2.1; omega) (by decide), bd_s, hC.2.2.2.2.2 t ht]
theorem Sp.hl {d : Sp} (hd : d.ok) {t : Nat} (ht : t < d.T) : d.lo t < d.N ∧ d.hi t < d.N ∧ d.lo t < d.hi t := by
  have := hd.2.2.2.1 t ht
  omega
theorem Sp.hz {d : Sp} (hd : d.ok) {i : Nat} (hi : i < d.N) : 2 ≤ d.z i ∧ d.z i ≤ 4 := hd.2.1 i hi
theorem c_valuesOn0 (hd : d.ok) (hL : LC L o) (hC : CS o μ d) {t : Nat} (ht : t < d.T) : fX0_valuesOn L o (nI t) 0 μ = some (nI (d.z (d.lo t)), μ) := by
  unfold fX0_valuesOn fX0_valuesOn_27
  have h := Sp.hl hd ht
  rw [if_pos rfl, rget hL.2.1 (by have := hd.2.2.1; omega) (by decide), bd_s, hC.2.2.2.2.1 t ht, rget hL.1 (by have := hd.1; omega) (by decide), bd_s, hC.2.2.2.1 _ h.1]
theorem c_valuesOn1 (hd : d.ok) (hL : LC L o) (hC : CS o μ d) {t : Nat} (ht : t < d.T) : fX0_valuesOn L o (nI t) 1 μ = some (nI (d.z (d.hi t)), μ) := by
  unfold fX0_valuesOn fX0_valuesOn_27
  have h := Sp.hl hd ht
  rw [if_neg (by decide), rget hL.2.2.1 (by have := hd.2.2.1; omega) (by decide), bd_s, hC.2.2.2.2.2 t ht, rget hL.1 (by have := hd.1; omega) (by decide), bd_s, hC.2.2.2.1 _ h.2.1]
theorem c_singleAt (i a : Nat) : fX0_singleAt L (nI i) (nI a) μ = some (nI (1 + 4 * i + a), μ) := by
  unfold fX0_singleAt
  rw [n1, n4, pk_mul, nI_add, nI_add]
theorem c_pairAt (t a b : Nat) : fX0_pairAt L (nI t) (nI a) (nI b) μ = some (nI (25 + 16 * t + 4 * a + b), μ) := by
  unfold fX0_pairAt
  rw [n25, n16, n4, pk_mul, pk_mul, nI_add, nI_add, nI_add]
theorem c_get (hd : d.ok) (hL : LC L o) (hg : Cg o μ d g) {k : Nat} (hk : d.U k) : fX3_get L (o + 7) (nI (cx k)) μ = some (nI (g k), μ) := by
  rw [rget hL.2.2.2 (cx_lt hd hk) (by decide), hg k hk]
theorem c_set (hd : d.ok) (hL : LC L o) {k : Nat} (hk : d.U k) (v : Int32) : fX3_set L (o + 7) (nI (cx k)) v μ = some (up μ (o + 7 + 1) (cx k) v) := rset hL.2.2.2 (cx_lt hd hk) (by decide)
theorem c_single (hd : d.ok) (hL : LC L o) (hg : Cg o μ d g) {i a : Nat} (hi : i < d.N) (ha : a < d.z i) : fX0_singleCost L o (nI i) (nI a) μ = some (nI (g (si i a)), μ) := by
  unfold fX0_singleCost
  rw [c_singleAt, bd_s, ← cx_s hd hi ha, c_get hd hL hg (Sp.Us hi ha), bd_s]
theorem c_pair (hd : d.ok) (hL : LC L o) (hg : Cg o μ d g) {t a b : Nat} (ht : t < d.T) (ha : a < d.z (d.lo t)) (hb : b < d.z (d.hi t)) : fX0_pairCost L o (nI t) (nI a) (nI b) μ = some (nI (g (pi t a b)), μ) := by
  unfold fX0_pairCost
  rw [c_pairAt, bd_s, ← cx_p hd ht ha hb, c_get hd hL hg (Sp.Up ht ha hb), bd_s]
theorem c_constant (hd : d.ok) (hL : LC L o) (hg : Cg o μ d g) : fX0_constant L o μ = some (nI (g 168), μ) := by
  unfold fX0_constant
  rw [n0, ← cx_c, c_get hd hL hg Sp.Uc, bd_s]
theorem sum_eq {tp a b : Nat} (ht : tp ≤ 99) (ha : a < 2 ^ 30) (hb : b < 2 ^ 30) : (if nI tp ≤ nI a + nI b then nI tp else nI a + nI b) = nI (sm tp a b) := by
  rw [nI_add]
  unfold sm
  by_cases h : tp ≤ a + b
  · rw [if_pos h, if_pos (nI_le h (by omega))]
  · rw [if_neg h, if_neg (nI_ge (by omega) (by omega))]
theorem c_sum (hd : d.ok) (hC : CS o μ d) {a b : Nat} (ha : a < 2 ^ 30) (hb : b < 2 ^ 30) : fX0_sum L o (nI a) (nI b) μ = some (nI (sm d.tp a b), μ) := by
  unfold fX0_sum
  rw [ltx_s, hC.2.2.1, ← sum_eq hd.2.2.2.2.2 ha hb]
  split <;> rfl
theorem c_enlarge (hd : d.ok) (hL : LC L o) (hC : CS o μ d) (hg : Cg o μ d g) (hb : gb d g) {k x : Nat} (hk : d.U k) (hx : x ≤ 99) : fX0_enlarge L o (nI (cx k)) (nI x) μ = some (up μ (o + 7 + 1) (cx k) (nI (sm d.tp (g k) x))) := by
  have h1 := hb k hk
  have h2 := hd.2.2.2.2.2
  unfold fX0_enlarge
  rw [c_get hd hL hg hk, bd_s, c_sum hd hC (by omega) (by omega), bd_s, c_set hd hL hk, bv_s]
theorem c_lessen (hd : d.ok) (hL : LC L o) (hC : CS o μ d) (hg : Cg o μ d g) (hb : gb d g) {k x : Nat} (hk : d.U k) (hx : x ≤ g k) : fX0_lessen L o (nI (cx k)) (nI x) μ = some (up μ (o + 7 + 1) (cx k) (nI (ls d.tp (g k) x))) := by
  have h1 := hb k hk
  have h2 := hd.2.2.2.2.2
  unfold fX0_lessen fX0_lessen_29
  rw [c_get hd hL hg hk, bd_s, hC.2.2.1]
  unfold ls
  by_cases h : g k = d.tp
  · rw [if_pos h, if_pos (by rw [h]), c_set hd hL hk, bv_s]
  · rw [if_neg h, if_neg (fun q => h ((nI_eq (by omega) (by omega)).mp q)), c_set hd hL hk, bv_s, pk_sub hx]
theorem c_setSingle (hd : d.ok) (hL : LC L o) {i a : Nat} (hi : i < d.N) (ha : a < d.z i) (v : Int32) : fX0_setSingle L o (nI i) (nI a) v μ = some (up μ (o + 7 + 1) (cx (si i a)) v) := by
  unfold fX0_setSingle
  rw [c_singleAt, bd_s, ← cx_s hd hi ha, c_set hd hL (Sp.Us hi ha), bv_s]
theorem c_setPair (hd : d.ok) (hL : LC L o) {t a b : Nat} (ht : t < d.T) (ha : a < d.z (d.lo t)) (hb : b < d.z (d.hi t)) (v : Int32) : fX0_setPair L o (nI t) (nI a) (nI b) v μ = some (up μ (o + 7 + 1) (cx (pi t a b)) v) := by
  unfold fX0_setPair
  rw [c_pairAt, bd_s, ← cx_p hd ht ha hb, c_set hd hL (Sp.Up ht ha hb), bv_s]
theorem FU_gt {n : Nat} (h : n < 5000) : n < FU := by unfold FU; omega
theorem c_leastSingle (hd : d.ok) (hL : LC L o) (hC : CS o μ d) (hg : Cg o μ d g) (hb : gb d g) {i : Nat} (hi : i < d.N) : fX0_leastSingle L o (nI i) μ = some (nI (mn (fun a => g (si i a)) d.tp (d.z i)), μ) := by
  have hz := Sp.hz hd hi
  have ht := hd.2.2.2.2.2
  unfold fX0_leastSingle
  rw [ltx_s, hC.2.2.1]
  refine lpC (fun k a => fX0_leastSingle_7 L o k (nI i) (nI (mn (fun a => g (si i a)) d.tp a)) (nI a) μ) _ (d.z i) ?_ ?_ (d.z i) 0 FU (by omega) (FU_gt (by omega))
  · intro k
    simp only [fX0_leastSingle_7]
    unfold fX0_leastSingle_7_b
    rw [c_valuesOf hd hL hC hi, bd_s, if_pos (nI_le (Nat.le_refl _) (by omega))]
  · intro k a ha
    have h1 := hb _ (Sp.Us hi ha)
    have h2 := mn_le (fun a => g (si i a)) d.tp a
    simp only [fX0_leastSingle_7]
    conv => lhs; unfold fX0_leastSingle_7_b
    rw [c_valuesOf hd hL hC hi, bd_s, if_neg (nI_ge ha (by omega)), c_single hd hL hg hi ha, bd_s, ltx_s, ltx_s, nI_1]
    congr 1
    rw [nif]
    congr 1
    simp only [mn]
    simp only [nlt (show g (si i a) < 2 ^ 31 by omega) (show mn (fun a => g (si i a)) d.tp a < 2 ^ 31 by omega)]
end PC
