/-! the reference reads a text -/
def RT (o : Nat) (μ : Mem) (n : Nat) (x : Nat → Nat) : Prop := μ o 0 = nI n ∧ ∀ j, j < n → μ (o + 1) j = nI (x j)
def KR (o : Nat) (μ : Mem) (d : Sp) (g : Nat → Nat) : Prop := μ o 13 = nI d.N ∧ μ o 15 = nI d.T ∧ μ o 18 = nI d.tp ∧ (∀ i, i < d.N → μ (o + 9) i = nI (d.z i)) ∧ (∀ t, t < d.T → μ (o + 10) t = nI (d.lo t)) ∧ (∀ t, t < d.T → μ (o + 11) t = nI (d.hi t)) ∧ (∀ k, k < 24 → μ (o + 12) k = nI (g k)) ∧ μ (o + 12) 168 = nI (g 168) ∧ (∀ t a b, t < d.T → a < d.z (d.lo t) → b < d.z (d.hi t) → μ (o + 12) (pi t a b) = nI (g (pi t a b)))
def FrX (o : Nat) (μ' μ : Mem) : Prop := (∀ x, x ≠ o → x ≠ o + 9 → x ≠ o + 10 → x ≠ o + 11 → x ≠ o + 12 → μ' x = μ x) ∧ ∀ j, j < 13 → μ' o j = μ o j
def FrN (o : Nat) (μ' μ : Mem) : Prop := (∀ x, x ≠ o → μ' x = μ x) ∧ ∀ j, j ≠ 20 → j ≠ 21 → μ' o j = μ o j
def lr (n : Nat) (x : Nat → Nat) (p : Nat) : Int32 := if p < n then nI (x p) else 0
theorem lr_is {n : Nat} {x : Nat → Nat} (hx : ∀ j, j < n → 32 ≤ x j ∧ x j ≤ 126) {p c : Nat} (h0 : 0 < c) (hc : c < 2 ^ 31) : lr n x p = nI c ↔ p < n ∧ x p = c := by
  unfold lr
  by_cases q : p < n
  · rw [if_pos q, nI_eq (by have := hx p q; omega) hc]
    exact ⟨fun h => ⟨q, h⟩, fun h => h.2⟩
  · rw [if_neg q]
    exact ⟨fun h => absurd h.symm (nI_ne0 h0 hc), fun h => absurd h.1 q⟩
theorem r_inN (L : Nat → Nat) {v a b : Nat} (hv : v < 2 ^ 30) (ha : a < 2 ^ 30) (hb : b < 2 ^ 30) (μ : Mem) : fX9_isIn L (nI v) (nI a) (nI b - 1) μ = some ((if a ≤ v ∧ v < b then 1 else 0), μ) := by
  unfold fX9_isIn
  simp only [sub1_lt (nI v) hb, nlt (show v < 2 ^ 31 by omega) (show a < 2 ^ 31 by omega), nle (show b < 2 ^ 31 by omega) (show v < 2 ^ 31 by omega)]
  by_cases q1 : v < a
  · rw [if_pos q1, if_neg (by omega)]
  · rw [if_neg q1]
    by_cases q2 : b ≤ v
    · rw [if_pos q2, if_neg (by omega)]
    · rw [if_neg q2, if_pos (by omega)]
section PRr
variable {L : Nat → Nat} {o : Nat} {μ μ0 : Mem} {n : Nat} {x : Nat → Nat} {d : Sp} {g v : Nat → Nat}
theorem RT.frn {μ' : Mem} (h : RT o μ n x) (hf : FrN o μ' μ) : RT o μ' n x := ⟨by rw [hf.2 0 (by decide) (by decide)]; exact h.1, fun j hj => by rw [hf.1 _ (by omega)]; exact h.2 j hj⟩
theorem RT.frx {μ' : Mem} (h : RT o μ n x) (hf : FrX o μ' μ) : RT o μ' n x := ⟨by rw [hf.2 0 (by decide)]; exact h.1, fun j hj => by rw [hf.1 _ (by omega) (by omega) (by omega) (by omega) (by omega)]; exact h.2 j hj⟩
theorem FrN.trans {μ1 μ2 : Mem} (h1 : FrN o μ1 μ) (h2 : FrN o μ2 μ1) : FrN o μ2 μ := ⟨fun x a => (h2.1 x a).trans (h1.1 x a), fun j a b => (h2.2 j a b).trans (h1.2 j a b)⟩
theorem FrN.frx {μ1 : Mem} (h1 : FrN o μ1 μ) : FrX o μ1 μ := ⟨fun x a _ _ _ _ => h1.1 x a, fun j hj => h1.2 j (by omega) (by omega)⟩
theorem FrX.trans {μ1 μ2 : Mem} (h1 : FrX o μ1 μ) (h2 : FrX o μ2 μ1) : FrX o μ2 μ := ⟨fun x a b c d e => (h2.1 x a b c d e).trans (h1.1 x a b c d e), fun j a => (h2.2 j a).trans (h1.2 j a)⟩
theorem KR.frn {μ' : Mem} (h : KR o μ d g) (hf : FrN o μ' μ) : KR o μ' d g := by
  obtain ⟨a1, a2, a3, a4, a5, a6, a7, a8, a9⟩ := h
  refine ⟨?_, ?_, ?_, ?_, ?_, ?_, ?_, ?_, ?_⟩
  · rw [hf.2 13 (by decide) (by decide)]; exact a1
  · rw [hf.2 15 (by decide) (by decide)]; exact a2
  · rw [hf.2 18 (by decide) (by decide)]; exact a3
  · intro i hi; rw [hf.1 _ (by omega)]; exact a4 i hi
  · intro i hi; rw [hf.1 _ (by omega)]; exact a5 i hi
  · intro i hi; rw [hf.1 _ (by omega)]; exact a6 i hi
  · intro i hi; rw [hf.1 _ (by omega)]; exact a7 i hi
  · rw [hf.1 _ (by omega)]; exact a8
  · intro t a b h1 h2 h3; rw [hf.1 _ (by omega)]; exact a9 t a b h1 h2 h3
theorem q_letterAt (hL : LR L o) (hT : RT o μ n x) (hn : n ≤ 200) {p : Nat} (hp : p < 2 ^ 30) : fX9_letterAt L o (nI p) μ = some (lr n x p, μ) := by
  have h1 := hL.1
  unfold fX9_letterAt lr
  rw [hT.1]
  by_cases q : p < n
  · rw [if_neg (nI_ge q (by omega)), ald_s (by omega) (by omega), hT.2 p q, if_pos q]
  · rw [if_pos (nI_le (by omega) (by omega)), if_neg q]
theorem q_num65 {p a b e w : Nat} (hp : p < 2 ^ 30) (he : e < 2 ^ 30) (ha : a < 2 ^ 30) (hb : b < 2 ^ 30) (hw : w < 2 ^ 30) (h20 : μ o 20 = nI w) : fX9_number_65 L o (nI p) (nI a) (nI b - 1) (nI e) μ = some ((if p < e ∧ a ≤ w ∧ w < b then 1 else 0), up μ o 21 (nI e)) := by
  unfold fX9_number_65
  rw [pu_s, up_an (by decide), h20, r_inN L hw ha hb, bd_s]
  by_cases q : p < e
  · rw [if_neg (nI_ge q (by omega))]
    by_cases q2 : a ≤ w ∧ w < b
    · rw [if_pos q2, if_neg (by decide), if_pos ⟨q, q2⟩]
    · rw [if_neg q2, if_pos rfl, if_neg (fun z => q2 z.2)]
  · rw [if_pos (nI_le (by omega) (by omega)), if_neg (fun z => q z.1)]
theorem q_dig {X : Type} (hL : LR L o) (hT : RT o μ n x) (hn : n ≤ 200) (hx : ∀ j, j < n → 32 ≤ x j ∧ x j ≤ 126) {p : Nat} (hp : p < 2 ^ 30) (A B : Mem → Option X) : bd (fX9_letterAt L o (nI p) μ) (fun b5 μ4 => (if b5 < (48 : Int32) then A μ4 else bd (fX9_letterAt L o (nI p) μ4) (fun b7 μ6 => (if (57 : Int32) < b7 then A μ6 else B μ6)))) = if dgt n x p then B μ else A μ := by
  rw [q_letterAt hL hT hn hp, bd_s, q_letterAt hL hT hn hp, bd_s]
  unfold lr
  by_cases q : p < n
  · have h1 := hx p q
    rw [if_pos q]
    by_cases q1 : x p < 48
    · rw [if_pos (show nI (x p) < (48 : Int32) from nI_lt (b := 48) q1 (by decide)), if_neg (by omega)]
    · rw [if_neg (show ¬ nI (x p) < (48 : Int32) from nI_nlt (b := 48) (by omega) (by omega))]
      by_cases q2 : 57 < x p
      · rw [if_pos (show (57 : Int32) < nI (x p) from nI_lt (a := 57) q2 (by omega)), if_neg (by omega)]
      · rw [if_neg (show ¬ (57 : Int32) < nI (x p) from nI_nlt (a := 57) (by omega) (by decide)), if_pos (by omega)]
  · rw [if_neg q, if_pos (by decide), if_neg (by omega)]
theorem q_num8 (hL : LR L o) (hT : RT o μ n x) (hn : n ≤ 200) (hx : ∀ j, j < n → 32 ≤ x j ∧ x j ≤ 126) {p e : Nat} (hp : p < 2 ^ 20) (he : e < 2 ^ 20) (v2 v3 : Int32) (k : Nat) {w : Nat} (h20 : μ o 20 = nI w) : fX9_number_8 L o (k + 1) (nI p) v2 v3 (nI e) μ = if dgt n x e then (if p + 2 ≤ e then fX9_number_65 L o (nI p) v2 v3 (nI e) μ else fX9_number_8 L o k (nI p) v2 v3 (nI (e + 1)) (up μ o 20 (nI (10 * w + (x e - 48))))) else fX9_number_65 L o (nI p) v2 v3 (nI e) μ := by
  conv => lhs; simp only [fX9_number_8]
  unfold fX9_number_8_b
  rw [q_dig hL hT hn hx (by omega)]
  by_cases q : dgt n x e
  · rw [if_pos q, if_pos q, show (2 : Int32) = nI 2 from rfl, nI_add]
    by_cases q2 : p + 2 ≤ e
    · rw [if_pos (nI_le q2 (by omega)), if_pos q2]
    · rw [if_neg (nI_ge (by omega) (by omega)), if_neg q2, q_letterAt hL hT hn (by omega), bd_s, pu_s, h20, ltx_s, nI_1, show lr n x e = nI (x e) from if_pos q.1, show (10 : Int32) = nI 10 from rfl, pk_mul, nI_add, show (48 : Int32) = nI 48 from rfl, pk_sub (by omega)]
      rw [show 10 * w + x e - 48 = 10 * w + (x e - 48) by omega]
  · rw [if_neg q, if_neg q]
theorem q_number (hL : LR L o) (hT : RT o μ n x) (hn : n ≤ 200) (hx : ∀ j, j < n → 32 ≤ x j ∧ x j ≤ 126) {p a b : Nat} (hp : p ≤ 1000) (ha : a ≤ 1000) (hb : b ≤ 1000) : ∃ μ', fX9_number L o (nI p) (nI a) (nI b - 1) μ = some ((if p < nx n x p ∧ a ≤ nvl n x p ∧ nvl n x p < b then 1 else 0), μ') ∧ FrN o μ' μ ∧ μ' o 20 = nI (nvl n x p) ∧ μ' o 21 = nI (nx n x p) := by
  unfold fX9_number
  rw [pu_s]
  have hF0 : FrN o (up μ o 20 0) μ := ⟨fun x q => up_ne q, fun j q1 q2 => up_an q1⟩
  obtain ⟨k, hk⟩ : ∃ k, FU = k + 1 + 1 + 1 := ⟨99997, rfl⟩
  rw [hk, q_num8 (w := 0) hL (hT.frn hF0) hn hx (by omega) (by omega) _ _ _ (up_aa _ _ _ _), if_neg (show ¬ p + 2 ≤ p by omega)]
  by_cases q1 : dgt n x p
  · have hF1 : FrN o (up (up μ o 20 0) o 20 (nI (10 * 0 + (x p - 48)))) μ := FrN.trans hF0 ⟨fun x q => up_ne q, fun j q1 q2 => up_an q1⟩
    rw [if_pos q1, q_num8 (w := 10 * 0 + (x p - 48)) hL (hT.frn hF1) hn hx (by omega) (by omega) _ _ _ (up_aa _ _ _ _), if_neg (show ¬ p + 2 ≤ p + 1 by omega)]
    by_cases q2 : dgt n x (p + 1)
    · have e1 : nx n x p = p + 2 := by unfold nx; rw [if_pos q1, if_pos q2]
      have e2 : nvl n x p = 10 * (10 * 0 + (x p - 48)) + (x (p + 1) - 48) := by unfold nvl; rw [if_pos q1, if_pos q2]; omega
      have hF2 : FrN o (up (up (up μ o 20 0) o 20 (nI (10 * 0 + (x p - 48)))) o 20 (nI (10 * (10 * 0 + (x p - 48)) + (x (p + 1) - 48)))) μ := FrN.trans hF1 ⟨fun x q => up_ne q, fun j q1 q2 => up_an q1⟩
      rw [if_pos q2, q_num8 (w := 10 * (10 * 0 + (x p - 48)) + (x (p + 1) - 48)) hL (hT.frn hF2) hn hx (by omega) (by omega) _ _ _ (up_aa _ _ _ _), if_pos (show p + 2 ≤ p + 1 + 1 by omega), ite_self, q_num65 (by omega) (by omega) (by omega) (by omega) (show 10 * (10 * 0 + (x p - 48)) + (x (p + 1) - 48) < 2 ^ 30 by omega) (up_aa _ _ _ _), e1, e2]
      exact ⟨_, rfl, FrN.trans hF2 ⟨fun x q => up_ne q, fun j q1 q2 => up_an q2⟩, by rw [up_an (by decide), up_aa], up_aa _ _ _ _⟩
    · have e1 : nx n x p = p + 1 := by unfold nx; rw [if_pos q1, if_neg q2]
      have e2 : nvl n x p = 10 * 0 + (x p - 48) := by unfold nvl; rw [if_pos q1, if_neg q2]; omega
      rw [if_neg q2, q_num65 (by omega) (by omega) (by omega) (by omega) (show 10 * 0 + (x p - 48) < 2 ^ 30 by omega) (up_aa _ _ _ _), e1, e2]
      exact ⟨_, rfl, FrN.trans hF1 ⟨fun x q => up_ne q, fun j q1 q2 => up_an q2⟩, by rw [up_an (by decide), up_aa], up_aa _ _ _ _⟩
  · have e1 : nx n x p = p := by unfold nx; rw [if_neg q1]
    have e2 : nvl n x p = 0 := by unfold nvl; rw [if_neg q1]
    rw [if_neg q1, q_num65 (w := 0) (μ := up μ o 20 0) (by omega) (by omega) (by omega) (by omega) (by omega) (show up μ o 20 0 o 20 = nI 0 from up_aa _ _ _ _), e1, e2]
    exact ⟨_, rfl, FrN.trans hF0 ⟨fun x q => up_ne q, fun j q1 q2 => up_an q2⟩, by rw [up_an (by decide), up_aa]; rfl, up_aa _ _ _ _⟩
theorem q_more (hL : LR L o) (hT : RT o μ n x) (hn : n ≤ 200) (hx : ∀ j, j < n → 32 ≤ x j ∧ x j ≤ 126) {s k a b : Nat} (hs : qs n x s (k + 1) ≤ 1000) (ha : a ≤ 1000) (hb : b ≤ 1000) (h21 : μ o 21 = nI (nx n x (qs n x s k))) :
    ∃ μ', FrN o μ' μ ∧ ((fX9_more L o (nI a) (nI b - 1) μ = some (1, μ') ∧ ((nx n x (qs n x s k) < n ∧ x (nx n x (qs n x s k)) = 44) ∧ qs n x s (k + 1) < nx n x (qs n x s (k + 1)) ∧ a ≤ vs n x s (k + 1) ∧ vs n x s (k + 1) < b) ∧ μ' o 20 = nI (vs n x s (k + 1)) ∧ μ' o 21 = nI (nx n x (qs n x s (k + 1)))) ∨ (fX9_more L o (nI a) (nI b - 1) μ = some (0, μ') ∧ ¬ ((nx n x (qs n x s k) < n ∧ x (nx n x (qs n x s k)) = 44) ∧ qs n x s (k + 1) < nx n x (qs n x s (k + 1)) ∧ a ≤ vs n x s (k + 1) ∧ vs n x s (k + 1) < b))) := by
  have hq : qs n x s (k + 1) = nx n x (qs n x s k) + 1 := rfl
  unfold fX9_more
  rw [h21, q_letterAt hL hT hn (by omega), bd_s]
  by_cases q : nx n x (qs n x s k) < n ∧ x (nx n x (qs n x s k)) = 44
  · have e44 : lr n x (nx n x (qs n x s k)) = (44 : Int32) := (lr_is (c := 44) hx (by decide) (by decide)).mpr q
    obtain ⟨μ', n1, n2, n3, n4⟩ := q_number hL hT hn hx (p := qs n x s (k + 1)) hs ha hb
    rw [if_pos e44, h21, nI_1, ← hq, n1, bd_s]
    by_cases q2 : qs n x s (k + 1) < nx n x (qs n x s (k + 1)) ∧ a ≤ nvl n x (qs n x s (k + 1)) ∧ nvl n x (qs n x s (k + 1)) < b
    · rw [if_pos q2, if_neg (by decide)]
      exact ⟨μ', n2, Or.inl ⟨rfl, ⟨q, q2⟩, n3, n4⟩⟩
    · rw [if_neg q2, if_pos rfl]
      exact ⟨μ', n2, Or.inr ⟨rfl, fun z => q2 z.2⟩⟩
  · have e44 : ¬ lr n x (nx n x (qs n x s k)) = (44 : Int32) := fun z => q ((lr_is (c := 44) hx (by decide) (by decide)).mp z)
    rw [if_neg e44]
    exact ⟨μ, ⟨fun _ _ => rfl, fun _ _ _ => rfl⟩, Or.inr ⟨rfl, fun z => q z.1⟩⟩
/-- what an item needs, but for its end -/
abbrev Nd (n : Nat) (x : Nat → Nat) (d : Sp) (c s : Nat) : Prop := (∀ k, k < mk c → qs n x s k < nx n x (qs n x s k)) ∧ (∀ k, k + 1 < mk c → nx n x (qs n x s k) < n ∧ x (nx n x (qs n x s k)) = 44) ∧ Gd c d (vs n x s)
def Res (o : Nat) (μ : Mem) (n : Nat) (x : Nat → Nat) (d : Sp) (g : Nat → Nat) (c s : Nat) (z : Option (Int32 × Mem)) : Prop := ∃ μ', FrX o μ' μ ∧ ((z = some (1, μ') ∧ Nd n x d c s ∧ KR o μ' (dN c d (vs n x s)) (gN c d g (vs n x s)) ∧ μ' o 21 = nI (nx n x (qs n x s (mk c - 1)))) ∨ (z = some (0, μ') ∧ ¬ Nd n x d c s))
theorem Res.no {c s : Nat} {μ' : Mem} {z : Option (Int32 × Mem)} (hf : FrX o μ' μ) (e : z = some (0, μ')) (h : ¬ Nd n x d c s) : Res o μ n x d g c s z := ⟨μ', hf, Or.inr ⟨e, h⟩⟩
theorem q_readsName (hP : PS d g) (hL : LR L o) (hT : RT o μ n x) (hn : n ≤ 200) (hx : ∀ j, j < n → 32 ≤ x j ∧ x j ≤ 126) (hK : KR o μ d g) {s : Nat} (hs : s ≤ 300) : Res o μ n x d g 118 s (fX9_readsName L o (nI s) μ) := by
  have h9 := hL.2.2.2.2.2.2.2.2.1
  have hN := hP.1.1
  unfold fX9_readsName
  rw [hK.1]
  by_cases q1 : d.N = 6
  · rw [q1, if_pos (by decide)]
    exact Res.no ⟨fun _ _ _ _ _ _ => rfl, fun _ _ => rfl⟩ rfl (fun z => by have := (Gd_v.mp z.2.2).1; omega)
  · rw [if_neg (show ¬ nI d.N = (6 : Int32) from fun e => nNe (b := 6) q1 (by omega) (by decide) e)]
    obtain ⟨μ1, n1, n2, n3, n4⟩ := q_number hL hT hn hx (p := s) (a := 2) (b := 5) (by omega) (by omega) (by omega)
    have n1' : fX9_number L o (nI s) (2 : Int32) (4 : Int32) μ = _ := n1
    rw [n1', bd_s]
    have hK1 := hK.frn n2
    by_cases q2 : s < nx n x s ∧ 2 ≤ nvl n x s ∧ nvl n x s < 5
    · rw [if_pos q2, if_neg (by decide), hK1.1, n3, ast_s (by omega) (by omega), pu_s, up_ne (show o ≠ o + 9 by omega), hK1.1, nI_1]
      refine ⟨_, ?_, Or.inl ⟨rfl, ⟨fun k hk => ?_, fun k hk => ?_, Gd_v.mpr ⟨by omega, q2.2.1, by show nvl n x s ≤ 4; omega⟩⟩, ?_, ?_⟩⟩
      · exact ⟨fun x a b _ _ _ => by rw [up_ne a, up_ne b]; exact n2.1 x a, fun j hj => by rw [up_an (by omega), up_ne (by omega)]; exact n2.2 j (by omega) (by omega)⟩
      · have hk : k < 1 := hk
        have : k = 0 := by omega
        subst this
        exact q2.1
      · have hk : k + 1 < 1 := hk
        omega
      · rw [dN_v, gN_v]
        obtain ⟨a1, a2, a3, a4, a5, a6, a7, a8, a9⟩ := hK1
        have hz0 : ∀ t, t < d.T → d.lo t ≠ d.N ∧ d.hi t ≠ d.N := fun t ht => by have := Sp.hl hP.1 ht; omega
        refine ⟨?_, ?_, ?_, ?_, ?_, ?_, ?_, ?_, ?_⟩
        · rw [up_aa]; rfl
        · rw [up_an (by decide), up_ne (by omega)]; exact a2
        · rw [up_an (by decide), up_ne (by omega)]; exact a3
        · intro i hi
          have hi : i < d.N + 1 := hi
          rw [up_ne (by omega)]
          show _ = nI (gu d.z d.N (vs n x s 0) i)
          by_cases z : i = d.N
          · rw [z, up_aa, gu_at]; rfl
          · rw [up_an z, gu_ne z]; exact a4 i (by omega)
        · intro i hi; rw [up_ne (by omega), up_ne (by omega)]; exact a5 i hi
        · intro i hi; rw [up_ne (by omega), up_ne (by omega)]; exact a6 i hi
        · intro i hi; rw [up_ne (by omega), up_ne (by omega)]; exact a7 i hi
        · rw [up_ne (by omega), up_ne (by omega)]; exact a8
        · intro t a b h1 h2 h3
          have h1 : t < d.T := h1
          have h2 : a < gu d.z d.N (vs n x s 0) (d.lo t) := h2
          have h3 : b < gu d.z d.N (vs n x s 0) (d.hi t) := h3
          rw [gu_ne (hz0 t h1).1] at h2
          rw [gu_ne (hz0 t h1).2] at h3
          rw [up_ne (by omega), up_ne (by omega)]
          exact a9 t a b h1 h2 h3
      · rw [up_an (by decide), up_ne (by omega)]; exact n4
    · rw [if_neg q2, if_pos rfl]
      refine Res.no n2.frx rfl (fun z => q2 ⟨z.1 0 (by decide), ?_⟩)
      have := Gd_v.mp z.2.2
      have e : vs n x s 0 = nvl n x s := rfl
      omega
theorem q_readsTop (hP : PS d g) (hL : LR L o) (hT : RT o μ n x) (hn : n ≤ 200) (hx : ∀ j, j < n → 32 ≤ x j ∧ x j ≤ 126) (hK : KR o μ d g) {s : Nat} (hs : s ≤ 300) : Res o μ n x d g 116 s (bd (fX9_number L o (nI s) (1 : Int32) (99 : Int32) μ) (fun b6 μ5 => pu μ5 o 18 (μ5 o 20) (fun μ7 => zr b6 μ7))) := by
  obtain ⟨μ1, n1, n2, n3, n4⟩ := q_number hL hT hn hx (p := s) (a := 1) (b := 100) (by omega) (by omega) (by omega)
  have n1' : fX9_number L o (nI s) (1 : Int32) (99 : Int32) μ = _ := n1
  rw [n1', bd_s, pu_s, n3]
  have hK1 := hK.frn n2
  have hF : FrX o (up μ1 o 18 (nI (nvl n x s))) μ := FrX.trans n2.frx ⟨fun x a _ _ _ _ => up_ne a, fun j hj => up_an (by omega)⟩
  have hv := nvl_le n x s
  by_cases q2 : s < nx n x s ∧ 1 ≤ nvl n x s ∧ nvl n x s < 100
  · rw [if_pos q2]
    refine ⟨_, hF, Or.inl ⟨rfl, ⟨fun k hk => ?_, fun k hk => ?_, Gd_t.mpr q2.2.1⟩, ?_, ?_⟩⟩
    · have hk : k < 1 := hk
      have : k = 0 := by omega
      subst this
      exact q2.1
    · have hk : k + 1 < 1 := hk
      omega
    · rw [dN_t, gN_t]
      obtain ⟨a1, a2, a3, a4, a5, a6, a7, a8, a9⟩ := hK1
      refine ⟨?_, ?_, ?_, ?_, ?_, ?_, ?_, ?_, ?_⟩
      · rw [up_an (by decide)]; exact a1
      · rw [up_an (by decide)]; exact a2
      · rw [up_aa]; rfl
      · intro i hi; rw [up_ne (by omega)]; exact a4 i hi
      · intro i hi; rw [up_ne (by omega)]; exact a5 i hi
      · intro i hi; rw [up_ne (by omega)]; exact a6 i hi
      · intro i hi; rw [up_ne (by omega)]; exact a7 i hi
      · rw [up_ne (by omega)]; exact a8
      · intro t a b h1 h2 h3; rw [up_ne (by omega)]; exact a9 t a b h1 h2 h3
    · rw [up_an (by decide)]; exact n4
  · rw [if_neg q2]
    refine Res.no hF rfl (fun z => q2 ⟨z.1 0 (by decide), ?_⟩)
    have h1 := Gd_t.mp z.2.2
    have e : vs n x s 0 = nvl n x s := rfl
    omega
end PRr
