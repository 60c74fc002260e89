/-! guards: what an argument may be -/
theorem sub1_lt (x : Int32) {n : Nat} (hn : n < 2 ^ 30) : nI n - 1 < x ↔ nI n ≤ x := by
  rw [n1, Int32.lt_iff_toInt_lt, Int32.le_iff_toInt_le, pk_sub_toInt hn (by decide), nI_toInt (by omega)]
  omega
def Ix (x : Int32) (n : Nat) : Prop := ∃ j, j < n ∧ x = nI j
theorem gd_y {X : Type} {A A' B : X} {j n : Nat} (h : j < n) (hn : n < 2 ^ 31) : (if nI j < 0 then A else if nI n ≤ nI j then A' else B) = B := by
  rw [if_neg (nI_pos (by omega)), if_neg (nI_ge h hn)]
theorem gd_n {X : Type} {A B : X} {x : Int32} {n : Nat} (hn : n < 2 ^ 31) (h : ¬ Ix x n) : (if x < 0 then A else if nI n ≤ x then A else B) = A := by
  rcases pk_ix x hn with q | q | q
  · rw [if_pos q]
  · split
    · rfl
    · rfl
  · exact absurd q h
theorem r_inE (L : Nat → Nat) (x : Int32) {n : Nat} (hn : n < 2 ^ 30) (μ : Mem) : fX9_isIn L x 0 (nI n - 1) μ = (if x < 0 then some (0, μ) else if nI n ≤ x then some (0, μ) else some (1, μ)) := by
  unfold fX9_isIn
  simp only [sub1_lt x hn]
theorem r_in_y (L : Nat → Nat) {j n : Nat} (h : j < n) (hn : n < 2 ^ 30) (μ : Mem) : fX9_isIn L (nI j) 0 (nI n - 1) μ = some (1, μ) := by
  rw [r_inE L _ hn, gd_y h (by omega)]
theorem r_in_n (L : Nat → Nat) {x : Int32} {n : Nat} (h : ¬ Ix x n) (hn : n < 2 ^ 30) (μ : Mem) : fX9_isIn L x 0 (nI n - 1) μ = some (0, μ) := by
  rw [r_inE L _ hn, gd_n (by omega) h]
/-- an argument from a to b -/
theorem isIn_c (x : Int32) {a b : Nat} (ha : a < 2 ^ 31) (hb : b < 2 ^ 31) : (∀ L μ, fX9_isIn L x (nI a) (nI b) μ = some (0, μ)) ∨ ∃ k, a ≤ k ∧ k ≤ b ∧ x = nI k ∧ ∀ L μ, fX9_isIn L x (nI a) (nI b) μ = some (1, μ) := by
  by_cases h1 : x < nI a
  · left
    intro L μ
    unfold fX9_isIn
    rw [if_pos h1]
  · by_cases h2 : nI b < x
    · left
      intro L μ
      unfold fX9_isIn
      rw [if_neg h1, if_pos h2]
    · right
      have e1 := (not_congr Int32.lt_iff_toInt_lt).mp h1
      have e2 := (not_congr Int32.lt_iff_toInt_lt).mp h2
      rw [nI_toInt ha] at e1
      rw [nI_toInt hb] at e2
      have h0 : ¬ x < 0 := fun q => by
        have := Int32.lt_iff_toInt_lt.mp q
        have e0 : (0 : Int32).toInt = 0 := rfl
        omega
      obtain ⟨k, hk, rfl⟩ := nI_of h0
      rw [nI_toInt hk] at e1 e2
      refine ⟨k, by omega, by omega, rfl, fun L μ => ?_⟩
      unfold fX9_isIn
      rw [if_neg h1, if_neg h2]
/-- values of names, values on a side, pairs -/
def Vx (d : Sp) (x y : Int32) : Prop := ∃ i a, i < d.N ∧ a < d.z i ∧ x = nI i ∧ y = nI a
def Ox (d : Sp) (x y w : Int32) : Prop := ∃ t s a, t < d.T ∧ s < 2 ∧ a < d.z (d.nm s t) ∧ x = nI t ∧ y = nI s ∧ w = nI a
def Px (d : Sp) (x y w : Int32) : Prop := ∃ t a b, t < d.T ∧ a < d.z (d.lo t) ∧ b < d.z (d.hi t) ∧ x = nI t ∧ y = nI a ∧ w = nI b
theorem Vx_n {d : Sp} {x y : Int32} (h : ¬ Vx d x y) : ¬ Ix x d.N ∨ ∃ i, i < d.N ∧ x = nI i ∧ ¬ Ix y (d.z i) := by
  by_cases h1 : Ix x d.N
  · obtain ⟨i, hi, rfl⟩ := h1
    exact Or.inr ⟨i, hi, rfl, fun ⟨a, ha, e⟩ => h ⟨i, a, hi, ha, rfl, e⟩⟩
  · exact Or.inl h1
section PG
variable {L : Nat → Nat} {o : Nat} {μ : Mem} {d : Sp} {g : Nat → Nat}
theorem c_hasName_y (hd : d.ok) (hC : CS o μ d) {i : Nat} (hi : i < d.N) : fX0_hasName L o (nI i) μ = some (1, μ) := by
  have hN := hd.1
  unfold fX0_hasName
  rw [hC.1, gd_y hi (by omega)]
theorem c_hasName_n (hd : d.ok) (hC : CS o μ d) {x : Int32} (hx : ¬ Ix x d.N) : fX0_hasName L o x μ = some (0, μ) := by
  have hN := hd.1
  unfold fX0_hasName
  rw [hC.1, gd_n (by omega) hx]
theorem c_hasTable_y (hd : d.ok) (hC : CS o μ d) {i : Nat} (hi : i < d.T) : fX0_hasTable L o (nI i) μ = some (1, μ) := by
  have hN := hd.2.2.1
  unfold fX0_hasTable
  rw [hC.2.1, gd_y hi (by omega)]
theorem c_hasTable_n (hd : d.ok) (hC : CS o μ d) {x : Int32} (hx : ¬ Ix x d.T) : fX0_hasTable L o x μ = some (0, μ) := by
  have hN := hd.2.2.1
  unfold fX0_hasTable
  rw [hC.2.1, gd_n (by omega) hx]
theorem c_getz (hd : d.ok) (hL : LC L o) (hC : CS o μ d) {i : Nat} (hi : i < d.N) : fX3_get L (o + 1) (nI i) μ = some (nI (d.z i), μ) := by
  have h := c_valuesOf hd hL hC hi
  have hN := hd.1
  rw [rget hL.1 (by omega) (by decide), hC.2.2.2.1 i hi]
theorem c_hasValue_y (hd : d.ok) (hL : LC L o) (hC : CS o μ d) {i a : Nat} (hi : i < d.N) (ha : a < d.z i) : fX0_hasValue L o (nI i) (nI a) μ = some (1, μ) := by
  have hN := hd.1
  have hz := Sp.hz hd hi
  unfold fX0_hasValue
  rw [hC.1, gd_y hi (by omega), if_neg (nI_pos (by omega)), c_getz hd hL hC hi, bd_s, if_neg (nI_ge ha (by omega))]
theorem c_hasValue_n (hd : d.ok) (hL : LC L o) (hC : CS o μ d) {x y : Int32} (h : ¬ Vx d x y) : fX0_hasValue L o x y μ = some (0, μ) := by
  have hN := hd.1
  unfold fX0_hasValue
  rw [hC.1]
  rcases Vx_n h with q | ⟨i, hi, rfl, q⟩
  · rw [gd_n (by omega) q]
  · have hz := Sp.hz hd hi
    rw [gd_y hi (by omega), c_getz hd hL hC hi, bd_s, gd_n (by omega) q]
theorem c_hasPair_y (hd : d.ok) (hL : LC L o) (hC : CS o μ d) {t a b : Nat} (ht : t < d.T) (ha : a < d.z (d.lo t)) (hb : b < d.z (d.hi t)) : fX0_hasPair L o (nI t) (nI a) (nI b) μ = some (1, μ) := by
  have hl := Sp.hl hd ht
  have hz := Sp.hz hd hl.1
  have hz2 := Sp.hz hd hl.2.1
  unfold fX0_hasPair
  rw [c_hasTable_y hd hC ht, bd_s, if_neg (by decide), if_neg (nI_pos (by omega)), c_valuesOn0 hd hL hC ht, bd_s, if_neg (nI_ge ha (by omega)), if_neg (nI_pos (by omega)), c_valuesOn1 hd hL hC ht, bd_s, if_neg (nI_ge hb (by omega))]
theorem c_hasPair_n (hd : d.ok) (hL : LC L o) (hC : CS o μ d) {x y w : Int32} (h : ¬ Px d x y w) : fX0_hasPair L o x y w μ = some (0, μ) := by
  unfold fX0_hasPair
  by_cases h1 : Ix x d.T
  · obtain ⟨t, ht, rfl⟩ := h1
    have hl := Sp.hl hd ht
    have hz := Sp.hz hd hl.1
    have hz2 := Sp.hz hd hl.2.1
    rw [c_hasTable_y hd hC ht, bd_s, if_neg (by decide), c_valuesOn0 hd hL hC ht, bd_s, c_valuesOn1 hd hL hC ht, bd_s]
    by_cases h2 : Ix y (d.z (d.lo t))
    · obtain ⟨a, ha, rfl⟩ := h2
      rw [gd_y ha (by omega), gd_n (by omega) (fun ⟨b, hb, e⟩ => h ⟨t, a, b, ht, ha, hb, rfl, rfl, e⟩)]
    · rw [gd_n (by omega) h2]
  · rw [c_hasTable_n hd hC h1, bd_s, if_pos rfl]
theorem c_hasOn_y (hd : d.ok) (hL : LC L o) (hC : CS o μ d) {t s a : Nat} (ht : t < d.T) (hs : s < 2) (ha : a < d.z (d.nm s t)) : fX0_hasValueOn L o (nI t) (nI s) (nI a) μ = some (1, μ) := by
  have hz := Sp.hz hd (Sp.nm_lt hd (s := s) ht)
  unfold fX0_hasValueOn fX0_hasValueOn_17
  rw [c_hasTable_y hd hC ht, bd_s, if_neg (by decide), c_valuesOn hd hL hC hs ht, bd_s, if_neg (nI_pos (by omega)), if_neg (nI_ge ha (by omega))]
  rcases (show s = 0 ∨ s = 1 by omega) with rfl | rfl
  · rw [if_pos (by decide)]
  · rw [if_neg (by decide), if_pos (by decide)]
theorem c_hasOn_n (hd : d.ok) (hL : LC L o) (hC : CS o μ d) {x y w : Int32} (h : ¬ Ox d x y w) : fX0_hasValueOn L o x y w μ = some (0, μ) := by
  unfold fX0_hasValueOn fX0_hasValueOn_17
  by_cases h1 : Ix x d.T
  · obtain ⟨t, ht, rfl⟩ := h1
    rw [c_hasTable_y hd hC ht, bd_s, if_neg (by decide)]
    by_cases hy : ∃ s, s < 2 ∧ y = nI s
    · obtain ⟨s, hs, rfl⟩ := hy
      have hz := Sp.hz hd (Sp.nm_lt hd (s := s) ht)
      rw [c_valuesOn hd hL hC hs ht, bd_s, gd_n (by omega) (fun ⟨a, ha, e⟩ => h ⟨t, s, a, ht, hs, ha, rfl, rfl, e⟩)]
      split
      · rfl
      · split <;> rfl
    · rw [if_neg (show ¬ y = (0 : Int32) from fun q => hy ⟨0, by omega, q⟩), if_neg (show ¬ y = (1 : Int32) from fun q => hy ⟨1, by omega, q⟩)]
  · rw [c_hasTable_n hd hC h1, bd_s, if_pos rfl]
/-! the reference's -/
theorem q_isName_y (hd : d.ok) (hC : RS o μ d) {i : Nat} (hi : i < d.N) : fX9_isName L o (nI i) μ = some (1, μ) := by
  have hN := hd.1
  unfold fX9_isName
  rw [hC.1, r_in_y L hi (by omega), bd_s]
  rfl
theorem q_isName_n (hd : d.ok) (hC : RS o μ d) {x : Int32} (hx : ¬ Ix x d.N) : fX9_isName L o x μ = some (0, μ) := by
  have hN := hd.1
  unfold fX9_isName
  rw [hC.1, r_in_n L hx (by omega), bd_s]
  rfl
theorem q_isTable_y (hd : d.ok) (hC : RS o μ d) {i : Nat} (hi : i < d.T) : fX9_isTable L o (nI i) μ = some (1, μ) := by
  have hN := hd.2.2.1
  unfold fX9_isTable
  rw [hC.2.1, r_in_y L hi (by omega), bd_s]
  rfl
theorem q_isTable_n (hd : d.ok) (hC : RS o μ d) {x : Int32} (hx : ¬ Ix x d.T) : fX9_isTable L o x μ = some (0, μ) := by
  have hN := hd.2.2.1
  unfold fX9_isTable
  rw [hC.2.1, r_in_n L hx (by omega), bd_s]
  rfl
theorem q_isValue_y (hd : d.ok) (hL : LR L o) (hC : RS o μ d) {i a : Nat} (hi : i < d.N) (ha : a < d.z i) : fX9_isValue L o (nI i) (nI a) μ = some (1, μ) := by
  have hz := Sp.hz hd hi
  unfold fX9_isValue
  rw [q_isName_y hd hC hi, bd_s, if_neg (by decide), q_many hd hL hC hi, r_in_y L ha (by omega), bd_s, if_neg (by decide)]
theorem q_isValue_n (hd : d.ok) (hL : LR L o) (hC : RS o μ d) {x y : Int32} (h : ¬ Vx d x y) : fX9_isValue L o x y μ = some (0, μ) := by
  unfold fX9_isValue
  rcases Vx_n h with q | ⟨i, hi, rfl, q⟩
  · rw [q_isName_n hd hC q, bd_s, if_pos rfl]
  · have hz := Sp.hz hd hi
    rw [q_isName_y hd hC hi, bd_s, if_neg (by decide), q_many hd hL hC hi, r_in_n L q (by omega), bd_s, if_pos rfl]
theorem q_isMoved_n (hd : d.ok) (hL : LR L o) (hC : RS o μ d) {x y w v : Int32} (h : ¬ Ox d x y w ∨ ∀ L μ, fX9_isIn L v 1 99 μ = some (0, μ)) : fX9_isMoved L o x y w v μ = some (0, μ) := by
  unfold fX9_isMoved
  by_cases h1 : Ix x d.T
  · obtain ⟨t, ht, rfl⟩ := h1
    rw [q_isTable_y hd hC ht, bd_s, if_neg (by decide)]
    rcases isIn_c y (a := 0) (b := 1) (by decide) (by decide) with q | ⟨s, _, hs, rfl, q⟩
    · rw [show fX9_isIn L y 0 1 μ = _ from q L μ, bd_s, if_pos rfl]
    · rw [show fX9_isIn L (nI s) 0 1 μ = _ from q L μ, bd_s, if_neg (by decide), q_nameOf hd hL hC (by omega) ht, bd_s]
      by_cases hv : Vx d (nI (d.nm s t)) w
      · rcases h with h | h
        · exfalso
          obtain ⟨i, a, hi, ha, e1, e2⟩ := hv
          have hN := hd.1
          have := Sp.nm_lt hd (s := s) ht
          have e3 := (nI_eq (by omega) (by omega)).mp e1
          exact h ⟨t, s, a, ht, by omega, by rw [e3]; exact ha, rfl, rfl, e2⟩
        · obtain ⟨i, a, hi, ha, e1, rfl⟩ := hv
          have hN := hd.1
          have := Sp.nm_lt hd (s := s) ht
          have e3 := (nI_eq (by omega) (by omega)).mp e1
          rw [q_isValue_y hd hL hC this (by rw [e3]; exact ha), bd_s, if_neg (by decide), h, bd_s, if_pos rfl]
      · rw [q_isValue_n hd hL hC hv, bd_s, if_pos rfl]
  · rw [q_isTable_n hd hC h1, bd_s, if_pos rfl]
theorem q_isMoved_y (hd : d.ok) (hL : LR L o) (hC : RS o μ d) {t s a : Nat} {v : Int32} (ht : t < d.T) (hs : s < 2) (ha : a < d.z (d.nm s t)) (hv : ∀ L μ, fX9_isIn L v 1 99 μ = some (1, μ)) : fX9_isMoved L o (nI t) (nI s) (nI a) v μ = some (1, μ) := by
  unfold fX9_isMoved
  rw [q_isTable_y hd hC ht, bd_s, if_neg (by decide), show fX9_isIn L (nI s) 0 1 μ = some (1, μ) from r_in_y L (n := 2) hs (by decide) μ, bd_s, if_neg (by decide), q_nameOf hd hL hC hs ht, bd_s, q_isValue_y hd hL hC (Sp.nm_lt hd ht) ha, bd_s, if_neg (by decide), hv, bd_s, if_neg (by decide)]
/-! what is asked of names and tables -/
def bi (p : Nat → Bool) : Nat → Int32
  | 0 => 0
  | n + 1 => if p n then bi p n ||| ((1 : Int32) <<< (nI n &&& 31)) else bi p n
def ct (p : Nat → Bool) : Nat → Nat
  | 0 => 0
  | n + 1 => if p n then ct p n + 1 else ct p n
def onT (d : Sp) (i t : Nat) : Bool := decide (d.lo t = i) || decide (d.hi t = i)
def shB (d : Sp) (g : Nat → Nat) (i a : Nat) : Bool := decide (sm d.tp (g 168) (g (si i a)) = d.tp)
theorem c_tablesOf (hd : d.ok) (hL : LC L o) (hC : CS o μ d) {i : Nat} (hi : i < d.N) : fX0_tablesOf L o (nI i) μ = some (bi (onT d i) d.T, μ) := by
  have hN := hd.1
  have hT := hd.2.2.1
  unfold fX0_tablesOf
  have key := lpC (fun k t => fX0_tablesOf_4 L o k (nI i) (bi (onT d i) t) (nI t) μ) (some (bi (onT d i) d.T, μ)) d.T (fun k => by
      simp only [fX0_tablesOf_4]
      unfold fX0_tablesOf_4_b
      rw [hC.2.1, if_pos (nI_le (Nat.le_refl _) (by omega))]) (fun k t ht => by
      have hl := Sp.hl hd ht
      simp only [fX0_tablesOf_4]
      unfold fX0_tablesOf_4_b fX0_tablesOf_32 fX0_tablesOf_38
      rw [hC.2.1, if_neg (nI_ge ht (by omega)), c_nameOn0 hd hL hC ht, bd_s, c_nameOn1 hd hL hC ht, bd_s]
      simp only [neq (show d.lo t < 2 ^ 31 by omega) (show i < 2 ^ 31 by omega), neq (show d.hi t < 2 ^ 31 by omega) (show i < 2 ^ 31 by omega), ltx_s, nI_1, bi, onT]
      by_cases q1 : d.lo t = i
      · simp [q1]
      · by_cases q2 : d.hi t = i <;> simp [q1, q2]) d.T 0 FU (by omega) (FU_gt (by omega))
  exact key
theorem q_name1 (hd : d.ok) (hL : LR L o) (hC : RS o μ d) {i : Nat} (hi : i < d.N) : fX9_name_57 L o FU (nI i) (0 : Int32) (0 : Int32) μ = some (bi (onT d i) d.T, μ) := by
  have hN := hd.1
  have hT := hd.2.2.1
  have key := lpC (fun k t => fX9_name_57 L o k (nI i) (bi (onT d i) t) (nI t) μ) (some (bi (onT d i) d.T, μ)) d.T (fun k => by
      simp only [fX9_name_57]
      unfold fX9_name_57_b
      rw [hC.2.1, if_pos (nI_le (Nat.le_refl _) (by omega))]) (fun k t ht => by
      have hl := Sp.hl hd ht
      simp only [fX9_name_57]
      unfold fX9_name_57_b fX9_name_89 fX9_name_97
      rw [hC.2.1, if_neg (nI_ge ht (by omega)), q_lo hd hL hC ht, q_hi hd hL hC ht]
      simp only [neq (show d.lo t < 2 ^ 31 by omega) (show i < 2 ^ 31 by omega), neq (show d.hi t < 2 ^ 31 by omega) (show i < 2 ^ 31 by omega), ltx_s, nI_1, bi, onT, Int32.or_zero]
      by_cases q1 : d.lo t = i
      · simp [q1]
      · by_cases q2 : d.hi t = i <;> simp [q1, q2]) d.T 0 FU (by omega) (FU_gt (by omega))
  exact key
theorem c_shutOf (hd : d.ok) (hL : LC L o) (hC : CS o μ d) (hg : Cg o μ d g) (hb : gb d g) {i : Nat} (hi : i < d.N) : fX0_shutOf L o (nI i) μ = some (bi (shB d g i) (d.z i), μ) := by
  have hz := Sp.hz hd hi
  unfold fX0_shutOf
  have key := lpC (fun k a => fX0_shutOf_4 L o k (nI i) (bi (shB d g i) a) (nI a) μ) (some (bi (shB d g i) (d.z i), μ)) (d.z i) (fun k => by
      simp only [fX0_shutOf_4]
      unfold fX0_shutOf_4_b
      rw [c_valuesOf hd hL hC hi, bd_s, if_pos (nI_le (Nat.le_refl _) (by omega))]) (fun k a ha => by
      simp only [fX0_shutOf_4]
      unfold fX0_shutOf_4_b fX0_shutOf_28
      rw [c_valuesOf hd hL hC hi, bd_s, if_neg (nI_ge ha (by omega)), c_isShut hd hL hC hg hb hi ha, bd_s]
      simp only [ltx_s, nI_1, bi, shB]
      by_cases q1 : sm d.tp (g 168) (g (si i a)) = d.tp <;> simp [q1]) (d.z i) 0 FU (by omega) (FU_gt (by omega))
  exact key
theorem q_name2 (hd : d.ok) (hL : LR L o) (hC : RS o μ d) (hg : Rg o μ d g) (hb : gb d g) {i : Nat} (hi : i < d.N) : fX9_name_111 L o FU (nI i) (0 : Int32) (0 : Int32) μ = some (bi (shB d g i) (d.z i), μ) := by
  have hz := Sp.hz hd hi
  have key := lpC (fun k a => fX9_name_111 L o k (nI i) (bi (shB d g i) a) (nI a) μ) (some (bi (shB d g i) (d.z i), μ)) (d.z i) (fun k => by
      simp only [fX9_name_111]
      unfold fX9_name_111_b
      rw [q_many hd hL hC hi, if_pos (nI_le (Nat.le_refl _) (by omega))]) (fun k a ha => by
      simp only [fX9_name_111]
      unfold fX9_name_111_b fX9_name_141
      rw [q_many hd hL hC hi, if_neg (nI_ge ha (by omega)), q_isShut hd hL hC hg hb hi ha, bd_s]
      simp only [ltx_s, nI_1, bi, shB, Int32.or_zero]
      by_cases q1 : sm d.tp (g 168) (g (si i a)) = d.tp <;> simp [q1]) (d.z i) 0 FU (by omega) (FU_gt (by omega))
  exact key
def bcv (v0 : Int32) : Int32 :=
  let a1 := (v0 - ((v0.toUInt32 >>> ((1 : Int32).toUInt32 &&& Int32.toUInt32 31)).toInt32 &&& (1431655765 : Int32)))
  let a2 := ((a1 &&& (858993459 : Int32)) + ((a1.toUInt32 >>> ((2 : Int32).toUInt32 &&& Int32.toUInt32 31)).toInt32 &&& (858993459 : Int32)))
  let a3 := ((a2 + (a2.toUInt32 >>> ((4 : Int32).toUInt32 &&& Int32.toUInt32 31)).toInt32) &&& (252645135 : Int32))
  let a4 := (a3 + (a3.toUInt32 >>> ((8 : Int32).toUInt32 &&& Int32.toUInt32 31)).toInt32)
  let a5 := (a4 + (a4.toUInt32 >>> ((16 : Int32).toUInt32 &&& Int32.toUInt32 31)).toInt32)
  (a5 &&& (63 : Int32))
theorem bcv_e (v : Int32) : fJ6_bitCount_0f7a4 L v μ = some (bcv v, μ) := rfl
def pb (b0 b1 b2 b3 : Bool) (n : Nat) : Bool := if n = 0 then b0 else if n = 1 then b1 else if n = 2 then b2 else b3
theorem bcv_all : ∀ z, z < 5 → ∀ b0 b1 b2 b3 : Bool, bcv (bi (pb b0 b1 b2 b3) z) = nI (ct (pb b0 b1 b2 b3) z) := by decide +kernel
theorem bi_ext {p q : Nat → Bool} : ∀ {n : Nat}, (∀ k, k < n → p k = q k) → bi p n = bi q n ∧ ct p n = ct q n
  | 0, _ => ⟨rfl, rfl⟩
  | n + 1, h => by
    have h1 := bi_ext (n := n) (fun k hk => h k (by omega))
    unfold bi ct
    rw [h1.1, h1.2, h n (by omega)]
    exact ⟨rfl, rfl⟩
theorem bcv_bi {p : Nat → Bool} {z : Nat} (hz : z ≤ 4) : bcv (bi p z) = nI (ct p z) := by
  have h := bi_ext (p := p) (q := pb (p 0) (p 1) (p 2) (p 3)) (n := z) (fun k hk => by
    rcases (show k = 0 ∨ k = 1 ∨ k = 2 ∨ k = 3 by omega) with rfl | rfl | rfl | rfl <;> rfl)
  rw [h.1, h.2]
  exact bcv_all z (by omega) _ _ _ _
def sb (d : Sp) (g : Nat → Nat) : Nat → Nat
  | 0 => 0
  | n + 1 => sb d g n + ct (shB d g n) (d.z n)
theorem c_shutInAll (hd : d.ok) (hL : LC L o) (hC : CS o μ d) (hg : Cg o μ d g) (hb : gb d g) : fX0_shutInAll L o μ = some (nI (sb d g d.N), μ) := by
  have hN := hd.1
  unfold fX0_shutInAll
  have key := lpC (fun k i => fX0_shutInAll_4 L o k (nI (sb d g i)) (nI i) μ) (some (nI (sb d g d.N), μ)) d.N (fun k => by
      simp only [fX0_shutInAll_4]
      unfold fX0_shutInAll_4_b
      rw [hC.1, if_pos (nI_le (Nat.le_refl _) (by omega))]) (fun k i hi => by
      simp only [fX0_shutInAll_4]
      unfold fX0_shutInAll_4_b
      rw [hC.1, if_neg (nI_ge hi (by omega)), c_shutOf hd hL hC hg hb hi, bd_s, bcv_e, bd_s, bcv_bi (Sp.hz hd hi).2, ltx_s, ltx_s, nI_add, nI_1]
      rfl) d.N 0 FU (by omega) (FU_gt (by omega))
  exact key
theorem q_count4 (hd : d.ok) (hL : LR L o) (hC : RS o μ d) (hg : Rg o μ d g) (hb : gb d g) : fX9_count_72 L o FU (0 : Int32) (0 : Int32) μ = some (nI (sb d g d.N), μ) := by
  have hN := hd.1
  have key := lpC (fun k i => fX9_count_72 L o k (nI (sb d g i)) (nI i) μ) (some (nI (sb d g d.N), μ)) d.N (fun k => by
      simp only [fX9_count_72]
      unfold fX9_count_72_b
      rw [hC.1, if_pos (nI_le (Nat.le_refl _) (by omega))]) (fun k i hi => by
      have hz := Sp.hz hd hi
      simp only [fX9_count_72]
      unfold fX9_count_72_b
      rw [hC.1, if_neg (nI_ge hi (by omega))]
      have k2 := lpC (fun kk a => fX9_count_83 L o (fX9_count_72 L o k) kk (nI (sb d g i + ct (shB d g i) a)) (nI i) (nI a) μ) (fX9_count_72 L o k (nI (sb d g (i + 1))) (nI (i + 1)) μ) (d.z i) (fun kk => by
        simp only [fX9_count_83]
        unfold fX9_count_83_b
        rw [q_many hd hL hC hi, if_pos (nI_le (Nat.le_refl _) (by omega)), ltx_s, nI_1]
        rfl) (fun kk a ha => by
        simp only [fX9_count_83]
        unfold fX9_count_83_b fX9_count_110
        rw [q_many hd hL hC hi, if_neg (nI_ge ha (by omega)), q_isShut hd hL hC hg hb hi ha, bd_s]
        simp only [ltx_s, nI_1, ct, shB]
        by_cases q1 : sm d.tp (g 168) (g (si i a)) = d.tp
        · simp only [q1, decide_true, if_true]
          rw [if_neg (by decide)]
          rfl
        · simp only [q1, decide_false, if_false]
          rw [if_pos trivial, n0, nI_add]
          rfl) (d.z i) 0 FU (by omega) (FU_gt (by omega))
      exact k2) d.N 0 FU (by omega) (FU_gt (by omega))
  exact key
end PG
