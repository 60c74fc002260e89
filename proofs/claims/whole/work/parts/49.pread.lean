/-! reading: the items of a text -/
abbrev dgt (n : Nat) (x : Nat → Nat) (p : Nat) : Prop := p < n ∧ 48 ≤ x p ∧ x p ≤ 57
def nx (n : Nat) (x : Nat → Nat) (p : Nat) : Nat := if dgt n x p then (if dgt n x (p + 1) then p + 2 else p + 1) else p
def nvl (n : Nat) (x : Nat → Nat) (p : Nat) : Nat := if dgt n x p then (if dgt n x (p + 1) then 10 * (x p - 48) + (x (p + 1) - 48) else x p - 48) else 0
def qs (n : Nat) (x : Nat → Nat) (s : Nat) : Nat → Nat
  | 0 => s
  | k + 1 => nx n x (qs n x s k) + 1
abbrev okN (n : Nat) (x : Nat → Nat) (s m k : Nat) : Prop := qs n x s k < nx n x (qs n x s k) ∧ nx n x (qs n x s k) < n ∧ x (nx n x (qs n x s k)) = (if k + 1 = m then 59 else 44)
def mk (c : Nat) : Nat := if c = 98 then 3 else if c = 99 then 4 else if c = 116 then 1 else if c = 117 then 3 else if c = 118 then 1 else 0
abbrev Gd (c : Nat) (d : Sp) (v : Nat → Nat) : Prop := (c = 98 ∧ d.T < 9 ∧ v 0 < d.N ∧ v 1 < d.N ∧ v 0 < v 1 ∧ ∀ t, t < d.T → ¬ (d.lo t = v 0 ∧ d.hi t = v 1)) ∨ (c = 99 ∧ v 0 < d.T ∧ v 1 < d.z (d.lo (v 0)) ∧ v 2 < d.z (d.hi (v 0))) ∨ (c = 116 ∧ 1 ≤ v 0) ∨ (c = 117 ∧ v 0 < d.N ∧ v 1 < d.z (v 0)) ∨ (c = 118 ∧ d.N < 6 ∧ 2 ≤ v 0 ∧ v 0 ≤ 4)
def vs (n : Nat) (x : Nat → Nat) (s k : Nat) : Nat := nvl n x (qs n x s k)
abbrev Ok (n : Nat) (x : Nat → Nat) (d : Sp) (p : Nat) : Prop := (∀ k, k < mk (x p) → okN n x (p + 1) (mk (x p)) k) ∧ Gd (x p) d (vs n x (p + 1))
def mkSp (N : Nat) (z : Nat → Nat) (T : Nat) (lo hi : Nat → Nat) (tp : Nat) : Sp := (N, z, T, lo, hi, tp)
def dN (c : Nat) (d : Sp) (v : Nat → Nat) : Sp := if c = 98 then mkSp d.N d.z (d.T + 1) (gu d.lo d.T (v 0)) (gu d.hi d.T (v 1)) d.tp else if c = 116 then mkSp d.N d.z d.T d.lo d.hi (v 0) else if c = 118 then mkSp (d.N + 1) (gu d.z d.N (v 0)) d.T d.lo d.hi d.tp else d
def gN (c : Nat) (d : Sp) (g : Nat → Nat) (v : Nat → Nat) : Nat → Nat := if c = 98 then fo (fun a g => gu g (pi d.T a a) (v 2)) (min (d.z (v 0)) (d.z (v 1))) g else if c = 99 then gu g (pi (v 0) (v 1) (v 2)) (v 3) else if c = 117 then gu g (si (v 0) (v 1)) (v 2) else g
theorem dN_b (d : Sp) (v : Nat → Nat) : dN 98 d v = mkSp d.N d.z (d.T + 1) (gu d.lo d.T (v 0)) (gu d.hi d.T (v 1)) d.tp := rfl
theorem dN_c (d : Sp) (v : Nat → Nat) : dN 99 d v = d := rfl
theorem dN_t (d : Sp) (v : Nat → Nat) : dN 116 d v = mkSp d.N d.z d.T d.lo d.hi (v 0) := rfl
theorem dN_u (d : Sp) (v : Nat → Nat) : dN 117 d v = d := rfl
theorem dN_v (d : Sp) (v : Nat → Nat) : dN 118 d v = mkSp (d.N + 1) (gu d.z d.N (v 0)) d.T d.lo d.hi d.tp := rfl
theorem gN_b (d : Sp) (g v : Nat → Nat) : gN 98 d g v = fo (fun a g => gu g (pi d.T a a) (v 2)) (min (d.z (v 0)) (d.z (v 1))) g := rfl
theorem gN_c (d : Sp) (g v : Nat → Nat) : gN 99 d g v = gu g (pi (v 0) (v 1) (v 2)) (v 3) := rfl
theorem gN_t (d : Sp) (g v : Nat → Nat) : gN 116 d g v = g := rfl
theorem gN_u (d : Sp) (g v : Nat → Nat) : gN 117 d g v = gu g (si (v 0) (v 1)) (v 2) := rfl
theorem gN_v (d : Sp) (g v : Nat → Nat) : gN 118 d g v = g := rfl
def Rd (n : Nat) (x : Nat → Nat) : Nat → Nat → Sp → (Nat → Nat) → Option Nat × Sp × (Nat → Nat)
  | 0, p, d, g => (some p, d, g)
  | r + 1, p, d, g => if n ≤ p then (none, d, g) else if Ok n x d p then Rd n x r (qs n x (p + 1) (mk (x p))) (dN (x p) d (vs n x (p + 1))) (gN (x p) d g (vs n x (p + 1))) else (some p, d, g)
def PS (d : Sp) (g : Nat → Nat) : Prop := d.ok ∧ (∀ k, k ≤ 168 → g k ≤ 99) ∧ ∀ t a b, d.T ≤ t → t < 9 → a < 4 → b < 4 → g (pi t a b) = 0
theorem nvl_le (n : Nat) (x : Nat → Nat) (p : Nat) : nvl n x p ≤ 99 := by
  unfold nvl
  split
  · split <;> omega
  · omega
theorem nx_le (n : Nat) (x : Nat → Nat) (p : Nat) : p ≤ nx n x p ∧ nx n x p ≤ p + 2 := by
  unfold nx
  split
  · split <;> omega
  · omega
theorem qs_le (n : Nat) (x : Nat → Nat) (s : Nat) : ∀ k, s + k ≤ qs n x s k ∧ qs n x s k ≤ s + 3 * k
  | 0 => by unfold qs; omega
  | k + 1 => by
    have h1 := qs_le n x s k
    have h2 := nx_le n x (qs n x s k)
    unfold qs
    omega
theorem fo_dn {T m c k : Nat} {g : Nat → Nat} (h : ∀ a, a < m → k ≠ pi T a a) : fo (fun a g => gu g (pi T a a) c) m g k = g k := fo_ne (fun a g' ha => gu_ne (h a ha))
theorem fo_dy {T c a : Nat} {g : Nat → Nat} : ∀ {m : Nat}, a < m → fo (fun a g => gu g (pi T a a) c) m g (pi T a a) = c
  | m + 1, h => by
    show gu _ (pi T m m) c (pi T a a) = c
    by_cases q : a = m
    · rw [q, gu_at]
    · rw [gu_ne (by unfold pi; omega)]
      exact fo_dy (by omega)
theorem PS_step {n : Nat} {x : Nat → Nat} {d : Sp} {g : Nat → Nat} {c s : Nat} (h : PS d g) (hG : Gd c d (vs n x s)) : PS (dN c d (vs n x s)) (gN c d g (vs n x s)) := by
  obtain ⟨hd, hg, hz⟩ := h
  have hv : ∀ k, vs n x s k ≤ 99 := fun k => nvl_le _ _ _
  generalize vs n x s = v at *
  obtain ⟨h1, h2, h3, h4, h5, h6⟩ := hd
  rcases hG with ⟨rfl, a1, a2, a3, a4, a5⟩ | ⟨rfl, a1, a2, a3⟩ | ⟨rfl, a1⟩ | ⟨rfl, a1, a2⟩ | ⟨rfl, a1, a2, a3⟩
  · rw [dN_b, gN_b]
    have hz1 := h2 _ a2
    refine ⟨⟨h1, h2, ?_, fun t ht => ?_, h5, h6⟩, fun k hk => ?_, fun t a b q1 q2 q3 q4 => ?_⟩
    · show d.T + 1 ≤ 9
      omega
    · have ht : t < d.T + 1 := ht
      show gu d.lo d.T (v 0) t < gu d.hi d.T (v 1) t ∧ gu d.hi d.T (v 1) t < d.N
      by_cases q : t = d.T
      · rw [q, gu_at, gu_at]
        exact ⟨a4, a3⟩
      · rw [gu_ne q, gu_ne q]
        exact h4 t (by omega)
    · refine fo_ind (P := fun (g : Nat → Nat) => g k ≤ 99) (hg k hk) (fun a g' _ h' => ?_)
      by_cases q : k = pi d.T a a
      · rw [q, gu_at]
        exact hv 2
      · rw [gu_ne q]
        exact h'
    · have q1 : d.T + 1 ≤ t := q1
      rw [fo_dn (fun a' ha' => by unfold pi; omega)]
      exact hz t a b (by omega) q2 q3 q4
  · rw [dN_c, gN_c]
    refine ⟨⟨h1, h2, h3, h4, h5, h6⟩, fun k hk => ?_, fun t a b q1 q2 q3 q4 => ?_⟩
    · by_cases q : k = pi (v 0) (v 1) (v 2)
      · rw [q, gu_at]
        exact hv 3
      · rw [gu_ne q]
        exact hg k hk
    · have hz1 := h2 _ (show d.lo (v 0) < d.N by have := h4 _ a1; omega)
      have hz2 := h2 _ (show d.hi (v 0) < d.N by have := h4 _ a1; omega)
      rw [gu_ne (by unfold pi; omega)]
      exact hz t a b q1 q2 q3 q4
  · rw [dN_t, gN_t]
    exact ⟨⟨h1, h2, h3, h4, a1, hv 0⟩, hg, hz⟩
  · rw [dN_u, gN_u]
    have hz1 := h2 _ a1
    refine ⟨⟨h1, h2, h3, h4, h5, h6⟩, fun k hk => ?_, fun t a b q1 q2 q3 q4 => ?_⟩
    · by_cases q : k = si (v 0) (v 1)
      · rw [q, gu_at]
        exact hv 2
      · rw [gu_ne q]
        exact hg k hk
    · rw [gu_ne (by unfold pi si; omega)]
      exact hz t a b q1 q2 q3 q4
  · rw [dN_v, gN_v]
    refine ⟨⟨?_, fun i hi => ?_, h3, fun t ht => ?_, h5, h6⟩, hg, hz⟩
    · show d.N + 1 ≤ 6
      omega
    · have hi : i < d.N + 1 := hi
      show 2 ≤ gu d.z d.N (v 0) i ∧ gu d.z d.N (v 0) i ≤ 4
      by_cases q : i = d.N
      · rw [q, gu_at]
        exact ⟨a2, a3⟩
      · rw [gu_ne q]
        exact h2 i (by omega)
    · have := h4 t ht
      exact ⟨this.1, Nat.lt_succ_of_lt this.2⟩
theorem Rd_PS {n : Nat} {x : Nat → Nat} : ∀ (r p : Nat) (d : Sp) (g : Nat → Nat), PS d g → PS (Rd n x r p d g).2.1 (Rd n x r p d g).2.2
  | 0, _, _, _, h => h
  | r + 1, p, d, g, h => by
    unfold Rd
    split
    · exact h
    · split
      · rename_i q
        exact Rd_PS r _ _ _ (PS_step h q.2)
      · exact h
/-! the class's reader -/
def KT (to : Nat) (μ : Mem) (n : Nat) (x : Nat → Nat) : Prop := μ to 1 = nI n ∧ ∀ j, j < n → μ (to + 1 + 1) j = nI (x j)
def KC (co : Nat) (μ : Mem) (d : Sp) (g : Nat → Nat) : Prop := CS co μ d ∧ ∀ k, k ≤ 168 → μ (co + 7 + 1) (cx k) = nI (g k)
def lc (n : Nat) (x : Nat → Nat) (p : Nat) : Int32 := if p < n then nI (x p) else -1
section PRc
variable {L : Nat → Nat} {to ro co : Nat} {μ : Mem} {n : Nat} {x : Nat → Nat} {d : Sp} {g : Nat → Nat}
theorem c_letterAt (hLt : L (to + 1 + 1) = 200) (hT : KT to μ n x) (hn : n ≤ 200) {p : Nat} (hp : p < 2 ^ 30) : fX6_letterAt L to (nI p) μ = some (lc n x p, μ) := by
  unfold fX6_letterAt lc
  rw [hT.1, if_neg (nI_pos (by omega))]
  by_cases q : p < n
  · rw [if_neg (nI_ge q (by omega)), rget hLt (by omega) (by decide), bd_s, hT.2 p q, if_pos q]
  · rw [if_pos (nI_le (by omega) (by omega)), if_neg q]
theorem c_isFig (hx : ∀ j, j < n → 32 ≤ x j ∧ x j ≤ 126) (p : Nat) : fX2_isFigure L (lc n x p) μ = some ((if dgt n x p then 1 else 0), μ) := by
  unfold fX2_isFigure lc
  by_cases q : p < n
  · have h1 := hx p q
    rw [if_pos q]
    by_cases q1 : x p < 48
    · rw [if_pos (show nI (x p) < (48 : Int32) from nI_lt (b := 48) q1 (by decide)), if_neg (by omega)]
    · rw [if_neg (show ¬ nI (x p) < (48 : Int32) from nI_nlt (b := 48) (by omega) (by omega))]
      by_cases q2 : 57 < x p
      · rw [if_pos (show (57 : Int32) < nI (x p) from nI_lt (a := 57) q2 (by omega)), if_neg (by omega)]
      · rw [if_neg (show ¬ (57 : Int32) < nI (x p) from nI_nlt (a := 57) (by omega) (by decide)), if_pos (by omega)]
  · rw [if_neg q, if_pos (by decide), if_neg (by omega)]
theorem lc_dgt {p : Nat} (h : dgt n x p) : lc n x p - 48 = nI (x p - 48) := by
  unfold lc
  rw [if_pos h.1, show (48 : Int32) = nI 48 from rfl, pk_sub h.2.1]
theorem lc_is (hx : ∀ j, j < n → 32 ≤ x j ∧ x j ≤ 126) {p c : Nat} (hc : c < 2 ^ 31) : lc n x p = nI c ↔ p < n ∧ x p = c := by
  unfold lc
  by_cases q : p < n
  · rw [if_pos q, nI_eq (by have := hx p q; omega) hc]
    exact ⟨fun h => ⟨q, h⟩, fun h => h.2⟩
  · rw [if_neg q]
    refine ⟨fun h => ?_, fun h => absurd h.1 q⟩
    exact absurd (show nI c < 0 by rw [← h]; decide) (nI_pos hc)
def FrR (ro : Nat) (μ' μ : Mem) : Prop := ∀ x, x ≠ ro → x ≠ ro + 1 + 1 → μ' x = μ x
theorem c_readNumber (hLt : L (to + 1 + 1) = 200) (hLr : L (ro + 1 + 1) = 4) (hto : to + 2 < ro) (hT : KT to μ n x) (hn : n ≤ 200) (hx : ∀ j, j < n → 32 ≤ x j ∧ x j ≤ 126) {p k : Nat} (hp : p < 2 ^ 20) (hk : k < 4) (hpl : μ ro 1 = nI p) :
    ∃ μ', fX2_readNumber L ro to (nI k) μ = some ((if p < nx n x p then 1 else 0), μ') ∧ FrR ro μ' μ ∧ (p < nx n x p → μ' ro 1 = nI (nx n x p) ∧ μ' (ro + 1 + 1) k = nI (nvl n x p) ∧ ∀ j, j ≠ k → μ' (ro + 1 + 1) j = μ (ro + 1 + 1) j) := by
  unfold fX2_readNumber
  rw [hpl, c_letterAt hLt hT hn (by omega), bd_s, c_isFig hx, bd_s]
  by_cases q : dgt n x p
  · have hT1 : KT to (up μ ro 1 (nI (p + 1))) n x := ⟨by rw [up_ne (by omega)]; exact hT.1, fun j hj => by rw [up_ne (by omega)]; exact hT.2 j hj⟩
    rw [if_pos q, if_neg (by decide), hpl, c_letterAt hLt hT hn (by omega), bd_s, ltx_s, hpl, nI_1, pu_s, up_aa, c_letterAt hLt hT1 hn (by omega), bd_s, c_isFig hx, bd_s, lc_dgt q]
    by_cases q2 : dgt n x (p + 1)
    · have e1 : nx n x p = p + 2 := by unfold nx; rw [if_pos q, if_pos q2]
      have e2 : nvl n x p = 10 * (x p - 48) + (x (p + 1) - 48) := by unfold nvl; rw [if_pos q, if_pos q2]
      have e3 : (10 : Int32) * nI (x p - 48) + lc n x (p + 1) - 48 = nI (10 * (x p - 48) + (x (p + 1) - 48)) := by
        unfold lc
        rw [if_pos q2.1, show (10 : Int32) = nI 10 from rfl, pk_mul, nI_add, show (48 : Int32) = nI 48 from rfl, pk_sub (by omega)]
        congr 1
        omega
      rw [if_pos q2, if_neg (by decide), up_aa, c_letterAt hLt hT1 hn (by omega), bd_s, ltx_s, e3, up_aa, nI_1, pu_s]
      unfold fX2_readNumber_79
      rw [rset hLr hk (by decide), bv_s, e1, e2, if_pos (by omega)]
      refine ⟨_, rfl, fun x q1 q2 => by rw [up_ne q2, up_ne q1, up_ne q1], fun _ => ⟨by rw [up_ne (by omega), up_aa], up_aa _ _ _ _, fun j hj => by rw [up_an hj, up_ne (by omega), up_ne (by omega)]⟩⟩
    · have e1 : nx n x p = p + 1 := by unfold nx; rw [if_pos q, if_neg q2]
      have e2 : nvl n x p = x p - 48 := by unfold nvl; rw [if_pos q, if_neg q2]
      rw [if_neg q2, if_pos rfl]
      unfold fX2_readNumber_79
      rw [rset hLr hk (by decide), bv_s, e1, e2, if_pos (by omega)]
      refine ⟨_, rfl, fun x q1 q2 => by rw [up_ne q2, up_ne q1], fun _ => ⟨by rw [up_ne (by omega), up_aa], up_aa _ _ _ _, fun j hj => by rw [up_an hj, up_ne (by omega)]⟩⟩
  · have e1 : nx n x p = p := by unfold nx; rw [if_neg q]
    rw [if_neg q, if_pos rfl, e1, if_neg (by omega)]
    exact ⟨μ, rfl, fun _ _ _ => rfl, fun h => absurd h (Nat.lt_irrefl _)⟩
theorem c_readNumbers (hLt : L (to + 1 + 1) = 200) (hLr : L (ro + 1 + 1) = 4) (hto : to + 2 < ro) (hT : KT to μ n x) (hn : n ≤ 200) (hx : ∀ j, j < n → 32 ≤ x j ∧ x j ≤ 126) {s m : Nat} (hs : s ≤ 300) (hm : m ≤ 4) (hpl : μ ro 1 = nI s) :
    ∃ μ', FrR ro μ' μ ∧ ((fX2_readNumbers L ro to (nI m) μ = some (0, μ') ∧ ¬ ∀ k, k < m → okN n x s m k) ∨ (fX2_readNumbers L ro to (nI m) μ = some (1, μ') ∧ (∀ k, k < m → okN n x s m k) ∧ μ' ro 1 = nI (qs n x s m) ∧ ∀ k, k < m → μ' (ro + 1 + 1) k = nI (vs n x s k))) := by
  have key : ∀ (r a f : Nat) (μ' : Mem), a + r = m → r < f → FrR ro μ' μ → (∀ k, k < a → okN n x s m k) → μ' ro 1 = nI (qs n x s a) → (∀ k, k < a → μ' (ro + 1 + 1) k = nI (vs n x s k)) →
      ∃ μ2, FrR ro μ2 μ ∧ ((fX2_readNumbers_2 L ro to f (nI m) (nI a) μ' = some (0, μ2) ∧ ¬ ∀ k, k < m → okN n x s m k) ∨ (fX2_readNumbers_2 L ro to f (nI m) (nI a) μ' = some (1, μ2) ∧ (∀ k, k < m → okN n x s m k) ∧ μ2 ro 1 = nI (qs n x s m) ∧ ∀ k, k < m → μ2 (ro + 1 + 1) k = nI (vs n x s k))) := by
    intro r
    induction r with
    | zero =>
      intro a f μ' h1 h2 h3 h4 h5 h6
      obtain ⟨f, rfl⟩ : ∃ j, f = j + 1 := ⟨f - 1, by omega⟩
      have h1 : a = m := by omega
      subst h1
      refine ⟨μ', h3, Or.inr ⟨?_, h4, h5, h6⟩⟩
      simp only [fX2_readNumbers_2]
      unfold fX2_readNumbers_2_b
      rw [if_pos (nI_le (Nat.le_refl _) (by omega))]
    | succ r ih =>
      intro a f μ' h1 h2 h3 h4 h5 h6
      obtain ⟨f, rfl⟩ : ∃ j, f = j + 1 := ⟨f - 1, by omega⟩
      have hq := qs_le n x s a
      have hT1 : KT to μ' n x := ⟨by rw [h3 _ (by omega) (by omega)]; exact hT.1, fun j hj => by rw [h3 _ (by omega) (by omega)]; exact hT.2 j hj⟩
      obtain ⟨μ1, n1, n2, n3⟩ := c_readNumber hLt hLr hto hT1 hn hx (p := qs n x s a) (k := a) (by omega) (by omega) h5
      have n2' : FrR ro μ1 μ := fun x q1 q2 => (n2 x q1 q2).trans (h3 x q1 q2)
      have hT2 : KT to μ1 n x := ⟨by rw [n2' _ (by omega) (by omega)]; exact hT.1, fun j hj => by rw [n2' _ (by omega) (by omega)]; exact hT.2 j hj⟩
      have hnx := nx_le n x (qs n x s a)
      have es : (if nI a = nI m - 1 then fX2_readNumbers_21 L ro to (fX2_readNumbers_2 L ro to f) (nI m) (nI a) (59 : Int32) μ' else fX2_readNumbers_21 L ro to (fX2_readNumbers_2 L ro to f) (nI m) (nI a) (44 : Int32) μ') = fX2_readNumbers_21 L ro to (fX2_readNumbers_2 L ro to f) (nI m) (nI a) (nI (if a + 1 = m then 59 else 44)) μ' := by
        obtain ⟨m', rfl⟩ : ∃ j, m = j + 1 := ⟨m - 1, by omega⟩
        rw [nI_pred]
        by_cases q : a = m'
        · rw [if_pos (nEq q), if_pos (by omega)]
          rfl
        · rw [if_neg (nNe q (by omega) (by omega)), if_neg (by omega)]
          rfl
      simp only [fX2_readNumbers_2]
      unfold fX2_readNumbers_2_b
      rw [if_neg (nI_ge (by omega) (by omega)), es]
      unfold fX2_readNumbers_21
      rw [n1, bd_s]
      by_cases q1 : qs n x s a < nx n x (qs n x s a)
      · obtain ⟨m1, m2, m3⟩ := n3 q1
        rw [if_pos q1, if_neg (by decide), m1, c_letterAt hLt hT2 hn (by omega), bd_s]
        by_cases q2 : nx n x (qs n x s a) < n ∧ x (nx n x (qs n x s a)) = (if a + 1 = m then 59 else 44)
        · rw [if_pos ((lc_is hx (by split <;> decide)).mpr q2), pu_s, ltx_s, nI_1, m1, nI_1]
          refine ih (a + 1) f _ (by omega) (by omega) (fun x z1 z2 => by rw [up_ne z1]; exact n2' x z1 z2) (fun k hk => ?_) (by rw [up_aa]; rfl) (fun k hk => ?_)
          · by_cases z : k = a
            · subst z
              exact ⟨q1, q2⟩
            · exact h4 k (by omega)
          · rw [up_ne (by omega)]
            by_cases z : k = a
            · subst z
              exact m2
            · rw [m3 k z]
              exact h6 k (by omega)
        · rw [if_neg (fun z => q2 ((lc_is hx (by split <;> decide)).mp z))]
          exact ⟨μ1, n2', Or.inl ⟨rfl, fun z => q2 (z a (by omega)).2⟩⟩
      · rw [if_neg q1, if_pos rfl]
        exact ⟨μ1, n2', Or.inl ⟨rfl, fun z => q1 (z a (by omega)).1⟩⟩
  unfold fX2_readNumbers
  exact key m 0 FU μ (by omega) (FU_gt (by omega)) (fun _ _ _ => rfl) (fun k hk => by omega) hpl (fun k hk => by omega)
end PRc
