/-! the reference's search -/
def pr (d : Sp) : Nat → Nat
  | 0 => 1
  | n + 1 => pr d n * d.z n
theorem pr_W (d : Sp) : ∀ k, k ≤ d.N → pr d k * Wc d (d.N - k) k = Wc d d.N 0
  | 0, _ => by
    show 1 * Wc d (d.N - 0) 0 = _
    rw [Nat.one_mul, Nat.sub_zero]
  | k + 1, h => by
    rw [← pr_W d k (by omega)]
    show pr d k * d.z k * Wc d (d.N - (k + 1)) (k + 1) = pr d k * Wc d (d.N - k) k
    rw [show d.N - k = (d.N - (k + 1)) + 1 by omega, Nat.mul_assoc]
    rfl
theorem m1_sub (m : Nat) : nI m + (-1) = nI m - 1 := by
  cases m with
  | zero => decide
  | succ m => rw [pk_m1, nI_pred]
theorem nz_s {X : Type} {b : Int32} {A : Option X} (h : ¬ b = 0) : nz b A = A := if_neg h
def Rk (o : Nat) (μ μ0 : Mem) : Prop := (∀ x, x ≠ o → x ≠ o + 15 → x ≠ o + 16 → μ x = μ0 x) ∧ ∀ j, j < 20 → μ o j = μ0 o j
def Rr (o : Nat) (μ : Mem) (d : Sp) (s : S6) : Prop := μ o 26 = nI s.1 ∧ μ o 28 = nI s.2.1 ∧ μ o 27 = nI s.2.2.1 ∧ μ o 29 = nI s.2.2.2.1 ∧ (0 < s.2.2.1 → μ o 30 = s.2.2.2.2.1 ∧ ∀ i, i < d.N → μ (o + 16) i = nI (s.2.2.2.2.2 i))
section PSr
variable {L : Nat → Nat} {o : Nat} {μ μ0 : Mem} {d : Sp} {g ch : Nat → Nat} {wo fi fa : Nat}
theorem RS.rk (h : RS o μ0 d) (hk : Rk o μ μ0) : RS o μ d := ⟨by rw [hk.2 2 (by decide)]; exact h.1, by rw [hk.2 4 (by decide)]; exact h.2.1, by rw [hk.2 7 (by decide)]; exact h.2.2.1, fun i hi => by rw [hk.1 _ (by omega) (by omega) (by omega)]; exact h.2.2.2.1 i hi, fun i hi => by rw [hk.1 _ (by omega) (by omega) (by omega)]; exact h.2.2.2.2.1 i hi, fun i hi => by rw [hk.1 _ (by omega) (by omega) (by omega)]; exact h.2.2.2.2.2 i hi⟩
theorem Rg.rk (h : Rg o μ0 d g) (hk : Rk o μ μ0) : Rg o μ d g := fun k hk2 => by rw [hk.1 _ (by omega) (by omega) (by omega)]; exact h k hk2
theorem q_choices (hd : d.ok) (hL : LR L o) (hC : RS o μ d) : fX9_choices L o μ = some (nI (Wc d d.N 0), μ) := by
  have hN := hd.1
  unfold fX9_choices
  have key := lpC (fun k i => fX9_choices_4 L o k (nI (pr d i)) (nI i) μ) (some (nI (Wc d d.N 0), μ)) d.N (fun k => by
      simp only [fX9_choices_4]
      unfold fX9_choices_4_b
      rw [hC.1, if_pos (nI_le (Nat.le_refl _) (by omega)), ← pr_W d d.N (Nat.le_refl _), Nat.sub_self]
      show some (nI (pr d d.N), μ) = some (nI (pr d d.N * 1), μ)
      rw [Nat.mul_one]) (fun k i hi => by
      simp only [fX9_choices_4]
      unfold fX9_choices_4_b
      rw [hC.1, if_neg (nI_ge hi (by omega)), q_many hd hL hC hi, ltx_s, ltx_s, nI_1, pk_mul]
      rfl) d.N 0 FU (by omega) (FU_gt (by omega))
  exact key
theorem q_takes (hd : d.ok) (hL : LR L o) (hC : RS o μ d) {c : Nat} (hc : c < 4096) : ∃ μ', fX9_takes L o (nI c) μ = some μ' ∧ (∀ x, x ≠ o + 15 → μ' x = μ x) ∧ ∀ i, i < d.N → μ' (o + 15) i = nI (dg d c i) := by
  have hN := hd.1
  have h15 := hL.2.2.2.2.2.2.2.2.2.2.2.2.2.2.1
  have key : ∀ (m : Nat) (μ' : Mem) (k : Nat), m ≤ d.N → m < k → (∀ x, x ≠ o + 15 → μ' x = μ x) → ∃ μ2, fX9_takes_9 L o k (nI (c / Wc d (d.N - m) m)) (nI m - 1) μ' = some μ2 ∧ (∀ x, x ≠ o + 15 → μ2 x = μ x) ∧ (∀ i, i < m → μ2 (o + 15) i = nI (dg d c i)) ∧ ∀ i, m ≤ i → μ2 (o + 15) i = μ' (o + 15) i := by
    intro m
    induction m with
    | zero =>
      intro μ' k h1 h2 h3
      obtain ⟨k, rfl⟩ : ∃ j, k = j + 1 := ⟨k - 1, by omega⟩
      simp only [fX9_takes_9]
      unfold fX9_takes_9_b
      rw [if_pos (by decide)]
      exact ⟨μ', rfl, h3, fun i hi => by omega, fun _ _ => rfl⟩
    | succ m ih =>
      intro μ' k h1 h2 h3
      obtain ⟨k, rfl⟩ : ∃ j, k = j + 1 := ⟨k - 1, by omega⟩
      have hm : m < d.N := by omega
      have hz := Sp.hz hd hm
      have hC1 : RS o μ' d := hC.of (h3 _ (by omega)) (h3 _ (by omega)) (h3 _ (by omega)) (h3 _ (by omega))
      have hle : c / Wc d (d.N - (m + 1)) (m + 1) ≤ c := Nat.div_le_self _ _
      have hC2 : RS o (up μ' (o + 15) m (nI (dg d c m))) d := hC1.of (up_ne (by omega)) (up_ne (by omega)) (up_ne (by omega)) (up_ne (by omega))
      simp only [fX9_takes_9]
      unfold fX9_takes_9_b
      rw [nI_pred, if_neg (nI_pos (by omega)), q_many hd hL hC1 hm, nz_s (nI_ne0 (by omega) (by omega)), pk_rem (by omega) (by omega) (by omega), ast_s (by omega) (by omega)]
      rw [show c / Wc d (d.N - (m + 1)) (m + 1) % d.z m = dg d c m from rfl, q_many hd hL hC2 hm, nz_s (nI_ne0 (by omega) (by omega)), ltx_s, ltx_s, pk_div (by omega) (by omega) (by omega), Nat.div_div_eq_div_mul, m1_sub]
      rw [show Wc d (d.N - (m + 1)) (m + 1) * d.z m = Wc d (d.N - m) m by
        rw [show d.N - m = (d.N - (m + 1)) + 1 by omega, Nat.mul_comm]
        rfl]
      obtain ⟨μ2, i1, i2, i3, i4⟩ := ih (up μ' (o + 15) m (nI (dg d c m))) k (by omega) (by omega) (fun x hx => by rw [up_ne hx]; exact h3 x hx)
      refine ⟨μ2, i1, i2, fun i hi => ?_, fun i hi => ?_⟩
      · by_cases q : i = m
        · subst q
          rw [i4 i (by omega), up_aa]
        · exact i3 i (by omega)
      · rw [i4 i (by omega), up_an (by omega)]
  unfold fX9_takes
  rw [ltx_s, hC.1]
  obtain ⟨μ2, i1, i2, i3, _⟩ := key d.N μ FU (Nat.le_refl _) (FU_gt (by omega)) (fun _ _ => rfl)
  rw [Nat.sub_self, show Wc d 0 d.N = 1 from rfl, Nat.div_one] at i1
  exact ⟨μ2, i1, i2, i3⟩
theorem q_meetA {v1 v2 : Int32} (h : μ o 26 = v1) : fX9_meets_92 L o v1 v2 μ = some (up (up (up μ o 28 (μ o 28)) o 27 (μ o 27 + 1)) o 30 (μ o 30 &&& v2)) := by
  unfold fX9_meets_92 fX9_meets_113 fX9_meets_117 fX9_meets_138 fX9_meets_164
  simp only [h, Int32.le_refl, pu_s, up_g, reduceIte, Nat.reduceEqDiff]
theorem q_meets (hd : d.ok) (hL : LR L o) (hC0 : RS o μ0 d) (hK : Rk o μ μ0) {s : S6} (h1 : μ o 26 = nI s.1) (h2 : μ o 28 = nI s.2.1) (h3 : μ o 27 = nI s.2.2.1) (h4 : μ o 29 = nI (s.2.2.2.1 + 1)) (h5 : 0 < s.2.2.1 → μ o 30 = s.2.2.2.2.1 ∧ ∀ i, i < d.N → μ (o + 16) i = nI (s.2.2.2.2.2 i)) (hJ : J6 d s) (hch : ∀ i, i < d.N → μ (o + 15) i = nI (ch i)) {tot : Nat} (ht : tot < d.tp) : ∃ μ', fX9_meets L o (nI tot) μ = some μ' ∧ Rk o μ' μ0 ∧ Rr o μ' d (nt d ch tot s) := by
  have hN := hd.1
  have htp := hd.2.2.2.2.2
  have h15 := hL.2.2.2.2.2.2.2.2.2.2.2.2.2.2.1
  have h16 := hL.2.2.2.2.2.2.2.2.2.2.2.2.2.2.2
  have hC := hC0.rk hK
  obtain ⟨j1, j2, j3, j4, j5⟩ := hJ
  unfold fX9_meets
  have key := lpC (fun k i => fX9_meets_4 L o k (nI tot) (bt ch i) (nI i) μ) (if (μ o 26) ≤ nI tot then fX9_meets_92 L o (nI tot) (bt ch d.N) μ else pu μ o 28 (μ o 26) (fun μ7 => pu μ7 o 26 (nI tot) (fun μ8 => pu μ8 o 27 (0 : Int32) (fun μ9 => pu μ9 o 30 (bt ch d.N) (fun μ10 => fX9_meets_66 L o FU (nI tot) (bt ch d.N) (0 : Int32) μ10))))) d.N (fun k => by
      simp only [fX9_meets_4]
      unfold fX9_meets_4_b
      rw [hC.1, if_pos (nI_le (Nat.le_refl _) (by omega))]) (fun k i hi => by
      simp only [fX9_meets_4]
      unfold fX9_meets_4_b
      rw [hC.1, if_neg (nI_ge hi (by omega)), ald_s (by omega) (by omega), hch i hi, q_si, ltx_s, ltx_s, nI_1]
      rfl) d.N 0 FU (by omega) (FU_gt (by omega))
  have key' : fX9_meets_4 L o FU (nI tot) (0 : Int32) (0 : Int32) μ = _ := key
  rw [key', h1]
  unfold nt
  by_cases c1 : tot < s.1
  · rw [if_neg (nI_ge c1 (by omega)), if_pos c1]
    simp only [pu_s]
    obtain ⟨μ1, hm⟩ : ∃ m, m = up (up (up (up μ o 28 (nI s.1)) o 26 (nI tot)) o 27 0) o 30 (bt ch d.N) := ⟨_, rfl⟩
    rw [← hm]
    have hf : ∀ x, x ≠ o → μ1 x = μ x := fun x hx => by rw [hm, up_ne hx, up_ne hx, up_ne hx, up_ne hx]
    have hK1 : Rk o μ1 μ0 := ⟨fun x q1 q2 q3 => by rw [hf x q1]; exact hK.1 x q1 q2 q3, fun j hj => by rw [hm, up_an (by omega), up_an (by omega), up_an (by omega), up_an (by omega)]; exact hK.2 j hj⟩
    refine Exists.elim (lpI (fun k i μ => fX9_meets_66 L o k (nI tot) (bt ch d.N) (nI i) μ) (fun μ => fX9_meets_92 L o (nI tot) (bt ch d.N) μ) (fun a μ' => (∀ x, x ≠ o + 16 → μ' x = μ1 x) ∧ ∀ i, i < a → μ' (o + 16) i = nI (ch i)) d.N ?_ ?_ d.N 0 μ1 FU (by omega) (FU_gt (by omega)) ⟨fun _ _ => rfl, fun i hi => by omega⟩) ?_
    · intro k μ' ⟨a1, a2⟩
      simp only [fX9_meets_66]
      unfold fX9_meets_66_b
      rw [a1 o (by omega), hK1.2 2 (by decide), hC0.1, if_pos (nI_le (Nat.le_refl _) (by omega))]
    · intro k i μ' hi ⟨a1, a2⟩
      simp only [fX9_meets_66]
      unfold fX9_meets_66_b
      rw [a1 o (by omega), hK1.2 2 (by decide), hC0.1, if_neg (nI_ge hi (by omega)), ald_s (by omega) (by omega), ast_s (by omega) (by omega), ltx_s, nI_1, a1 _ (by omega), hf _ (by omega), hch i hi]
      refine ⟨_, rfl, fun x hx => by rw [up_ne hx]; exact a1 x hx, fun j hj => ?_⟩
      by_cases q : j = i
      · subst q
        rw [up_aa]
      · rw [up_an q]
        exact a2 j (by omega)
    · intro μ2 ⟨l1, l2, l3⟩
      have l1' : fX9_meets_66 L o FU (nI tot) (bt ch d.N) (0 : Int32) μ1 = _ := l1
      have e26 : μ2 o 26 = nI tot := by rw [l2 o (by omega), hm]; simp only [up_g, reduceIte, Nat.reduceEqDiff]
      have e27 : μ2 o 27 = 0 := by rw [l2 o (by omega), hm]; simp only [up_g, reduceIte, Nat.reduceEqDiff]
      have e28 : μ2 o 28 = nI s.1 := by rw [l2 o (by omega), hm]; simp only [up_g, reduceIte, Nat.reduceEqDiff]
      have e29 : μ2 o 29 = nI (s.2.2.2.1 + 1) := by rw [l2 o (by omega), hm]; simp only [up_g, reduceIte, Nat.reduceEqDiff]; exact h4
      have e30 : μ2 o 30 = bt ch d.N := by rw [l2 o (by omega), hm]; simp only [up_g, reduceIte, Nat.reduceEqDiff]
      rw [l1', q_meetA e26]
      refine ⟨_, rfl, ⟨fun x q1 q2 q3 => ?_, fun j hj => ?_⟩, ?_, ?_, ?_, ?_, fun _ => ⟨?_, fun i hi => ?_⟩⟩
      · rw [up_ne q1, up_ne q1, up_ne q1, l2 x q3]; exact hK1.1 x q1 q2 q3
      · rw [up_an (by omega), up_an (by omega), up_an (by omega), l2 o (by omega)]; exact hK1.2 j hj
      · simp only [up_g, reduceIte, Nat.reduceEqDiff]; exact e26
      · simp only [up_g, reduceIte, Nat.reduceEqDiff]; exact e28
      · simp only [up_g, reduceIte, Nat.reduceEqDiff]; rw [e27]; rfl
      · simp only [up_g, reduceIte, Nat.reduceEqDiff]; exact e29
      · simp only [up_g, reduceIte, Nat.reduceEqDiff]; rw [e30, Int32.and_self]
      · rw [up_ne (by omega), up_ne (by omega), up_ne (by omega), l3 i hi]
        show nI (ch i) = nI (nf d ch i)
        unfold nf
        rw [if_pos hi]
  · have hw : 0 < s.2.2.1 := by
      by_cases q : s.2.2.1 = 0
      · have := j4 q; omega
      · omega
    obtain ⟨h5a, h5b⟩ := h5 hw
    rw [if_pos (nI_le (by omega) (by omega)), if_neg c1]
    by_cases c2 : tot = s.1
    · rw [if_pos c2, q_meetA (by rw [h1, c2])]
      refine ⟨_, rfl, ⟨fun x q1 q2 q3 => ?_, fun j hj => ?_⟩, ?_, ?_, ?_, ?_, fun _ => ⟨?_, fun i hi => ?_⟩⟩
      · rw [up_ne q1, up_ne q1, up_ne q1]; exact hK.1 x q1 q2 q3
      · rw [up_an (by omega), up_an (by omega), up_an (by omega)]; exact hK.2 j hj
      · simp only [up_g, reduceIte, Nat.reduceEqDiff]; exact h1
      · simp only [up_g, reduceIte, Nat.reduceEqDiff]; exact h2
      · simp only [up_g, reduceIte, Nat.reduceEqDiff]; rw [h3, nI_1]
      · simp only [up_g, reduceIte, Nat.reduceEqDiff]; exact h4
      · simp only [up_g, reduceIte, Nat.reduceEqDiff]; rw [h5a]
      · rw [up_ne (by omega), up_ne (by omega), up_ne (by omega)]; exact h5b i hi
    · rw [if_neg c2]
      unfold fX9_meets_92 fX9_meets_113 fX9_meets_117 fX9_meets_138 fX9_meets_164
      rw [h1, if_neg (nI_ge (by omega) (by omega)), h2]
      simp only [pu_s, up_g, reduceIte, Nat.reduceEqDiff, h1, h3, neq (show tot < 2 ^ 31 by omega) (show s.1 < 2 ^ 31 by omega), c2, nle (show s.2.1 < 2 ^ 31 by omega) (show tot < 2 ^ 31 by omega)]
      have e0 : nI s.2.2.1 + 0 = nI s.2.2.1 := by rw [n0, nI_add]; rfl
      by_cases c3 : tot < s.2.1
      · rw [if_neg (by omega), if_pos c3]
        refine ⟨_, rfl, ⟨fun x q1 q2 q3 => ?_, fun j hj => ?_⟩, ?_, ?_, ?_, ?_, fun _ => ⟨?_, fun i hi => ?_⟩⟩
        · rw [up_ne q1, up_ne q1, up_ne q1]; exact hK.1 x q1 q2 q3
        · rw [up_an (by omega), up_an (by omega), up_an (by omega)]; exact hK.2 j hj
        · simp only [up_g, reduceIte, Nat.reduceEqDiff]; exact h1
        · simp only [up_g, reduceIte, Nat.reduceEqDiff]
        · simp only [up_g, reduceIte, Nat.reduceEqDiff]; exact e0
        · simp only [up_g, reduceIte, Nat.reduceEqDiff]; exact h4
        · simp only [up_g, reduceIte, Nat.reduceEqDiff]; exact h5a
        · rw [up_ne (by omega), up_ne (by omega), up_ne (by omega)]; exact h5b i hi
      · rw [if_pos (by omega), if_neg c3]
        refine ⟨_, rfl, ⟨fun x q1 q2 q3 => ?_, fun j hj => ?_⟩, ?_, ?_, ?_, ?_, fun _ => ⟨?_, fun i hi => ?_⟩⟩
        · rw [up_ne q1, up_ne q1, up_ne q1]; exact hK.1 x q1 q2 q3
        · rw [up_an (by omega), up_an (by omega), up_an (by omega)]; exact hK.2 j hj
        · simp only [up_g, reduceIte, Nat.reduceEqDiff]; exact h1
        · simp only [up_g, reduceIte, Nat.reduceEqDiff]
        · simp only [up_g, reduceIte, Nat.reduceEqDiff]; exact e0
        · simp only [up_g, reduceIte, Nat.reduceEqDiff]; exact h4
        · simp only [up_g, reduceIte, Nat.reduceEqDiff]; exact h5a
        · rw [up_ne (by omega), up_ne (by omega), up_ne (by omega)]; exact h5b i hi
theorem q_looks (hd : d.ok) (hL : LR L o) (hC0 : RS o μ d) (hg0 : Rg o μ d g) (hb : gb d g) : ∃ μ', fX9_looks L o μ = some μ' ∧ Rk o μ' μ ∧ Rr o μ' d (Fin d g 1000 1000 0) := by
  have hN := hd.1
  have htp := hd.2.2.2.2.2
  have hW := Wc_top hd
  unfold fX9_looks
  simp only [pu_s, up_g, reduceIte, Nat.reduceEqDiff]
  rw [hC0.2.2.1]
  obtain ⟨μ1, hm⟩ : ∃ m, m = up (up (up (up μ o 26 (nI d.tp)) o 28 (nI d.tp)) o 29 0) o 27 0 := ⟨_, rfl⟩
  rw [← hm]
  have hK1 : Rk o μ1 μ := ⟨fun x q _ _ => by rw [hm, up_ne q, up_ne q, up_ne q, up_ne q], fun j hj => by rw [hm, up_an (by omega), up_an (by omega), up_an (by omega), up_an (by omega)]⟩
  have hR1 : Rr o μ1 d (s0 d) := by
    refine ⟨?_, ?_, ?_, ?_, fun q => absurd q (Nat.lt_irrefl 0)⟩ <;> rw [hm] <;> simp only [up_g, reduceIte, Nat.reduceEqDiff] <;> rfl
  rw [q_choices hd hL (hC0.rk hK1), bd_s]
  refine Exists.elim (lpI (fun k c μ => fX9_looks_33 L o k (nI (Wc d d.N 0)) (nI c) μ) (fun μ => some μ) (fun c μ' => Rk o μ' μ ∧ Rr o μ' d (fo (fun y => stp d g 1000 1000 0 (dg d y)) c (s0 d)) ∧ J6 d (fo (fun y => stp d g 1000 1000 0 (dg d y)) c (s0 d))) (Wc d d.N 0) ?_ ?_ (Wc d d.N 0) 0 μ1 FU (by omega) (FU_gt (by omega)) ⟨hK1, hR1, J6_0 d⟩) ?_
  · intro k μ' _
    simp only [fX9_looks_33]
    unfold fX9_looks_33_b
    rw [if_pos (nI_le (Nat.le_refl _) (by omega))]
  · intro k c μ' hc ⟨a1, a2, a3⟩
    have hC := hC0.rk a1
    simp only [fX9_looks_33]
    unfold fX9_looks_33_b fX9_looks_73
    rw [if_neg (nI_ge hc (by omega))]
    obtain ⟨μ3, t1, t2, t3⟩ := q_takes hd hL hC (c := c) (by omega)
    have hK3 : Rk o μ3 μ := ⟨fun x q1 q2 q3 => by rw [t2 x q2]; exact a1.1 x q1 q2 q3, fun j hj => by rw [t2 o (by omega)]; exact a1.2 j hj⟩
    obtain ⟨r1, r2, r3, r4, r5⟩ : Rr o μ3 d (fo (fun y => stp d g 1000 1000 0 (dg d y)) c (s0 d)) := by
      obtain ⟨b1, b2, b3, b4, b5⟩ := a2
      exact ⟨by rw [t2 o (by omega)]; exact b1, by rw [t2 o (by omega)]; exact b2, by rw [t2 o (by omega)]; exact b3, by rw [t2 o (by omega)]; exact b4, fun q => ⟨by rw [t2 o (by omega)]; exact (b5 q).1, fun i hi => by rw [t2 _ (by omega)]; exact (b5 q).2 i hi⟩⟩
    have hT := q_totalOf (v := -4) (w := 1000) hd hL (hC0.rk hK3) (hg0.rk hK3) hb (none_w d hd (by decide)) (fun i hi => ⟨t3 i hi, dg_lt hd c hi⟩)
    have hTl := Tot_le d g (dg d c) 1000
    rw [t1, bv_s, hT, bd_s, (hC0.rk hK3).2.2.1]
    have est : fo (fun y => stp d g 1000 1000 0 (dg d y)) (c + 1) (s0 d) = stp d g 1000 1000 0 (dg d c) (fo (fun y => stp d g 1000 1000 0 (dg d y)) c (s0 d)) := rfl
    have ej : J6 d (fo (fun y => stp d g 1000 1000 0 (dg d y)) (c + 1) (s0 d)) := J6_stp a3 _
    by_cases q : Tot d g (dg d c) 1000 < d.tp
    · rw [if_neg (nI_ge q (by omega)), pu_s, r4, nI_1]
      obtain ⟨μ4, m1, m2, m3⟩ := q_meets (μ := up μ3 o 29 (nI ((fo (fun y => stp d g 1000 1000 0 (dg d y)) c (s0 d)).2.2.2.1 + 1))) (tot := Tot d g (dg d c) 1000) (ch := dg d c) hd hL hC0 ⟨fun x q1 q2 q3 => by rw [up_ne q1]; exact hK3.1 x q1 q2 q3, fun j hj => by rw [up_an (by omega)]; exact hK3.2 j hj⟩ (s := fo (fun y => stp d g 1000 1000 0 (dg d y)) c (s0 d)) (by rw [up_an (by decide)]; exact r1) (by rw [up_an (by decide)]; exact r2) (by rw [up_an (by decide)]; exact r3) (up_aa _ _ _ _) (fun q => ⟨by rw [up_an (by decide)]; exact (r5 q).1, fun i hi => by rw [up_ne (by omega)]; exact (r5 q).2 i hi⟩) a3 (fun i hi => by rw [up_ne (by omega)]; exact t3 i hi) q
      rw [m1, bv_s, ltx_s, nI_1]
      refine ⟨μ4, rfl, m2, ?_, ej⟩
      rw [est]
      unfold stp
      rw [if_pos ⟨Or.inl (by omega), q⟩]
      exact m3
    · rw [if_pos (nI_le (by omega) (by omega)), ltx_s, nI_1]
      refine ⟨μ3, rfl, hK3, ?_, ej⟩
      rw [est]
      unfold stp
      rw [if_neg (fun e => q e.2)]
      exact ⟨r1, r2, r3, r4, r5⟩
  · intro μ2 ⟨l1, l2, l3, l4⟩
    exact ⟨μ2, l1, l2, l3⟩
theorem q_least (hd : d.ok) (hL : LR L o) (hC0 : RS o μ d) (hg0 : Rg o μ d g) (hb : gb d g) {vi va vo : Int32} (hvo : ∀ t, t < d.T → (nI t = vo ↔ t = wo)) (hfi : (vi < 0 ∧ ¬ fi < d.N) ∨ (vi = nI fi ∧ fi < d.N ∧ va = nI fa ∧ fa < 4)) : ∃ μ', fX9_least L o vi va vo μ = some (if (Fin d g wo fi fa).1 < d.tp then nI (Fin d g wo fi fa).1 else -4, μ') ∧ Rk o μ' μ := by
  have hN := hd.1
  have htp := hd.2.2.2.2.2
  have hW := Wc_top hd
  have h15 := hL.2.2.2.2.2.2.2.2.2.2.2.2.2.2.1
  have eF : (Fin d g wo fi fa).1 = fo (fun y => lst d g wo fi fa (dg d y)) (Wc d d.N 0) d.tp := fo_lst (J6_0 d) (dg d) _
  have hb1 : ∀ c, fo (fun y => lst d g wo fi fa (dg d y)) c d.tp ≤ d.tp := fun c => fo_ind (P := fun l => l ≤ d.tp) (Nat.le_refl _) (fun y l _ h => by
    have := Tot_le d g (dg d y) wo
    unfold lst
    split
    · split <;> omega
    · exact h)
  have hbW := hb1 (Wc d d.N 0)
  rw [eF]
  unfold fX9_least
  rw [ltx_s, q_choices hd hL hC0, bd_s, hC0.2.2.1]
  refine Exists.elim (lpI (S := Nat × Mem) (fun k c s => fX9_least_15 L o k vi va vo (nI s.1) (nI (Wc d d.N 0)) (nI c) s.2) (fun s => some (if s.1 < d.tp then nI s.1 else -4, s.2)) (fun c s => s.1 = fo (fun y => lst d g wo fi fa (dg d y)) c d.tp ∧ Rk o s.2 μ) (Wc d d.N 0) ?_ ?_ (Wc d d.N 0) 0 (d.tp, μ) FU (by omega) (FU_gt (by omega)) ⟨rfl, fun _ _ _ _ => rfl, fun _ _ => rfl⟩) ?_
  · intro k s ⟨a1, a2⟩
    have hs : s.1 ≤ d.tp := by rw [a1]; exact hbW
    simp only [fX9_least_15]
    unfold fX9_least_15_b
    rw [if_pos (nI_le (Nat.le_refl _) (by omega)), (hC0.rk a2).2.2.1]
    by_cases q : s.1 < d.tp
    · rw [if_neg (nI_ge q (by omega)), if_pos q]
    · rw [if_pos (nI_le (by omega) (by omega)), if_neg q]
  · intro k c s hc ⟨a1, a2⟩
    have hs : s.1 ≤ d.tp := by rw [a1]; exact hb1 c
    simp only [fX9_least_15]
    unfold fX9_least_15_b fX9_least_42 fX9_least_63 fX9_least_65
    rw [if_neg (nI_ge hc (by omega))]
    obtain ⟨μ3, t1, t2, t3⟩ := q_takes hd hL (hC0.rk a2) (c := c) (by omega)
    have hK3 : Rk o μ3 μ := ⟨fun x q1 q2 q3 => by rw [t2 x q2]; exact a2.1 x q1 q2 q3, fun j hj => by rw [t2 o (by omega)]; exact a2.2 j hj⟩
    have hT := q_totalOf (v := vo) (w := wo) hd hL (hC0.rk hK3) (hg0.rk hK3) hb hvo (fun i hi => ⟨t3 i hi, dg_lt hd c hi⟩)
    have hTl := Tot_le d g (dg d c) wo
    have est : fo (fun y => lst d g wo fi fa (dg d y)) (c + 1) d.tp = lst d g wo fi fa (dg d c) s.1 := by rw [a1]; rfl
    rw [t1, bv_s, hT]
    simp only [bd_s, ltx_s, nI_1]
    have htak : (¬ fi < d.N ∨ dg d c fi = fa) → ∃ s' : Nat × Mem, (if nI s.1 ≤ nI (Tot d g (dg d c) wo) then fX9_least_15 L o k vi va vo (nI s.1) (nI (Wc d d.N 0)) (nI (c + 1)) μ3 else fX9_least_15 L o k vi va vo (nI (Tot d g (dg d c) wo)) (nI (Wc d d.N 0)) (nI (c + 1)) μ3) = fX9_least_15 L o k vi va vo (nI s'.1) (nI (Wc d d.N 0)) (nI (c + 1)) s'.2 ∧ s'.1 = fo (fun y => lst d g wo fi fa (dg d y)) (c + 1) d.tp ∧ Rk o s'.2 μ := by
      intro hx
      rw [est]
      unfold lst
      rw [if_pos hx]
      by_cases q : Tot d g (dg d c) wo < s.1
      · rw [if_neg (nI_ge q (by omega)), if_pos q]
        exact ⟨(_, μ3), rfl, rfl, hK3⟩
      · rw [if_pos (nI_le (by omega) (by omega)), if_neg q]
        exact ⟨(_, μ3), rfl, rfl, hK3⟩
    rcases hfi with ⟨f1, f2⟩ | ⟨rfl, f2, rfl, f4⟩
    · rw [if_pos f1]
      exact htak (Or.inl f2)
    · have hz := Sp.hz hd f2
      have hdl := dg_lt hd c f2
      rw [if_neg (nI_pos (by omega)), ald_s (by omega) (by omega), t3 _ f2]
      by_cases q : dg d c fi = fa
      · rw [if_pos (nEq q)]
        exact htak (Or.inr q)
      · rw [if_neg (nNe q (by omega) (by omega))]
        refine ⟨(s.1, μ3), rfl, ?_, hK3⟩
        rw [est]
        unfold lst
        rw [if_neg (fun e => by rcases e with e | e; exact e f2; exact q e)]
  · intro s ⟨l1, l2, l3⟩
    refine ⟨s.2, ?_, l3⟩
    rw [← l2]
    exact l1
end PSr
