/-! the class reads a text -/
def FrA (ro co : Nat) (μ' μ : Mem) : Prop := ∀ x, x ≠ ro → x ≠ ro + 1 + 1 → x ≠ co → x ≠ co + 1 + 1 → x ≠ co + 3 + 1 → x ≠ co + 5 + 1 → x ≠ co + 7 + 1 → μ' x = μ x
def fr (o : Option Nat) : Int32 := match o with
  | none => -4
  | some p => nI p
def d0 : Sp := mkSp 0 (fun _ => 0) 0 (fun _ => 0) (fun _ => 0) 20
theorem PS0 : PS d0 (fun _ => 0) := ⟨⟨Nat.zero_le _, fun i hi => absurd hi (Nat.not_lt_zero _), Nat.zero_le _, fun t ht => absurd ht (Nat.not_lt_zero _), by decide, by decide⟩, fun _ _ => Nat.zero_le _, fun _ _ _ _ _ _ _ => rfl⟩
theorem mk_0 {c : Nat} (h : mk c = 0) (d : Sp) (v : Nat → Nat) : ¬ Gd c d v := by
  rintro (⟨rfl, _⟩ | ⟨rfl, _⟩ | ⟨rfl, _⟩ | ⟨rfl, _⟩ | ⟨rfl, _⟩) <;> exact absurd h (by decide)
theorem mk_le (c : Nat) : mk c ≤ 4 := by
  unfold mk
  split <;> (try split) <;> (try split) <;> (try split) <;> (try split) <;> omega
theorem mk_c {c : Nat} (h : 0 < mk c) : c = 98 ∨ c = 99 ∨ c = 116 ∨ c = 117 ∨ c = 118 := by
  unfold mk at h
  by_cases q1 : c = 98
  · exact Or.inl q1
  by_cases q2 : c = 99
  · exact Or.inr (Or.inl q2)
  by_cases q3 : c = 116
  · exact Or.inr (Or.inr (Or.inl q3))
  by_cases q4 : c = 117
  · exact Or.inr (Or.inr (Or.inr (Or.inl q4)))
  by_cases q5 : c = 118
  · exact Or.inr (Or.inr (Or.inr (Or.inr q5)))
  rw [if_neg q1, if_neg q2, if_neg q3, if_neg q4, if_neg q5] at h
  exact absurd h (Nat.lt_irrefl 0)
theorem Gd_b {d : Sp} {v : Nat → Nat} : Gd 98 d v ↔ (d.T < 9 ∧ v 0 < d.N ∧ v 1 < d.N ∧ v 0 < v 1 ∧ ∀ t, t < d.T → ¬ (d.lo t = v 0 ∧ d.hi t = v 1)) := ⟨by
  rintro (⟨_, q⟩ | ⟨e, _⟩ | ⟨e, _⟩ | ⟨e, _⟩ | ⟨e, _⟩)
  · exact q
  all_goals exact absurd e (by decide), fun q => Or.inl ⟨rfl, q⟩⟩
theorem Gd_c {d : Sp} {v : Nat → Nat} : Gd 99 d v ↔ (v 0 < d.T ∧ v 1 < d.z (d.lo (v 0)) ∧ v 2 < d.z (d.hi (v 0))) := ⟨by
  rintro (⟨e, _⟩ | ⟨_, q⟩ | ⟨e, _⟩ | ⟨e, _⟩ | ⟨e, _⟩)
  · exact absurd e (by decide)
  · exact q
  all_goals exact absurd e (by decide), fun q => Or.inr (Or.inl ⟨rfl, q⟩)⟩
theorem Gd_t {d : Sp} {v : Nat → Nat} : Gd 116 d v ↔ 1 ≤ v 0 := ⟨by
  rintro (⟨e, _⟩ | ⟨e, _⟩ | ⟨_, q⟩ | ⟨e, _⟩ | ⟨e, _⟩)
  · exact absurd e (by decide)
  · exact absurd e (by decide)
  · exact q
  all_goals exact absurd e (by decide), fun q => Or.inr (Or.inr (Or.inl ⟨rfl, q⟩))⟩
theorem Gd_u {d : Sp} {v : Nat → Nat} : Gd 117 d v ↔ (v 0 < d.N ∧ v 1 < d.z (v 0)) := ⟨by
  rintro (⟨e, _⟩ | ⟨e, _⟩ | ⟨e, _⟩ | ⟨_, q⟩ | ⟨e, _⟩)
  · exact absurd e (by decide)
  · exact absurd e (by decide)
  · exact absurd e (by decide)
  · exact q
  · exact absurd e (by decide), fun q => Or.inr (Or.inr (Or.inr (Or.inl ⟨rfl, q⟩)))⟩
theorem Gd_v {d : Sp} {v : Nat → Nat} : Gd 118 d v ↔ (d.N < 6 ∧ 2 ≤ v 0 ∧ v 0 ≤ 4) := ⟨by
  rintro (⟨e, _⟩ | ⟨e, _⟩ | ⟨e, _⟩ | ⟨e, _⟩ | ⟨_, q⟩)
  · exact absurd e (by decide)
  · exact absurd e (by decide)
  · exact absurd e (by decide)
  · exact absurd e (by decide)
  · exact q, fun q => Or.inr (Or.inr (Or.inr (Or.inr ⟨rfl, q⟩)))⟩
section PRe
variable {L : Nat → Nat} {to ro co : Nat} {μ : Mem} {n : Nat} {x : Nat → Nat} {d : Sp} {g v : Nat → Nat}
theorem c_tell (hP : PS d g) (hL : LC L co) (hLr : L (ro + 1 + 1) = 4) (hK : KC co μ d g) {c : Nat} (hm : 0 < mk c) (hv : ∀ k, v k ≤ 99) (hnum : ∀ k, k < mk c → μ (ro + 1 + 1) k = nI (v k)) (hsp : Gd c d v → PS (dN c d v) (gN c d g v)) : ∃ μ', FrC co μ' μ ∧ ((fX2_tell L ro co (nI c) μ = some (1, μ') ∧ Gd c d v ∧ KC co μ' (dN c d v) (gN c d g v)) ∨ (fX2_tell L ro co (nI c) μ = some (0, μ') ∧ ¬ Gd c d v)) := by
  have hd := hP.1
  have r0 : fX3_get L (ro + 1) (0 : Int32) μ = some (μ (ro + 1 + 1) 0, μ) := rget (k := 0) hLr (by decide) (by decide)
  have r1 : fX3_get L (ro + 1) (1 : Int32) μ = some (μ (ro + 1 + 1) 1, μ) := rget (k := 1) hLr (by decide) (by decide)
  have r2 : fX3_get L (ro + 1) (2 : Int32) μ = some (μ (ro + 1 + 1) 2, μ) := rget (k := 2) hLr (by decide) (by decide)
  have r3 : fX3_get L (ro + 1) (3 : Int32) μ = some (μ (ro + 1 + 1) 3, μ) := rget (k := 3) hLr (by decide) (by decide)
  have z1 : ∀ μ' : Mem, zr 1 μ' = some (1, μ') := fun _ => rfl
  have z0 : ∀ μ' : Mem, zr 0 μ' = some (0, μ') := fun _ => rfl
  unfold fX2_tell
  rw [r0, bd_s, r1, bd_s, r2, bd_s, r3]
  rcases mk_c hm with rfl | rfl | rfl | rfl | rfl
  · rw [if_pos (by decide), hnum 0 (by decide), hnum 1 (by decide), hnum 2 (by decide)]
    obtain ⟨μ', f, h⟩ := c_addTable (w := v 2) hP hL hK (hv 0) (hv 1) (fun q => (hsp (Gd_b.mpr q)).1)
    refine ⟨μ', f, ?_⟩
    rw [Gd_b]
    rcases h with ⟨e, h1, h2⟩ | ⟨e, h1⟩
    · rw [e, bd_s, z1]
      exact Or.inl ⟨rfl, h1, h2⟩
    · rw [e, bd_s, z0]
      exact Or.inr ⟨rfl, h1⟩
  · rw [if_neg (by decide), if_pos (by decide), bd_s, hnum 0 (by decide), hnum 1 (by decide), hnum 2 (by decide), hnum 3 (by decide)]
    obtain ⟨μ', f, h⟩ := c_tellPair (w := v 3) hd hL hK (hv 0) (hv 1) (hv 2)
    refine ⟨μ', f, ?_⟩
    rw [Gd_c]
    rcases h with ⟨e, h1, h2⟩ | ⟨e, h1⟩
    · rw [e, bd_s, z1]
      exact Or.inl ⟨rfl, h1, h2⟩
    · rw [e, bd_s, z0]
      exact Or.inr ⟨rfl, h1⟩
  · rw [if_neg (by decide), if_neg (by decide), if_pos (by decide), hnum 0 (by decide)]
    obtain ⟨μ', f, h⟩ := c_tellTop (L := L) hK (hv 0)
    refine ⟨μ', f, ?_⟩
    rw [Gd_t]
    rcases h with ⟨e, h1, h2⟩ | ⟨e, h1⟩
    · rw [e, bd_s, z1]
      exact Or.inl ⟨rfl, h1, h2⟩
    · rw [e, bd_s, z0]
      exact Or.inr ⟨rfl, h1⟩
  · rw [if_neg (by decide), if_neg (by decide), if_neg (by decide), if_pos (by decide), hnum 0 (by decide), hnum 1 (by decide), hnum 2 (by decide)]
    obtain ⟨μ', f, h⟩ := c_tellSingle (w := v 2) hd hL hK (hv 0) (hv 1)
    refine ⟨μ', f, ?_⟩
    rw [Gd_u]
    rcases h with ⟨e, h1, h2⟩ | ⟨e, h1⟩
    · rw [e, bd_s, z1]
      exact Or.inl ⟨rfl, h1, h2⟩
    · rw [e, bd_s, z0]
      exact Or.inr ⟨rfl, h1⟩
  · rw [if_neg (by decide), if_neg (by decide), if_neg (by decide), if_neg (by decide), if_pos (by decide), hnum 0 (by decide)]
    obtain ⟨μ', f, h⟩ := c_addName hd hL hK (hv 0)
    refine ⟨μ', f, ?_⟩
    rw [Gd_v]
    rcases h with ⟨e, h1, h2⟩ | ⟨e, h1⟩
    · rw [e, bd_s, z1]
      exact Or.inl ⟨rfl, h1, h2⟩
    · rw [e, bd_s, z0]
      exact Or.inr ⟨rfl, h1⟩
theorem c_numbersOf (c : Nat) (hc : c < 2 ^ 31) : fX2_numbersOf L (nI c) μ = some (nI (mk c), μ) := by
  have e : ∀ k : Nat, k < 2 ^ 31 → (nI c = nI k) = (c = k) := fun k hk => neq hc hk
  unfold fX2_numbersOf mk
  rw [show (98 : Int32) = nI 98 from rfl, show (99 : Int32) = nI 99 from rfl, show (116 : Int32) = nI 116 from rfl, show (117 : Int32) = nI 117 from rfl, show (118 : Int32) = nI 118 from rfl]
  simp only [e 98 (by decide), e 99 (by decide), e 116 (by decide), e 117 (by decide), e 118 (by decide)]
  split
  · rfl
  · split
    · rfl
    · split
      · rfl
      · split
        · rfl
        · split <;> rfl
theorem c_readItem (hP : PS d g) (hL : LC L co) (hLt : L (to + 1 + 1) = 200) (hLr : L (ro + 1 + 1) = 4) (hto : to + 2 < ro) (hro : ro + 2 < co) (hT : KT to μ n x) (hn : n ≤ 200) (hx : ∀ j, j < n → 32 ≤ x j ∧ x j ≤ 126) (hK : KC co μ d g) {p : Nat} (hp : p < n) (hpl : μ ro 1 = nI p) :
    ∃ μ', FrA ro co μ' μ ∧ ((fX2_readItem L ro to co μ = some (1, μ') ∧ Ok n x d p ∧ KC co μ' (dN (x p) d (vs n x (p + 1))) (gN (x p) d g (vs n x (p + 1))) ∧ μ' ro 1 = nI (qs n x (p + 1) (mk (x p)))) ∨ (fX2_readItem L ro to co μ = some (0, μ') ∧ ¬ Ok n x d p)) := by
  have hxp := hx p hp
  have hml := mk_le (x p)
  unfold fX2_readItem
  rw [hpl, c_letterAt hLt hT hn (by omega), bd_s, show lc n x p = nI (x p) from if_pos hp, hpl, nI_1, pu_s, c_numbersOf _ (by omega), bd_s]
  have hF1 : FrA ro co (up μ ro 1 (nI (p + 1))) μ := fun x a _ _ _ _ _ _ => up_ne a
  by_cases q0 : mk (x p) = 0
  · rw [q0, if_pos (by decide)]
    exact ⟨_, hF1, Or.inr ⟨rfl, fun q => mk_0 q0 _ _ q.2⟩⟩
  · rw [if_neg (nI_nle (by omega) (by omega))]
    have hT1 : KT to (up μ ro 1 (nI (p + 1))) n x := ⟨by rw [up_ne (by omega)]; exact hT.1, fun j hj => by rw [up_ne (by omega)]; exact hT.2 j hj⟩
    obtain ⟨μ1, f1, h1⟩ := c_readNumbers hLt hLr hto hT1 hn hx (s := p + 1) (m := mk (x p)) (by omega) hml (up_aa _ _ _ _)
    have hF2 : FrA ro co μ1 μ := fun x a b c d e f g => by rw [f1 x a b, up_ne a]
    rcases h1 with ⟨e, h1⟩ | ⟨e, h1, h2, h3⟩
    · rw [e, bd_s, if_pos rfl]
      exact ⟨μ1, hF2, Or.inr ⟨rfl, fun q => h1 q.1⟩⟩
    · rw [e, bd_s, if_neg (by decide)]
      have hK1 : KC co μ1 d g := ⟨hK.1.of (by rw [f1 _ (by omega) (by omega), up_ne (by omega)]) (by rw [f1 _ (by omega) (by omega), up_ne (by omega)]) (by rw [f1 _ (by omega) (by omega), up_ne (by omega)]) (by rw [f1 _ (by omega) (by omega), up_ne (by omega)]), fun k hk => by rw [f1 _ (by omega) (by omega), up_ne (by omega)]; exact hK.2 k hk⟩
      obtain ⟨μ2, f2, h4⟩ := c_tell hP hL hLr hK1 (c := x p) (v := vs n x (p + 1)) (by omega) (fun k => nvl_le _ _ _) h3 (fun q => PS_step hP q)
      have hF3 : FrA ro co μ2 μ := fun x a b c d e f g => by rw [f2 x c d e f g]; exact hF2 x a b c d e f g
      rcases h4 with ⟨e4, h5, h6⟩ | ⟨e4, h5⟩
      · rw [e4, bd_s, if_neg (by decide)]
        refine ⟨μ2, hF3, Or.inl ⟨rfl, ⟨h1, h5⟩, h6, ?_⟩⟩
        rw [f2 ro (by omega) (by omega) (by omega) (by omega) (by omega)]
        exact h2
      · rw [e4, bd_s, if_pos rfl]
        exact ⟨μ2, hF3, Or.inr ⟨rfl, fun q => h5 q.2⟩⟩
theorem c_keepToTop (hd : d.ok) (hL : LC L co) (hP : PS d g) (hK : KC co μ d g) : ∃ μ', fX0_keepToTop L co μ = some μ' ∧ (∀ x, x ≠ co + 7 + 1 → μ' x = μ x) ∧ ∀ k, k ≤ 168 → μ' (co + 7 + 1) (cx k) = nI (min d.tp (g k)) := by
  have htp := hd.2.2.2.2.2
  unfold fX0_keepToTop
  refine Exists.elim (lpI (fun k a μ => fX0_keepToTop_2 L co k (nI a) μ) (fun μ => some μ) (fun a μ' => (∀ x, x ≠ co + 7 + 1 → μ' x = μ x) ∧ (∀ j, j < a → μ' (co + 7 + 1) j = (if μ (co + 7 + 1) j < nI d.tp then μ (co + 7 + 1) j else nI d.tp)) ∧ ∀ j, a ≤ j → μ' (co + 7 + 1) j = μ (co + 7 + 1) j) 169 ?_ ?_ 169 0 μ FU rfl (FU_gt (by decide)) ⟨fun _ _ => rfl, fun j h => by omega, fun _ _ => rfl⟩) ?_
  · intro k μ' _
    simp only [fX0_keepToTop_2]
    unfold fX0_keepToTop_2_b
    rw [if_pos (by decide)]
  · intro k a μ' ha ⟨a1, a2, a3⟩
    have hna : ¬ (169 : Int32) ≤ nI a := nI_ge (b := 169) (by omega) (by decide)
    have e6 : μ' co 6 = nI d.tp := by rw [a1 co (by omega)]; exact hK.1.2.2.1
    simp only [fX0_keepToTop_2]
    unfold fX0_keepToTop_2_b
    rw [if_neg hna, rget hL.2.2.2 (by omega) (by decide), bd_s, ltx_s, e6, rset hL.2.2.2 (by omega) (by decide), bv_s, ltx_s, nI_1, a3 a (Nat.le_refl _)]
    refine ⟨_, rfl, fun x hx => by rw [up_ne hx]; exact a1 x hx, fun j hj => ?_, fun j hj => ?_⟩
    · by_cases q : j = a
      · subst q
        rw [up_aa]
      · rw [up_an q]
        exact a2 j (by omega)
    · rw [up_an (by omega)]
      exact a3 j (by omega)
  · intro μ1 ⟨l1, l2, l3⟩
    refine ⟨μ1, l1, l2, fun k hk => ?_⟩
    have hg := hP.2.1 k hk
    have hc : cx k < 169 := by unfold cx; split <;> omega
    rw [l3.1 _ hc, hK.2 k hk, nif]
    simp only [nlt (show g k < 2 ^ 31 by omega) (show d.tp < 2 ^ 31 by omega)]
    congr 1
    split <;> omega
theorem r_clear {r m : Nat} (hL : L (r + 1) = m) (hm : m < 5000) : ∃ μ', fX3_clear L r μ = some μ' ∧ (∀ c, c ≠ r + 1 → μ' c = μ c) ∧ (∀ j, j < m → μ' (r + 1) j = 0) := by
  unfold fX3_clear
  refine Exists.elim (lpI (fun k a μ => fX3_clear_2 L r k (nI a) μ) (fun μ => some μ) (fun a μ' => (∀ c, c ≠ r + 1 → μ' c = μ c) ∧ (∀ j, j < a → μ' (r + 1) j = 0)) m ?_ ?_ m 0 μ FU (by omega) (FU_gt hm) ⟨fun _ _ => rfl, fun j h => by omega⟩) ?_
  · intro k μ' _
    simp only [fX3_clear_2]
    unfold fX3_clear_2_b
    rw [hL, if_pos (nI_le (Nat.le_refl _) (by omega))]
  · intro k a μ' ha ⟨a1, a2⟩
    simp only [fX3_clear_2]
    unfold fX3_clear_2_b
    rw [hL, if_neg (nI_ge ha (by omega)), ast_s (by omega) (by omega), ltx_s, nI_1]
    refine ⟨_, rfl, fun x hx => by rw [up_ne hx]; exact a1 x hx, fun j hj => ?_⟩
    by_cases q : j = a
    · subst q
      rw [up_aa]
    · rw [up_an q]
      exact a2 j (by omega)
  · intro μ1 ⟨l1, l2, l3⟩
    exact ⟨μ1, l1, l2, l3⟩
theorem c_clear (hL : LC L co) : ∃ μ', fX0_clear L co μ = some μ' ∧ FrC co μ' μ ∧ KC co μ' d0 (fun _ => 0) := by
  unfold fX0_clear
  simp only [pu_s]
  obtain ⟨μ1, c1, c2, c3⟩ := r_clear (μ := up (up (up μ co 4 0) co 5 0) co 6 20) hL.2.2.2 (by decide)
  rw [c1, bv_s]
  refine ⟨μ1, rfl, fun x a _ _ _ e => by rw [c2 x e, up_ne a, up_ne a, up_ne a], ⟨?_, ?_, ?_, fun i hi => absurd hi (Nat.not_lt_zero _), fun i hi => absurd hi (Nat.not_lt_zero _), fun i hi => absurd hi (Nat.not_lt_zero _)⟩, fun k hk => ?_⟩
  · rw [c2 co (by omega), up_an (by decide), up_an (by decide), up_aa]; rfl
  · rw [c2 co (by omega), up_an (by decide), up_aa]; rfl
  · rw [c2 co (by omega), up_aa]; rfl
  · rw [c3 _ (by unfold cx; split <;> omega)]; rfl
theorem c_readAll (hL : LC L co) (hLt : L (to + 1 + 1) = 200) (hLr : L (ro + 1 + 1) = 4) (hto : to + 2 < ro) (hro : ro + 2 < co) (hT : KT to μ n x) (hn : n ≤ 200) (hx : ∀ j, j < n → 32 ≤ x j ∧ x j ≤ 126) :
    ∃ μ', fX2_readAll L ro to co μ = some (fr (Rd n x (n + 1) 0 d0 (fun _ => 0)).1, μ') ∧ FrA ro co μ' μ ∧ ((Rd n x (n + 1) 0 d0 (fun _ => 0)).1 = none → CS co μ' (Rd n x (n + 1) 0 d0 (fun _ => 0)).2.1 ∧ ∀ k, k ≤ 168 → μ' (co + 7 + 1) (cx k) = nI (min (Rd n x (n + 1) 0 d0 (fun _ => 0)).2.1.tp ((Rd n x (n + 1) 0 d0 (fun _ => 0)).2.2 k))) := by
  have key : ∀ (r k p f : Nat) (d : Sp) (g : Nat → Nat) (μ' : Mem), n < p + r → p ≤ n → k ≤ p → r < f → PS d g → FrA ro co μ' μ → KC co μ' d g → μ' ro 1 = nI p →
      ∃ μ2, fX2_readAll_11 L ro to co f (nI k) μ' = some (fr (Rd n x r p d g).1, μ2) ∧ FrA ro co μ2 μ ∧ ((Rd n x r p d g).1 = none → CS co μ2 (Rd n x r p d g).2.1 ∧ ∀ k, k ≤ 168 → μ2 (co + 7 + 1) (cx k) = nI (min (Rd n x r p d g).2.1.tp ((Rd n x r p d g).2.2 k))) := by
    intro r
    induction r with
    | zero => intro k p f d g μ' h1 h2; omega
    | succ r ih =>
      intro k p f d g μ' h1 h2 h3 h4 hP hF hK hpl
      obtain ⟨f, rfl⟩ : ∃ j, f = j + 1 := ⟨f - 1, by omega⟩
      have hT1 : KT to μ' n x := ⟨by rw [hF _ (by omega) (by omega) (by omega) (by omega) (by omega) (by omega) (by omega)]; exact hT.1, fun j hj => by rw [hF _ (by omega) (by omega) (by omega) (by omega) (by omega) (by omega) (by omega)]; exact hT.2 j hj⟩
      simp only [fX2_readAll_11]
      unfold fX2_readAll_11_b fX6_length
      rw [bd_s, hT1.1, hpl, ltx_s]
      by_cases q : n ≤ p
      · have eR : Rd n x (r + 1) p d g = (none, d, g) := by unfold Rd; rw [if_pos q]
        have e53 : (if (200 : Int32) ≤ nI k then fX2_readAll_53 L ro to co μ' else if nI n ≤ nI p then fX2_readAll_53 L ro to co μ' else bd (fX2_readItem L ro to co μ') fun b6 μ5 => if b6 = 0 then some (nI p, μ5) else lt' (nI k + 1) fun a7 => fX2_readAll_11 L ro to co f a7 μ5) = fX2_readAll_53 L ro to co μ' := by
          rw [if_pos (nI_le q (by omega))]
          split <;> rfl
        rw [e53, eR]
        unfold fX2_readAll_53
        obtain ⟨μ2, t1, t2, t3⟩ := c_keepToTop hP.1 hL hP hK
        rw [t1, bv_s]
        refine ⟨μ2, rfl, fun x a b c d e f g => by rw [t2 x g]; exact hF x a b c d e f g, fun _ => ⟨hK.1.of (t2 _ (by omega)) (t2 _ (by omega)) (t2 _ (by omega)) (t2 _ (by omega)), t3⟩⟩
      · have h200 : ¬ (200 : Int32) ≤ nI k := nI_ge (b := 200) (by omega) (by decide)
        rw [if_neg h200, if_neg (nI_ge (by omega) (by omega))]
        obtain ⟨μ2, f2, h5⟩ := c_readItem hP hL hLt hLr hto hro hT1 hn hx hK (p := p) (by omega) hpl
        have hF2 : FrA ro co μ2 μ := fun x a b c d e f g => (f2 x a b c d e f g).trans (hF x a b c d e f g)
        rcases h5 with ⟨e, h6, h7, h8⟩ | ⟨e, h6⟩
        · have eR : Rd n x (r + 1) p d g = Rd n x r (qs n x (p + 1) (mk (x p))) (dN (x p) d (vs n x (p + 1))) (gN (x p) d g (vs n x (p + 1))) := by
            conv => lhs; unfold Rd
            rw [if_neg q, if_pos h6]
          have hq := qs_le n x (p + 1) (mk (x p))
          have hml := mk_le (x p)
          have hp' : qs n x (p + 1) (mk (x p)) ≤ n := by
            by_cases z : mk (x p) = 0
            · exact absurd h6.2 (mk_0 z _ _)
            · obtain ⟨m', hm'⟩ : ∃ m', mk (x p) = m' + 1 := ⟨mk (x p) - 1, by omega⟩
              have := (h6.1 m' (by omega)).2.1
              rw [hm']
              exact this
          rw [e, bd_s, if_neg (by decide), ltx_s, nI_1, eR]
          exact ih (k + 1) _ f _ _ μ2 (by omega) hp' (by omega) (by omega) (PS_step hP h6.2) hF2 h7 h8
        · have eR : Rd n x (r + 1) p d g = (some p, d, g) := by unfold Rd; rw [if_neg q, if_neg h6]
          rw [e, bd_s, if_pos rfl, eR]
          exact ⟨μ2, rfl, hF2, fun z => absurd z (by simp)⟩
  unfold fX2_readAll
  obtain ⟨μ1, c1, c2, c3⟩ := c_clear (μ := μ) hL
  rw [c1, bv_s, pu_s]
  exact key (n + 1) 0 0 FU d0 (fun _ => 0) (up μ1 ro 1 0) (by omega) (by omega) (Nat.le_refl _) (FU_gt (by omega)) PS0 (fun x a b c d e f g => by rw [up_ne a]; exact c2 x c d e f g) ⟨c3.1.of (up_ne (by omega)) (up_ne (by omega)) (up_ne (by omega)) (up_ne (by omega)), fun k hk => by rw [up_ne (by omega)]; exact c3.2 k hk⟩ (up_aa _ _ _ _)
end PRe
