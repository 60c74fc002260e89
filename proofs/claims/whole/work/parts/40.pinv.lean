/-! what class and reference hold alike -/
def CI (μ : Mem) (d : Sp) (g : Nat → Nat) (c : Nat) (h : Nat → Nat → Nat) (tv : Nat → Nat) (n : Nat) (x : Nat → Nat) : Prop :=
  CS 7 μ d ∧ Cg 7 μ d g ∧ (∃ s, HC 34 μ d c h s) ∧ (∀ i, i < d.N → μ 26 i = nI (tv i)) ∧ μ 1 1 = nI n ∧ ∀ j, j < n → μ 3 j = nI (x j)
def RI (μ : Mem) (d : Sp) (g : Nat → Nat) (c : Nat) (h : Nat → Nat → Nat) (tv : Nat → Nat) (n : Nat) (x : Nat → Nat) : Prop :=
  RS 56 μ d ∧ Rg 56 μ d g ∧ HR 56 μ d c h ∧ (∀ i, i < d.N → μ 61 i = nI (tv i)) ∧ μ 56 0 = nI n ∧ ∀ j, j < n → μ 57 j = nI (x j)
def PI (d : Sp) (g : Nat → Nat) (c : Nat) (h : Nat → Nat → Nat) (tv : Nat → Nat) (n : Nat) (x : Nat → Nat) : Prop :=
  d.ok ∧ 1 ≤ d.N ∧ gb d g ∧ (∀ j, j < c → gb d (h j)) ∧ (∀ i, i < d.N → tv i < d.z i) ∧ n ≤ 200 ∧ ∀ j, j < n → 32 ≤ x j ∧ x j ≤ 126
def Inv (μ : Mem) : Prop := ∃ d g c h tv n x, PI d g c h tv n x ∧ CI μ d g c h tv n x ∧ RI μ d g c h tv n x
theorem LC7 : LC LL 7 := ⟨rfl, rfl, rfl, rfl⟩
theorem LC16 : LC LL 16 := ⟨rfl, rfl, rfl, rfl⟩
theorem LS27 : LSw LL 27 := ⟨rfl, rfl, rfl⟩
theorem LH34 : LH LL 34 := ⟨rfl, by decide⟩
theorem LR56 : LR LL 56 := ⟨rfl, rfl, rfl, rfl, rfl, rfl, rfl, rfl, rfl, rfl, rfl, rfl, rfl, rfl, rfl, rfl⟩
def kc (x : Nat) : Prop := x = 1 ∨ x = 3 ∨ (7 ≤ x ∧ x ≤ 15) ∨ x = 26 ∨ (34 ≤ x ∧ x ≤ 47)
section PV
variable {μ μ' μ1 μ2 : Mem} {d : Sp} {g g' : Nat → Nat} {c : Nat} {h : Nat → Nat → Nat} {tv : Nat → Nat} {n : Nat} {x : Nat → Nat}
theorem CI.fr (H : CI μ d g c h tv n x) (hf : ∀ x, kc x → μ' x = μ x) : CI μ' d g c h tv n x := by
  obtain ⟨h1, h2, ⟨s, h3⟩, h4, h5, h6⟩ := H
  have e : ∀ x, 7 ≤ x → x ≤ 15 → μ' x = μ x := fun x a b => hf x (Or.inr (Or.inr (Or.inl ⟨a, b⟩)))
  have e2 : ∀ x, 34 ≤ x → x ≤ 47 → μ' x = μ x := fun x a b => hf x (Or.inr (Or.inr (Or.inr (Or.inr ⟨a, b⟩))))
  refine ⟨h1.of (e _ (by omega) (by omega)) (e _ (by omega) (by omega)) (e _ (by omega) (by omega)) (e _ (by omega) (by omega)), fun k hk => by rw [e _ (by omega) (by omega)]; exact h2 k hk, ⟨s, ?_⟩, fun i hi => by rw [hf 26 (Or.inr (Or.inr (Or.inr (Or.inl rfl))))]; exact h4 i hi, by rw [hf 1 (Or.inl rfl)]; exact h5, fun j hj => by rw [hf 3 (Or.inr (Or.inl rfl))]; exact h6 j hj⟩
  obtain ⟨a1, a2, a3, a4, a5⟩ := h3
  refine ⟨by rw [e2 _ (by omega) (by omega)]; exact a1, a2, by rw [e2 _ (by omega) (by omega)]; exact a3, a4, fun j hj k hk => ?_⟩
  have hr : rg s c j < 6 := by unfold rg; omega
  rw [e2 _ (by omega) (by omega)]
  exact a5 j hj k hk
theorem RI.fr (H : RI μ d g c h tv n x) (h0 : ∀ j, j = 0 ∨ j = 2 ∨ j = 4 ∨ j = 7 ∨ j = 11 → μ' 56 j = μ 56 j) (hf : ∀ x, 57 ≤ x → x ≤ 63 → μ' x = μ x) : RI μ' d g c h tv n x := by
  obtain ⟨⟨a1, a2, a3, a4, a5, a6⟩, h2, ⟨b1, b2, b3⟩, h4, h5, h6⟩ := H
  refine ⟨⟨?_, ?_, ?_, ?_, ?_, ?_⟩, ?_, ⟨?_, b2, ?_⟩, ?_, ?_, ?_⟩
  · rw [h0 2 (by omega)]; exact a1
  · rw [h0 4 (by omega)]; exact a2
  · rw [h0 7 (by omega)]; exact a3
  · intro i hi; rw [hf _ (by omega) (by omega)]; exact a4 i hi
  · intro i hi; rw [hf _ (by omega) (by omega)]; exact a5 i hi
  · intro i hi; rw [hf _ (by omega) (by omega)]; exact a6 i hi
  · intro k hk; rw [hf _ (by omega) (by omega)]; exact h2 k hk
  · rw [h0 11 (by omega)]; exact b1
  · intro j hj k hk; rw [hf _ (by omega) (by omega)]; exact b3 j hj k hk
  · intro i hi; rw [hf _ (by omega) (by omega)]; exact h4 i hi
  · rw [h0 0 (by omega)]; exact h5
  · intro i hi; rw [hf _ (by omega) (by omega)]; exact h6 i hi
theorem CI.fr56 (H : CI μ d g c h tv n x) (hf : ∀ x, x < 56 → μ' x = μ x) : CI μ' d g c h tv n x := H.fr (fun x hx => hf x (by unfold kc at hx; omega))
theorem RI.fr56 (H : RI μ d g c h tv n x) (hf : ∀ x, 56 ≤ x → μ' x = μ x) : RI μ' d g c h tv n x := H.fr (fun j _ => by rw [hf 56 (by omega)]) (fun x hx _ => hf x (by omega))
theorem mk0 {F G : Mem → Option (Int32 × Mem)} {r : Int32} (hI : Inv μ) (hF : F μ = some (r, μ)) (hG : G μ = some (r, μ)) : ∃ (r : Int32) (μ1 μ2 : Mem), F μ = some (r, μ1) ∧ G μ1 = some (r, μ2) ∧ Inv μ2 := ⟨r, μ, μ, hF, hG, hI⟩
theorem mkQ {F G : Mem → Option (Int32 × Mem)} {r : Int32} {d' : Sp} {c' : Nat} {h' : Nat → Nat → Nat} {tv' : Nat → Nat} {n' : Nat} {x' : Nat → Nat} (hR : RI μ d g c h tv n x) (hP : PI d' g' c' h' tv' n' x')
    (hF : ∃ μ1, F μ = some (r, μ1) ∧ CI μ1 d' g' c' h' tv' n' x' ∧ ∀ x, 56 ≤ x → μ1 x = μ x)
    (hG : ∀ μ1, RI μ1 d g c h tv n x → ∃ μ2, G μ1 = some (r, μ2) ∧ RI μ2 d' g' c' h' tv' n' x' ∧ ∀ x, x < 56 → μ2 x = μ1 x) : ∃ (r : Int32) (μ1 μ2 : Mem), F μ = some (r, μ1) ∧ G μ1 = some (r, μ2) ∧ Inv μ2 := by
  obtain ⟨μ1, f1, f2, f3⟩ := hF
  obtain ⟨μ2, g1, g2, g3⟩ := hG μ1 (hR.fr56 f3)
  exact ⟨r, μ1, μ2, f1, g1, d', g', c', h', tv', n', x', hP, f2.fr56 g3, g2⟩
theorem isIn_ne {y : Int32} {a b : Nat} (hb : b < 2 ^ 31) (H : ∀ L μ, fX9_isIn L y (nI a) (nI b) μ = some (0, μ)) {k : Nat} (h1 : a ≤ k) (h2 : k ≤ b) : ¬ y = nI k := by
  rintro rfl
  have := H LL (fun _ _ => 0)
  unfold fX9_isIn at this
  rw [if_neg (nI_nlt h1 (by omega)), if_neg (nI_nlt h2 hb)] at this
  exact absurd (congrArg (fun z => z.map Prod.fst) this) (by simp)
theorem Q4 : Q_4 Inv := by
  intro μ a1 a2 hI
  obtain ⟨d, g, c, h, tv, n, x, ⟨hd, hN, hb, hP⟩, ⟨hC, hg, hC3⟩, ⟨hR, hr, hR3⟩⟩ := id hI
  by_cases h1 : Ix a1 d.N
  · obtain ⟨i, hi, rfl⟩ := h1
    rcases isIn_c a2 (a := 0) (b := 3) (by decide) (by decide) with q | ⟨k, _, hk, rfl, q⟩
    · refine mk0 (r := -1) hI ?_ ?_
      · unfold fX8_name
        simp only [Nat.zero_add]
        rw [c_hasName_y hd hC hi, bd_s, if_neg (by decide), if_neg (show ¬ a2 = (0 : Int32) from isIn_ne (k := 0) (by decide) q (by decide) (by decide)), if_neg (show ¬ a2 = (1 : Int32) from isIn_ne (k := 1) (by decide) q (by decide) (by decide)), if_neg (show ¬ a2 = (2 : Int32) from isIn_ne (k := 2) (by decide) q (by decide) (by decide)), if_neg (show ¬ a2 = (3 : Int32) from isIn_ne (k := 3) (by decide) q (by decide) (by decide))]
      · unfold fX9_name
        rw [q_isName_y hd hR hi, bd_s, if_neg (by decide), show fX9_isIn LL a2 0 3 μ = _ from q LL μ, bd_s, if_pos rfl]
    · have e1 : fX9_isIn LL (nI k) 0 3 μ = _ := q LL μ
      rcases (show k = 0 ∨ k = 1 ∨ k = 2 ∨ k = 3 by omega) with rfl | rfl | rfl | rfl
      · refine mk0 (r := nI (d.z i)) hI ?_ ?_
        · unfold fX8_name
          simp only [Nat.zero_add]
          rw [c_hasName_y hd hC hi, bd_s, if_neg (by decide), if_pos (by decide), c_valuesOf hd LC7 hC hi, bd_s]
        · unfold fX9_name fX9_name_28
          rw [q_isName_y hd hR hi, bd_s, if_neg (by decide), e1, bd_s, if_neg (by decide), if_pos (by decide), if_pos (by decide), q_many hd LR56 hR hi]
      · refine mk0 (r := bi (onT d i) d.T) hI ?_ ?_
        · unfold fX8_name
          simp only [Nat.zero_add]
          rw [c_hasName_y hd hC hi, bd_s, if_neg (by decide), if_neg (by decide), if_pos (by decide), c_tablesOf hd LC7 hC hi, bd_s]
        · unfold fX9_name
          rw [q_isName_y hd hR hi, bd_s, if_neg (by decide), e1, bd_s, if_neg (by decide), if_neg (by decide), if_neg (by decide), if_pos (by decide), q_name1 hd LR56 hR hi]
      · refine mk0 (r := bi (shB d g i) (d.z i)) hI ?_ ?_
        · unfold fX8_name
          simp only [Nat.zero_add]
          rw [c_hasName_y hd hC hi, bd_s, if_neg (by decide), if_neg (by decide), if_neg (by decide), if_pos (by decide), c_shutOf hd LC7 hC hg hb hi, bd_s]
        · unfold fX9_name
          rw [q_isName_y hd hR hi, bd_s, if_neg (by decide), e1, bd_s, if_neg (by decide), if_neg (by decide), if_neg (by decide), if_neg (by decide), q_name2 hd LR56 hR hr hb hi]
      · refine mk0 (r := nI (mn (fun a => g (si i a)) d.tp (d.z i))) hI ?_ ?_
        · unfold fX8_name
          simp only [Nat.zero_add]
          rw [c_hasName_y hd hC hi, bd_s, if_neg (by decide), if_neg (by decide), if_neg (by decide), if_neg (by decide), if_pos (by decide), c_leastSingle hd LC7 hC hg hb hi, bd_s]
        · unfold fX9_name fX9_name_28
          rw [q_isName_y hd hR hi, bd_s, if_neg (by decide), e1, bd_s, if_neg (by decide), if_neg (by decide), if_pos (by decide), if_neg (by decide), q_leastSingle hd LR56 hR hr hb hi, bd_s]
  · refine mk0 (r := -1) hI ?_ ?_
    · unfold fX8_name
      simp only [Nat.zero_add]
      rw [c_hasName_n hd hC h1, bd_s, if_pos rfl]
    · unfold fX9_name
      rw [q_isName_n hd hR h1, bd_s, if_pos rfl]
theorem Q5 : Q_5 Inv := by
  intro μ a1 a2 hI
  obtain ⟨d, g, c, h, tv, n, x, ⟨hd, hN, hb, hP⟩, ⟨hC, hg, hC3⟩, ⟨hR, hr, hR3⟩⟩ := id hI
  by_cases h1 : Vx d a1 a2
  · obtain ⟨i, a, hi, ha, rfl, rfl⟩ := h1
    refine mk0 (r := nI (g (si i a))) hI ?_ ?_
    · unfold fX8_single
      simp only [Nat.zero_add]
      rw [c_hasValue_y hd LC7 hC hi ha, bd_s, if_neg (by decide), c_single hd LC7 hg hi ha, bd_s]
    · unfold fX9_single
      rw [q_isValue_y hd LR56 hR hi ha, bd_s, if_neg (by decide), q_si, q_get hd LR56 hr (Sp.Us hi ha)]
  · refine mk0 (r := -1) hI ?_ ?_
    · unfold fX8_single
      simp only [Nat.zero_add]
      rw [c_hasValue_n hd LC7 hC h1, bd_s, if_pos rfl]
    · unfold fX9_single
      rw [q_isValue_n hd LR56 hR h1, bd_s, if_pos rfl]
theorem Q6 : Q_6 Inv := by
  intro μ a1 a2 hI
  obtain ⟨d, g, c, h, tv, n, x, ⟨hd, hN, hb, hP⟩, ⟨hC, hg, hC3⟩, ⟨hR, hr, hR3⟩⟩ := id hI
  by_cases h1 : Ix a1 d.T
  · obtain ⟨t, ht, rfl⟩ := h1
    rcases isIn_c a2 (a := 0) (b := 3) (by decide) (by decide) with q | ⟨k, _, hk, rfl, q⟩
    · refine mk0 (r := -1) hI ?_ ?_
      · unfold fX8_table
        simp only [Nat.zero_add]
        rw [c_hasTable_y hd hC ht, bd_s, if_neg (by decide), if_neg (show ¬ a2 = (0 : Int32) from isIn_ne (k := 0) (by decide) q (by decide) (by decide)), if_neg (show ¬ a2 = (1 : Int32) from isIn_ne (k := 1) (by decide) q (by decide) (by decide)), if_neg (show ¬ a2 = (2 : Int32) from isIn_ne (k := 2) (by decide) q (by decide) (by decide)), if_neg (show ¬ a2 = (3 : Int32) from isIn_ne (k := 3) (by decide) q (by decide) (by decide))]
      · unfold fX9_table
        rw [q_isTable_y hd hR ht, bd_s, if_neg (by decide), show fX9_isIn LL a2 0 3 μ = _ from q LL μ, bd_s, if_pos rfl]
    · have e1 : fX9_isIn LL (nI k) 0 3 μ = _ := q LL μ
      rcases (show k = 0 ∨ k = 1 ∨ k = 2 ∨ k = 3 by omega) with rfl | rfl | rfl | rfl
      · refine mk0 (r := nI (d.lo t)) hI ?_ ?_
        · unfold fX8_table
          simp only [Nat.zero_add]
          rw [c_hasTable_y hd hC ht, bd_s, if_neg (by decide), if_pos (by decide), c_nameOn0 hd LC7 hC ht, bd_s]
        · unfold fX9_table
          rw [q_isTable_y hd hR ht, bd_s, if_neg (by decide), e1, bd_s, if_neg (by decide), if_neg (by decide), q_nameOf hd LR56 hR (by decide) ht, bd_s]
          rfl
      · refine mk0 (r := nI (d.hi t)) hI ?_ ?_
        · unfold fX8_table
          simp only [Nat.zero_add]
          rw [c_hasTable_y hd hC ht, bd_s, if_neg (by decide), if_neg (by decide), if_pos (by decide), c_nameOn1 hd LC7 hC ht, bd_s]
        · unfold fX9_table
          rw [q_isTable_y hd hR ht, bd_s, if_neg (by decide), e1, bd_s, if_neg (by decide), if_neg (by decide), q_nameOf hd LR56 hR (by decide) ht, bd_s]
          rfl
      · refine mk0 (r := nI (lT d g t (d.z (d.lo t)))) hI ?_ ?_
        · unfold fX8_table
          simp only [Nat.zero_add]
          rw [c_hasTable_y hd hC ht, bd_s, if_neg (by decide), if_neg (by decide), if_neg (by decide), if_pos (by decide), c_leastOfTable hd LC7 hC hg hb ht, bd_s, lT_e]
        · unfold fX9_table
          rw [q_isTable_y hd hR ht, bd_s, if_neg (by decide), e1, bd_s, if_neg (by decide), if_pos (by decide), ltx_s, hR.2.2.1, q_table42 hd LR56 hR hr hb ht, if_pos (by decide)]
      · refine mk0 (r := nI (gT d g t (d.z (d.lo t)))) hI ?_ ?_
        · unfold fX8_table
          simp only [Nat.zero_add]
          rw [c_hasTable_y hd hC ht, bd_s, if_neg (by decide), if_neg (by decide), if_neg (by decide), if_neg (by decide), if_pos (by decide), c_greatest hd LC7 hC hg hb ht, bd_s]
        · unfold fX9_table
          rw [q_isTable_y hd hR ht, bd_s, if_neg (by decide), e1, bd_s, if_neg (by decide), if_pos (by decide), ltx_s, hR.2.2.1, q_table42 hd LR56 hR hr hb ht, if_neg (by decide)]
  · refine mk0 (r := -1) hI ?_ ?_
    · unfold fX8_table
      simp only [Nat.zero_add]
      rw [c_hasTable_n hd hC h1, bd_s, if_pos rfl]
    · unfold fX9_table
      rw [q_isTable_n hd hR h1, bd_s, if_pos rfl]
theorem Q7 : Q_7 Inv := by
  intro μ a1 a2 a3 hI
  obtain ⟨d, g, c, h, tv, n, x, ⟨hd, hN, hb, hP⟩, ⟨hC, hg, hC3⟩, ⟨hR, hr, hR3⟩⟩ := id hI
  by_cases h1 : Px d a1 a2 a3
  · obtain ⟨t, a, b, ht, ha, hb2, rfl, rfl, rfl⟩ := h1
    have hl := Sp.hl hd ht
    refine mk0 (r := nI (g (pi t a b))) hI ?_ ?_
    · unfold fX8_pair
      simp only [Nat.zero_add]
      rw [c_hasPair_y hd LC7 hC ht ha hb2, bd_s, if_neg (by decide), c_pair hd LC7 hg ht ha hb2, bd_s]
    · unfold fX9_pair
      rw [q_isTable_y hd hR ht, bd_s, if_neg (by decide), q_lo hd LR56 hR ht, q_isValue_y hd LR56 hR hl.1 ha, bd_s, if_neg (by decide), q_hi hd LR56 hR ht, q_isValue_y hd LR56 hR hl.2.1 hb2, bd_s, if_neg (by decide), show fX9_pairAt LL (nI t) 0 (nI a) (nI b) μ = some (nI (pk t 0 a b), μ) from q_pairAt (s := 0) (by decide), bd_s, q_get hd LR56 hr (show d.U (pk t 0 a b) from Sp.Up ht ha hb2)]
      rfl
  · refine mk0 (r := -1) hI ?_ ?_
    · unfold fX8_pair
      simp only [Nat.zero_add]
      rw [c_hasPair_n hd LC7 hC h1, bd_s, if_pos rfl]
    · unfold fX9_pair
      by_cases h2 : Ix a1 d.T
      · obtain ⟨t, ht, rfl⟩ := h2
        have hl := Sp.hl hd ht
        have hN6 := hd.1
        rw [q_isTable_y hd hR ht, bd_s, if_neg (by decide), q_lo hd LR56 hR ht]
        by_cases h3 : Ix a2 (d.z (d.lo t))
        · obtain ⟨a, ha, rfl⟩ := h3
          rw [q_isValue_y hd LR56 hR hl.1 ha, bd_s, if_neg (by decide), q_hi hd LR56 hR ht, q_isValue_n hd LR56 hR (fun ⟨i, b, hi, hb2, e1, e2⟩ => h1 ⟨t, a, b, ht, ha, by rw [(nI_eq (by omega) (by omega)).mp e1]; exact hb2, rfl, rfl, e2⟩), bd_s, if_pos rfl]
        · rw [q_isValue_n hd LR56 hR (fun ⟨i, b, hi, hb2, e1, e2⟩ => h3 ⟨b, by rw [(nI_eq (by omega) (by omega)).mp e1]; exact hb2, e2⟩), bd_s, if_pos rfl]
      · rw [q_isTable_n hd hR h2, bd_s, if_pos rfl]
theorem Q24 : Q_24 Inv := by
  intro μ a1 hI
  obtain ⟨d, g, c, h, tv, n, x, ⟨hd, hN, hb, hP⟩, ⟨hC, hg, ⟨s, hC3⟩, hC4, hC5, hC6⟩, ⟨hR, hr, hR3, hR4, hR5, hR6⟩⟩ := id hI
  unfold fX8_count fX9_count fX0_names fX0_tables fX0_top fX1_size fX6_length
  simp only [Nat.zero_add, bd_s]
  by_cases k0 : a1 = 0
  · exact ⟨nI d.N, μ, μ, by rw [if_pos k0, hC.1], by rw [if_pos k0, hR.1], hI⟩
  by_cases k1 : a1 = 1
  · exact ⟨nI d.T, μ, μ, by rw [if_neg k0, if_pos k1, hC.2.1], by rw [if_neg k0, if_pos k1, hR.2.1], hI⟩
  by_cases k2 : a1 = 2
  · exact ⟨nI d.tp, μ, μ, by rw [if_neg k0, if_neg k1, if_pos k2, hC.2.2.1], by rw [if_neg k0, if_neg k1, if_pos k2, hR.2.2.1], hI⟩
  by_cases k3 : a1 = 3
  · exact ⟨nI (g 168), μ, μ, by rw [if_neg k0, if_neg k1, if_neg k2, if_pos k3, c_constant hd LC7 hg, bd_s], by rw [if_neg k0, if_neg k1, if_neg k2, if_pos k3, show (168 : Int32) = nI 168 from rfl, q_get hd LR56 hr Sp.Uc], hI⟩
  by_cases k4 : a1 = 4
  · exact ⟨nI (sb d g d.N), μ, μ, by rw [if_neg k0, if_neg k1, if_neg k2, if_neg k3, if_pos k4, c_shutInAll hd LC7 hC hg hb, bd_s], by rw [if_neg k0, if_neg k1, if_neg k2, if_neg k3, if_pos k4, q_count4 hd LR56 hR hr hb], hI⟩
  by_cases k5 : a1 = 5
  · exact ⟨nI c, μ, μ, by rw [if_neg k0, if_neg k1, if_neg k2, if_neg k3, if_neg k4, if_pos k5, hC3.2.2.1], by rw [if_neg k0, if_neg k1, if_neg k2, if_neg k3, if_neg k4, if_pos k5, hR3.1], hI⟩
  by_cases k6 : a1 = 6
  · exact ⟨nI n, μ, μ, by rw [if_neg k0, if_neg k1, if_neg k2, if_neg k3, if_neg k4, if_neg k5, if_pos k6, hC5], by rw [if_neg k0, if_neg k1, if_neg k2, if_neg k3, if_neg k4, if_neg k5, if_pos k6, hR5], hI⟩
  · exact ⟨-1, μ, μ, by rw [if_neg k0, if_neg k1, if_neg k2, if_neg k3, if_neg k4, if_neg k5, if_neg k6], by rw [if_neg k0, if_neg k1, if_neg k2, if_neg k3, if_neg k4, if_neg k5, if_neg k6], hI⟩
end PV
