/-! the class's search -/
theorem up_g (μ : Mem) (c j k : Nat) (v : Int32) : up μ c j v c k = if k = j then v else μ c k := by
  by_cases q : k = j
  · rw [if_pos q, q, up_aa]
  · rw [if_neg q, up_an q]
def Sk (w : Nat) (μ μ0 : Mem) (d : Sp) (vi va vo : Int32) : Prop := (∀ x, x ≠ w → x ≠ w + 1 + 1 → x ≠ w + 3 + 1 → μ x = μ0 x) ∧ μ w 2 = vi ∧ μ w 3 = va ∧ μ w 4 = vo ∧ μ w 5 = nI d.tp
def Sr (w : Nat) (μ : Mem) (d : Sp) (s : S6) : Prop := μ w 6 = nI s.1 ∧ μ w 7 = nI s.2.1 ∧ μ w 8 = nI s.2.2.1 ∧ μ w 9 = nI s.2.2.2.1 ∧ μ w 10 = s.2.2.2.2.1 ∧ (0 < s.2.2.1 → ∀ i, i < d.N → μ (w + 3 + 1) i = nI (s.2.2.2.2.2 i))
section PSe
variable {L : Nat → Nat} {o w : Nat} {μ μ0 : Mem} {d : Sp} {g ch : Nat → Nat} {vi va vo : Int32} {wo fi fa : Nat}
theorem c_bits (hd : d.ok) (hLc : L (w + 1 + 1) = 6) (hch : ∀ i, i < d.N → μ (w + 1 + 1) i = nI (ch i)) : fX4_chosenBits L w (nI d.N) μ = some (bt ch d.N, μ) := by
  have hN := hd.1
  unfold fX4_chosenBits
  have key := lpC (fun k i => fX4_chosenBits_4 L w k (nI d.N) (bt ch i) (nI i) μ) (some (bt ch d.N, μ)) d.N (fun k => by
      simp only [fX4_chosenBits_4]
      unfold fX4_chosenBits_4_b
      rw [if_pos (nI_le (Nat.le_refl _) (by omega))]) (fun k i hi => by
      simp only [fX4_chosenBits_4]
      unfold fX4_chosenBits_4_b
      rw [if_neg (nI_ge hi (by omega)), rget hLc (by omega) (by decide), bd_s, hch i hi, q_si, ltx_s, ltx_s, nI_1]
      rfl) d.N 0 FU (by omega) (FU_gt (by omega))
  exact key
theorem c_note (hd : d.ok) (hwo : o + 8 < w) (hLc : L (w + 1 + 1) = 6) (hLf : L (w + 3 + 1) = 6) (hC0 : CS o μ0 d) (hK : Sk w μ μ0 d vi va vo) {s : S6} (hS : Sr w μ d s) (hJ : J6 d s) (hch : ∀ i, i < d.N → μ (w + 1 + 1) i = nI (ch i)) {tot : Nat} (ht : tot < d.tp) : ∃ μ', fX4_note L w o (nI tot) μ = some μ' ∧ Sk w μ' μ0 d vi va vo ∧ Sr w μ' d (nt d ch tot s) ∧ μ' (w + 1 + 1) = μ (w + 1 + 1) := by
  have hN := hd.1
  have htp := hd.2.2.2.2.2
  obtain ⟨hK0, hK2, hK3, hK4, hK5⟩ := hK
  obtain ⟨s6, s7, s8, s9, s10, sf⟩ := hS
  obtain ⟨j1, j2, j3, j4, j5⟩ := hJ
  have hC4 : μ o 4 = nI d.N := by rw [hK0 o (by omega) (by omega) (by omega)]; exact hC0.1
  unfold fX4_note fX0_names
  rw [bd_s, hC4, c_bits hd hLc hch, bd_s, pu_s]
  unfold nt
  simp only [up_g, s6, s7, s8, s9, s10, reduceIte, Nat.reduceEqDiff, nI_1]
  by_cases c1 : tot < s.1
  · rw [if_neg (nI_ge c1 (by omega)), if_pos c1]
    simp only [pu_s, up_g, s6, reduceIte, Nat.reduceEqDiff]
    obtain ⟨μ', t1, t2, t3, _⟩ := r_take (L := L) (μ := up (up (up (up (up μ w 9 (nI (s.2.2.2.1 + 1))) w 7 (nI s.1)) w 6 (nI tot)) w 8 1) w 10 (bt ch d.N)) (r := w + 3) (r1 := w + 1) hLf hLc (by decide) (by omega)
    refine ⟨μ', ?_, ⟨fun x q1 q2 q3 => ?_, ?_, ?_, ?_, ?_⟩, ⟨?_, ?_, ?_, ?_, ?_, fun _ i hi => ?_⟩, ?_⟩
    · rw [t1, bv_s]
    · rw [t2 x q3, up_ne q1, up_ne q1, up_ne q1, up_ne q1, up_ne q1]; exact hK0 x q1 q2 q3
    · rw [t2 w (by omega)]; simp only [up_g, reduceIte, Nat.reduceEqDiff]; exact hK2
    · rw [t2 w (by omega)]; simp only [up_g, reduceIte, Nat.reduceEqDiff]; exact hK3
    · rw [t2 w (by omega)]; simp only [up_g, reduceIte, Nat.reduceEqDiff]; exact hK4
    · rw [t2 w (by omega)]; simp only [up_g, reduceIte, Nat.reduceEqDiff]; exact hK5
    · rw [t2 w (by omega)]; simp only [up_g, reduceIte, Nat.reduceEqDiff]
    · rw [t2 w (by omega)]; simp only [up_g, reduceIte, Nat.reduceEqDiff]
    · rw [t2 w (by omega)]; simp only [up_g, reduceIte, Nat.reduceEqDiff]; rfl
    · rw [t2 w (by omega)]; simp only [up_g, reduceIte, Nat.reduceEqDiff]
    · rw [t2 w (by omega)]; simp only [up_g, reduceIte, Nat.reduceEqDiff]
    · rw [t3 i (by omega), up_ne (by omega), up_ne (by omega), up_ne (by omega), up_ne (by omega), up_ne (by omega), hch i hi]
      show nI (ch i) = nI (nf d ch i)
      unfold nf
      rw [if_pos hi]
    · rw [t2 _ (by omega), up_ne (by omega), up_ne (by omega), up_ne (by omega), up_ne (by omega), up_ne (by omega)]
  · have hw : 0 < s.2.2.1 := by
      by_cases q : s.2.2.1 = 0
      · have := j4 q; omega
      · omega
    rw [if_pos (nI_le (by omega) (by omega)), if_neg c1]
    by_cases c2 : tot = s.1
    · rw [if_pos (nEq c2), if_pos c2]
      simp only [pu_s, up_g, s10, reduceIte, Nat.reduceEqDiff]
      refine ⟨_, rfl, ⟨fun x q1 q2 q3 => ?_, ?_, ?_, ?_, ?_⟩, ⟨?_, ?_, ?_, ?_, ?_, fun _ i hi => ?_⟩, ?_⟩
      · rw [up_ne q1, up_ne q1, up_ne q1]; exact hK0 x q1 q2 q3
      · simp only [up_g, reduceIte, Nat.reduceEqDiff]; exact hK2
      · simp only [up_g, reduceIte, Nat.reduceEqDiff]; exact hK3
      · simp only [up_g, reduceIte, Nat.reduceEqDiff]; exact hK4
      · simp only [up_g, reduceIte, Nat.reduceEqDiff]; exact hK5
      · simp only [up_g, reduceIte, Nat.reduceEqDiff]; exact s6
      · simp only [up_g, reduceIte, Nat.reduceEqDiff]; exact s7
      · simp only [up_g, reduceIte, Nat.reduceEqDiff]
      · simp only [up_g, reduceIte, Nat.reduceEqDiff]
      · simp only [up_g, reduceIte, Nat.reduceEqDiff]
      · rw [up_ne (by omega), up_ne (by omega), up_ne (by omega)]; exact sf hw i hi
      · rw [up_ne (by omega), up_ne (by omega), up_ne (by omega)]
    · rw [if_neg (nNe c2 (by omega) (by omega)), if_neg c2, ltx_s, nif]
      simp only [nlt (show tot < 2 ^ 31 by omega) (show s.2.1 < 2 ^ 31 by omega), pu_s]
      refine ⟨_, rfl, ⟨fun x q1 q2 q3 => ?_, ?_, ?_, ?_, ?_⟩, ⟨?_, ?_, ?_, ?_, ?_, fun _ i hi => ?_⟩, ?_⟩
      · rw [up_ne q1, up_ne q1]; exact hK0 x q1 q2 q3
      · simp only [up_g, reduceIte, Nat.reduceEqDiff]; exact hK2
      · simp only [up_g, reduceIte, Nat.reduceEqDiff]; exact hK3
      · simp only [up_g, reduceIte, Nat.reduceEqDiff]; exact hK4
      · simp only [up_g, reduceIte, Nat.reduceEqDiff]; exact hK5
      · simp only [up_g, reduceIte, Nat.reduceEqDiff]; exact s6
      · simp only [up_g, reduceIte, Nat.reduceEqDiff]
      · simp only [up_g, reduceIte, Nat.reduceEqDiff]; exact s8
      · simp only [up_g, reduceIte, Nat.reduceEqDiff]
      · simp only [up_g, reduceIte, Nat.reduceEqDiff]; exact s10
      · rw [up_ne (by omega), up_ne (by omega)]; exact sf hw i hi
      · rw [up_ne (by omega), up_ne (by omega)]
theorem c_goOn (hd : d.ok) (hL : LC L o) (hwo : o + 8 < w) (hLc : L (w + 1 + 1) = 6) (hLf : L (w + 3 + 1) = 6) (hC0 : CS o μ0 d) (hg0 : Cg o μ0 d g) (hb : gb d g) (hvi : ∀ k, k < d.N → (nI k = vi ↔ k = fi)) (hva : ∀ a, a < 4 → fi < d.N → (nI a = va ↔ a = fa)) (hvo : ∀ t, t < d.T → (nI t = vo ↔ t = wo)) :
    ∀ (r k fuel : Nat) (ch : Nat → Nat) (s : S6) (μ : Mem), k + r = d.N → r < fuel → Sk w μ μ0 d vi va vo → Sr w μ d s → J6 d s → (∀ i, i < k → μ (w + 1 + 1) i = nI (ch i) ∧ ch i < d.z i) → (fi < k → ch fi = fa) →
    ∃ μ', fX4_goOn fuel L w o (nI k) (nI (min d.tp (g 168 + SJ d g ch wo k))) μ = some μ' ∧ Sk w μ' μ0 d vi va vo ∧ Sr w μ' d (En d (stp d g wo fi fa) r k ch s) ∧ (∀ i, i < k → μ' (w + 1 + 1) i = nI (ch i)) := by
  have hN := hd.1
  have htp := hd.2.2.2.2.2
  intro r
  induction r with
  | zero =>
    intro k fuel ch s μ hk hf hK hS hJ hch hfx
    obtain ⟨fuel, rfl⟩ : ∃ j, fuel = j + 1 := ⟨fuel - 1, by omega⟩
    have hk : k = d.N := by omega
    subst hk
    have hC4 : μ o 4 = nI d.N := by rw [hK.1 o (by omega) (by omega) (by omega)]; exact hC0.1
    simp only [fX4_goOn]
    unfold fX4_goOn_0 fX0_names
    rw [hK.2.2.2.2]
    by_cases c : d.tp ≤ g 168 + SJ d g ch wo d.N
    · rw [if_pos (nI_le (by omega) (by omega)), En_cut 0 d.N ch (by omega) c]
      exact ⟨μ, rfl, hK, hS, fun i hi => (hch i hi).1⟩
    · have e6 : nI d.N ≤ (6 : Int32) := nI_le (b := 6) (by omega) (by decide)
      rw [if_neg (nI_ge (by omega) (by omega)), if_pos e6, bd_s, hC4, if_neg (nI_nlt (Nat.le_refl _) (by omega))]
      have etot : min d.tp (g 168 + SJ d g ch wo d.N) = Tot d g ch wo := rfl
      obtain ⟨μ', n1, n2, n3, n4⟩ := c_note (tot := Tot d g ch wo) hd hwo hLc hLf hC0 hK hS hJ (fun i hi => (hch i hi).1) (by unfold Tot; omega)
      rw [etot, n1, bv_s]
      refine ⟨μ', rfl, n2, ?_, fun i hi => by rw [n4]; exact (hch i hi).1⟩
      unfold En stp
      have e3 : Tot d g ch wo < d.tp := by unfold Tot; omega
      rw [if_pos ⟨by
        by_cases q : fi < d.N
        · exact Or.inr (hfx q)
        · exact Or.inl q, e3⟩]
      exact n3
  | succ r ih =>
    intro k fuel ch s μ hk hf hK hS hJ hch hfx
    obtain ⟨fuel, rfl⟩ : ∃ j, fuel = j + 1 := ⟨fuel - 1, by omega⟩
    have hkN : k < d.N := by omega
    have hz := Sp.hz hd hkN
    have hC4 : μ o 4 = nI d.N := by rw [hK.1 o (by omega) (by omega) (by omega)]; exact hC0.1
    simp only [fX4_goOn]
    unfold fX4_goOn_0 fX0_names
    rw [hK.2.2.2.2]
    by_cases c : d.tp ≤ g 168 + SJ d g ch wo k
    · rw [if_pos (nI_le (by omega) (by omega)), En_cut (r + 1) k ch (by omega) c]
      exact ⟨μ, rfl, hK, hS, fun i hi => (hch i hi).1⟩
    · have e6 : nI k ≤ (6 : Int32) := nI_le (b := 6) (by omega) (by decide)
      rw [if_neg (nI_ge (by omega) (by omega)), if_pos e6, bd_s, hC4, if_pos (nI_lt hkN (by omega))]
      refine Exists.elim (lpI (fun kk a μ => fX4_goOn_33 L (fX4_goOn fuel L w o) w o kk (nI k) (nI (min d.tp (g 168 + SJ d g ch wo k))) (nI a) μ) (fun μ => some μ) (fun a μ' => Sk w μ' μ0 d vi va vo ∧ Sr w μ' d (fo (fun a => En d (stp d g wo fi fa) r (k + 1) (gu ch k a)) a s) ∧ J6 d (fo (fun a => En d (stp d g wo fi fa) r (k + 1) (gu ch k a)) a s) ∧ ∀ i, i < k → μ' (w + 1 + 1) i = nI (ch i)) (d.z k) ?_ ?_ (d.z k) 0 μ FU (by omega) (FU_gt (by omega)) ⟨hK, hS, hJ, fun i hi => (hch i hi).1⟩) ?_
      · intro kk μ' ⟨a1, a2, a3, a4⟩
        have hC : CS o μ' d := hC0.of (a1.1 _ (by omega) (by omega) (by omega)) (a1.1 _ (by omega) (by omega) (by omega)) (a1.1 _ (by omega) (by omega) (by omega)) (a1.1 _ (by omega) (by omega) (by omega))
        simp only [fX4_goOn_33]
        unfold fX4_goOn_33_b
        rw [c_valuesOf hd hL hC hkN, bd_s, if_pos (nI_le (Nat.le_refl _) (by omega))]
      · intro kk a μ' ha ⟨a1, a2, a3, a4⟩
        have hC : CS o μ' d := hC0.of (a1.1 _ (by omega) (by omega) (by omega)) (a1.1 _ (by omega) (by omega) (by omega)) (a1.1 _ (by omega) (by omega) (by omega)) (a1.1 _ (by omega) (by omega) (by omega))
        simp only [fX4_goOn_33]
        unfold fX4_goOn_33_b fX4_goOn_60 fX4_goOn_69
        rw [c_valuesOf hd hL hC hkN, bd_s, if_neg (nI_ge ha (by omega)), a1.2.1, a1.2.2.1, ltx_s, nI_1]
        have htake : (k = fi → a = fa) → ∃ μ'', (bv (fX4_take L (fX4_goOn fuel L w o) w o (nI k) (nI a) (nI (min d.tp (g 168 + SJ d g ch wo k))) μ') fun μ2 => lt' (nI (a + 1)) fun a1 => fX4_goOn_33 L (fX4_goOn fuel L w o) w o kk (nI k) (nI (min d.tp (g 168 + SJ d g ch wo k))) a1 μ2) = fX4_goOn_33 L (fX4_goOn fuel L w o) w o kk (nI k) (nI (min d.tp (g 168 + SJ d g ch wo k))) (nI (a + 1)) μ'' ∧ Sk w μ'' μ0 d vi va vo ∧ Sr w μ'' d (fo (fun a => En d (stp d g wo fi fa) r (k + 1) (gu ch k a)) (a + 1) s) ∧ J6 d (fo (fun a => En d (stp d g wo fi fa) r (k + 1) (gu ch k a)) (a + 1) s) ∧ ∀ i, i < k → μ'' (w + 1 + 1) i = nI (ch i) := by
          intro hfa
          have hK1 : Sk w (up μ' (w + 1 + 1) k (nI a)) μ0 d vi va vo := ⟨fun x q1 q2 q3 => by rw [up_ne q2]; exact a1.1 x q1 q2 q3, by rw [up_ne (by omega)]; exact a1.2.1, by rw [up_ne (by omega)]; exact a1.2.2.1, by rw [up_ne (by omega)]; exact a1.2.2.2.1, by rw [up_ne (by omega)]; exact a1.2.2.2.2⟩
          have hS1 : Sr w (up μ' (w + 1 + 1) k (nI a)) d (fo (fun a => En d (stp d g wo fi fa) r (k + 1) (gu ch k a)) a s) := by
            obtain ⟨b1, b2, b3, b4, b5, b6⟩ := a2
            refine ⟨?_, ?_, ?_, ?_, ?_, fun q i hi => ?_⟩
            · rw [up_ne (by omega)]; exact b1
            · rw [up_ne (by omega)]; exact b2
            · rw [up_ne (by omega)]; exact b3
            · rw [up_ne (by omega)]; exact b4
            · rw [up_ne (by omega)]; exact b5
            · rw [up_ne (by omega)]; exact b6 q i hi
          have hC1 : CS o (up μ' (w + 1 + 1) k (nI a)) d := hC.of (up_ne (by omega)) (up_ne (by omega)) (up_ne (by omega)) (up_ne (by omega))
          have hg1 : Cg o (up μ' (w + 1 + 1) k (nI a)) d g := fun x hx => by rw [up_ne (by omega), a1.1 _ (by omega) (by omega) (by omega)]; exact hg0 x hx
          have hch1 : ∀ i, i < k + 1 → up μ' (w + 1 + 1) k (nI a) (w + 1 + 1) i = nI (gu ch k a i) ∧ gu ch k a i < d.z i := fun i hi => by
            by_cases q : i = k
            · subst q
              rw [up_aa, gu_at]
              exact ⟨rfl, ha⟩
            · rw [up_an q, gu_ne q]
              exact ⟨a4 i (by omega), (hch i (by omega)).2⟩
          unfold fX4_take fX4_take_0
          rw [rset hLc (by omega) (by decide), bv_s, hK1.2.2.2.1, c_costBeside (ch := gu ch k a) hd hL hC1 hg1 hb hLc hvo (by omega) (fun i hi => hch1 i (by omega)) hkN ha, bd_s, c_sum hd hC1 (by omega) (by omega), bd_s, nI_1, sm_min]
          have e : min d.tp (min d.tp (g 168 + SJ d g ch wo k) + min d.tp (g (si k a) + PB d g (gu ch k a) k k a wo)) = min d.tp (g 168 + SJ d g (gu ch k a) wo (k + 1)) := by
            have e1 : SJ d g (gu ch k a) wo (k + 1) = SJ d g (gu ch k a) wo k + (g (si k (gu ch k a k)) + PB d g (gu ch k a) k k (gu ch k a k) wo) := rfl
            have e2 : SJ d g (gu ch k a) wo k = SJ d g ch wo k := SJ_ext (fun i hi => gu_ne (by omega))
            rw [e1, e2, gu_at]
            omega
          rw [e]
          obtain ⟨μ2, i1, i2, i3, i4⟩ := ih (k + 1) fuel (gu ch k a) _ _ (by omega) (by omega) hK1 hS1 a3 hch1 (fun q => by
            by_cases q2 : fi = k
            · rw [q2, gu_at]; exact hfa q2.symm
            · rw [gu_ne q2]; exact hfx (by omega))
          rw [i1, bv_s, bv_s, ltx_s]
          refine ⟨μ2, rfl, i2, i3, En_J6 r (k + 1) _ _ a3, fun i hi => ?_⟩
          rw [i4 i (by omega), gu_ne (by omega)]
        by_cases q1 : k = fi
        · rw [if_pos ((hvi k hkN).mpr q1)]
          by_cases q2 : a = fa
          · rw [if_pos ((hva a (by omega) (by omega)).mpr q2)]
            exact htake (fun _ => q2)
          · rw [if_neg (fun q => q2 ((hva a (by omega) (by omega)).mp q))]
            have e : fo (fun a => En d (stp d g wo fi fa) r (k + 1) (gu ch k a)) (a + 1) s = fo (fun a => En d (stp d g wo fi fa) r (k + 1) (gu ch k a)) a s := En_fix r (k + 1) _ (by omega) (by omega) (by omega) (by rw [← q1, gu_at]; exact q2)
            refine ⟨μ', rfl, a1, ?_, ?_, a4⟩
            · rw [e]; exact a2
            · rw [e]; exact a3
        · rw [if_neg (fun q => q1 ((hvi k hkN).mp q))]
          exact htake (fun q => absurd q q1)
      · intro μ' ⟨l1, l2, l3, l4, l5⟩
        exact ⟨μ', l1, l2, l3, l5⟩
/-- the start of what is kept -/
def s0 (d : Sp) : S6 := (d.tp, d.tp, 0, 0, 0, fun _ => 0)
theorem J6_0 (d : Sp) : J6 d (s0 d) := ⟨Nat.le_refl _, Nat.le_refl _, ⟨fun _ => rfl, fun _ => rfl⟩, fun _ => rfl, fun q => absurd q (Nat.lt_irrefl 0)⟩
/-- what all choices give -/
def Fin (d : Sp) (g : Nat → Nat) (w fi fa : Nat) : S6 := fo (fun y => stp d g w fi fa (dg d y)) (Wc d d.N 0) (s0 d)
theorem c_goThrough (hd : d.ok) (hL : LC L o) (hwo : o + 8 < w) (hLc : L (w + 1 + 1) = 6) (hLf : L (w + 3 + 1) = 6) (hC0 : CS o μ d) (hg0 : Cg o μ d g) (hb : gb d g) (hvi : ∀ k, k < d.N → (nI k = vi ↔ k = fi)) (hva : ∀ a, a < 4 → fi < d.N → (nI a = va ↔ a = fa)) (hvo : ∀ t, t < d.T → (nI t = vo ↔ t = wo)) :
    ∃ μ', fX4_goThrough L w o vi va vo μ = some μ' ∧ (∀ x, x ≠ w → x ≠ w + 1 + 1 → x ≠ w + 3 + 1 → μ' x = μ x) ∧ μ' w 5 = nI d.tp ∧ Sr w μ' d (Fin d g wo fi fa) := by
  have hb0 := hb _ (Sp.Uc (d := d))
  unfold fX4_goThrough fX0_top
  simp only [pu_s, bd_s, up_g, reduceIte, Nat.reduceEqDiff]
  have e6 : up (up (up μ w 2 vi) w 3 va) w 4 vo o 6 = nI d.tp := by rw [up_ne (by omega), up_ne (by omega), up_ne (by omega)]; exact hC0.2.2.1
  rw [e6]
  obtain ⟨μ1, hm⟩ : ∃ m, m = up (up (up (up (up (up (up (up (up μ w 2 vi) w 3 va) w 4 vo) w 5 (nI d.tp)) w 6 (nI d.tp)) w 7 (nI d.tp)) w 8 0) w 9 0) w 10 0 := ⟨_, rfl⟩
  rw [← hm]
  have hf : ∀ x, x ≠ w → μ1 x = μ x := fun x hx => by rw [hm, up_ne hx, up_ne hx, up_ne hx, up_ne hx, up_ne hx, up_ne hx, up_ne hx, up_ne hx, up_ne hx]
  have hK : Sk w μ1 μ d vi va vo := by
    refine ⟨fun x q _ _ => hf x q, ?_, ?_, ?_, ?_⟩ <;> rw [hm] <;> simp only [up_g, reduceIte, Nat.reduceEqDiff]
  have hS : Sr w μ1 d (s0 d) := by
    refine ⟨?_, ?_, ?_, ?_, ?_, fun q => absurd q (Nat.lt_irrefl 0)⟩ <;> rw [hm] <;> simp only [up_g, reduceIte, Nat.reduceEqDiff] <;> rfl
  have hg1 : Cg o μ1 d g := fun k hk => by rw [hf _ (by omega)]; exact hg0 k hk
  rw [c_constant hd hL hg1, bd_s]
  obtain ⟨μ2, i1, i2, i3, i4⟩ := c_goOn hd hL hwo hLc hLf hC0 hg0 hb hvi hva hvo d.N 0 8 (fun _ => 0) (s0 d) μ1 (by omega) (by have := hd.1; omega) hK hS (J6_0 d) (fun i hi => by omega) (fun q => by omega)
  rw [show min d.tp (g 168 + SJ d g (fun _ => 0) wo 0) = g 168 by unfold SJ su; omega] at i1
  have i1' : fX4_goOn 8 L w o (0 : Int32) (nI (g 168)) μ1 = some μ2 := i1
  rw [i1', bv_s]
  rw [En_all hd (fun ch ch' h => stp_ext h)] at i3
  exact ⟨μ2, rfl, i2.1, i2.2.2.2.2, i3⟩
end PSe
