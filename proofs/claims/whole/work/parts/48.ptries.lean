/-! tries -/
def LBs (d : Sp) (g ch : Nat → Nat) (k j : Nat) : Nat := mn (fun b => min d.tp (g (si j b) + PB d g ch (k + 1) j b 1000)) d.tp (d.z j)
def LO (d : Sp) (g ch : Nat → Nat) (k : Nat) : Nat → Nat := su (fun i => if i ≤ k then g (si i (ch i)) + PB d g ch i i (ch i) 1000 else LBs d g ch k i)
def Low (d : Sp) (g ch : Nat → Nat) (k : Nat) : Nat := min d.tp (g 168 + LO d g ch k d.N)
theorem LO_SJ (d : Sp) (g ch : Nat → Nat) (k : Nat) : LO d g ch k (k + 1) = SJ d g ch 1000 (k + 1) := su_ext (fun i hi => if_pos (by omega))
theorem Low_le (d : Sp) (g ch : Nat → Nat) (k : Nat) : Low d g ch k ≤ d.tp := by unfold Low; omega
def Tg (d : Sp) (g : Nat → Nat) : Nat → Nat → (Nat → Nat) → Nat × Nat → Nat × Nat
  | 0, _, _, s => s
  | r + 1, k, ch, s => fo (fun a s => if Low d g (gu ch k a) k < s.2 then (if r = 0 then (s.1 + 1, Low d g (gu ch k a) k) else Tg d g r (k + 1) (gu ch k a) (s.1 + 1, s.2)) else (s.1 + 1, s.2)) (d.z k) s
def Tv (d : Sp) (g : Nat → Nat) (r k : Nat) (ch : Nat → Nat) (a : Nat) (s : Nat × Nat) : Nat × Nat := if Low d g (gu ch k a) k < s.2 then (if r = 0 then (s.1 + 1, Low d g (gu ch k a) k) else Tg d g r (k + 1) (gu ch k a) (s.1 + 1, s.2)) else (s.1 + 1, s.2)
theorem Tg_e (d : Sp) (g : Nat → Nat) (r k : Nat) (ch : Nat → Nat) (s : Nat × Nat) : Tg d g (r + 1) k ch s = fo (Tv d g r k ch) (d.z k) s := rfl
theorem Tg_le (d : Sp) (g : Nat → Nat) : ∀ (r k : Nat) (ch : Nat → Nat) (s : Nat × Nat), s.2 ≤ d.tp → (Tg d g r k ch s).2 ≤ d.tp
  | 0, _, _, _, h => h
  | r + 1, k, ch, s, h => by
    rw [Tg_e]
    refine fo_ind (P := fun (s : Nat × Nat) => s.2 ≤ d.tp) h (fun a s' _ h' => ?_)
    unfold Tv
    split
    · split
      · exact Low_le d g _ k
      · exact Tg_le d g r (k + 1) _ _ h'
    · exact h'
theorem Tv_le (d : Sp) (g : Nat → Nat) (r k : Nat) (ch : Nat → Nat) (a : Nat) {s : Nat × Nat} (h : s.2 ≤ d.tp) : (Tv d g r k ch a s).2 ≤ d.tp := by
  unfold Tv
  split
  · split
    · exact Low_le d g _ k
    · exact Tg_le d g r (k + 1) _ _ h
  · exact h
theorem Tv_y0 {d : Sp} {g : Nat → Nat} {r k : Nat} {ch : Nat → Nat} {a : Nat} {s : Nat × Nat} (q1 : Low d g (gu ch k a) k < s.2) (q2 : r = 0) : Tv d g r k ch a s = (s.1 + 1, Low d g (gu ch k a) k) := by
  unfold Tv
  rw [if_pos q1, if_pos q2]
theorem Tv_y1 {d : Sp} {g : Nat → Nat} {r k : Nat} {ch : Nat → Nat} {a : Nat} {s : Nat × Nat} (q1 : Low d g (gu ch k a) k < s.2) (q2 : ¬ r = 0) : Tv d g r k ch a s = Tg d g r (k + 1) (gu ch k a) (s.1 + 1, s.2) := by
  unfold Tv
  rw [if_pos q1, if_neg q2]
theorem Tv_n {d : Sp} {g : Nat → Nat} {r k : Nat} {ch : Nat → Nat} {a : Nat} {s : Nat × Nat} (q1 : ¬ Low d g (gu ch k a) k < s.2) : Tv d g r k ch a s = (s.1 + 1, s.2) := by
  unfold Tv
  rw [if_neg q1]
def Tk (w : Nat) (μ μ0 : Mem) (s : Nat × Nat) : Prop := (∀ x, x ≠ w → x ≠ w + 1 + 1 → μ x = μ0 x) ∧ μ w 1 = nI s.2 ∧ μ w 2 = nI s.1
section PTr
variable {L : Nat → Nat} {o w : Nat} {μ μ0 : Mem} {d : Sp} {g ch : Nat → Nat}
theorem c_leastBeside (hd : d.ok) (hL : LC L o) (hLc : L (w + 1 + 1) = 6) (hC : CS o μ d) (hg : Cg o μ d g) (hb : gb d g) {k j : Nat} (hkj : k < j) (hj : j < d.N) (hch : ∀ i, i < k + 1 → μ (w + 1 + 1) i = nI (ch i) ∧ ch i < d.z i) : fX7_leastBeside L w o (nI k) (nI j) μ = some (nI (LBs d g ch k j), μ) := by
  have htp := hd.2.2.2.2.2
  have hz := Sp.hz hd hj
  have hN := hd.1
  unfold fX7_leastBeside fX0_top
  rw [bd_s, hC.2.2.1]
  have key := lpC (fun kk b => fX7_leastBeside_9 L w o kk (nI k) (nI j) (nI (mn (fun b => min d.tp (g (si j b) + PB d g ch (k + 1) j b 1000)) d.tp b)) (nI b) μ) (some (nI (LBs d g ch k j), μ)) (d.z j) (fun kk => by
      simp only [fX7_leastBeside_9]
      unfold fX7_leastBeside_9_b
      rw [c_valuesOf hd hL hC hj, bd_s, if_pos (nI_le (Nat.le_refl _) (by omega))]
      rfl) (fun kk b hb2 => by
      have b1 := mn_le (fun b => min d.tp (g (si j b) + PB d g ch (k + 1) j b 1000)) d.tp b
      simp only [fX7_leastBeside_9]
      unfold fX7_leastBeside_9_b
      rw [c_valuesOf hd hL hC hj, bd_s, if_neg (nI_ge hb2 (by omega)), nI_1, c_costBeside hd hL hC hg hb hLc (none_w d hd (by decide)) (by omega) hch hj hb2, bd_s, ltx_s, ltx_s, nI_1, nif]
      simp only [nlt (show min d.tp (g (si j b) + PB d g ch (k + 1) j b 1000) < 2 ^ 31 by omega) (show mn (fun b => min d.tp (g (si j b) + PB d g ch (k + 1) j b 1000)) d.tp b < 2 ^ 31 by omega), mn]) (d.z j) 0 FU (by omega) (FU_gt (by omega))
  exact key
theorem c_lowOf (hd : d.ok) (hL : LC L o) (hLc : L (w + 1 + 1) = 6) (hC : CS o μ d) (hg : Cg o μ d g) (hb : gb d g) {k : Nat} (hk : k < d.N) (hch : ∀ i, i < k + 1 → μ (w + 1 + 1) i = nI (ch i) ∧ ch i < d.z i) : fX7_lowOf L w o (nI k) (nI (min d.tp (g 168 + SJ d g ch 1000 (k + 1)))) μ = some (nI (Low d g ch k), μ) := by
  have htp := hd.2.2.2.2.2
  have hN := hd.1
  unfold fX7_lowOf
  rw [ltx_s, nI_1, ← LO_SJ]
  have key := lpC (fun kk j => fX7_lowOf_8 L w o kk (nI k) (nI (min d.tp (g 168 + LO d g ch k (k + 1 + j)))) (nI (k + 1 + j)) μ) (some (nI (Low d g ch k), μ)) (d.N - (k + 1)) (fun kk => by
      have e : k + 1 + (d.N - (k + 1)) = d.N := by omega
      simp only [fX7_lowOf_8]
      unfold fX7_lowOf_8_b fX0_names
      rw [bd_s, hC.1, e, if_pos (nI_le (Nat.le_refl _) (by omega))]
      rfl) (fun kk j hj => by
      have b1 : LBs d g ch k (k + 1 + j) ≤ d.tp := mn_le _ _ _
      simp only [fX7_lowOf_8]
      unfold fX7_lowOf_8_b fX0_names
      rw [bd_s, hC.1, if_neg (nI_ge (show k + 1 + j < d.N by omega) (by omega)), c_leastBeside hd hL hLc hC hg hb (by omega) (by omega) hch, bd_s, c_sum hd hC (by omega) (by omega), bd_s, ltx_s, nI_1, sm_min]
      have e2 : LO d g ch k (k + 1 + (j + 1)) = LO d g ch k (k + 1 + j) + LBs d g ch k (k + 1 + j) := by
        show LO d g ch k (k + 1 + j) + (if k + 1 + j ≤ k then _ else _) = _
        rw [if_neg (by omega)]
        rfl
      rw [e2, show k + 1 + j + 1 = k + 1 + (j + 1) by omega]
      have e3 : min d.tp (min d.tp (g 168 + LO d g ch k (k + 1 + j)) + LBs d g ch k (k + 1 + j)) = min d.tp (g 168 + (LO d g ch k (k + 1 + j) + LBs d g ch k (k + 1 + j))) := by omega
      rw [e3]) (d.N - (k + 1)) 0 FU (by omega) (FU_gt (by omega))
  exact key
theorem c_tryOn (hd : d.ok) (hL : LC L o) (hwo : o + 8 < w) (hLc : L (w + 1 + 1) = 6) (hC0 : CS o μ0 d) (hg0 : Cg o μ0 d g) (hb : gb d g) :
    ∀ (r k fuel : Nat) (ch : Nat → Nat) (s : Nat × Nat) (μ : Mem), k + (r + 1) = d.N → r < fuel → Tk w μ μ0 s → s.2 ≤ d.tp → (∀ i, i < k → μ (w + 1 + 1) i = nI (ch i) ∧ ch i < d.z i) →
    ∃ μ', fX7_goOn fuel L w o (nI k) (nI (min d.tp (g 168 + SJ d g ch 1000 k))) μ = some μ' ∧ Tk w μ' μ0 (Tg d g (r + 1) k ch s) ∧ (∀ i, i < k → μ' (w + 1 + 1) i = nI (ch i)) := by
  have hN := hd.1
  have htp := hd.2.2.2.2.2
  intro r
  induction r using Nat.strongRecOn with
  | _ r ih =>
    intro k fuel ch s μ hk hf hK hs hch
    obtain ⟨fuel, rfl⟩ : ∃ j, fuel = j + 1 := ⟨fuel - 1, by omega⟩
    have hkN : k < d.N := by omega
    have hz := Sp.hz hd hkN
    have hC4 : μ o 4 = nI d.N := by rw [hK.1 o (by omega) (by omega)]; exact hC0.1
    have e6 : nI k < (6 : Int32) := nI_lt (b := 6) (by omega) (by decide)
    simp only [fX7_goOn]
    unfold fX7_goOn_0 fX0_names
    rw [bd_s, hC4, if_neg (nI_ge hkN (by omega)), if_pos e6, Tg_e]
    refine Exists.elim (lpI (fun kk a μ => fX7_goOn_18 L (fX7_goOn fuel L w o) w o kk (nI k) (nI (min d.tp (g 168 + SJ d g ch 1000 k))) (nI a) μ) (fun μ => some μ) (fun a μ' => Tk w μ' μ0 (fo (Tv d g r k ch) a s) ∧ (fo (Tv d g r k ch) a s).2 ≤ d.tp ∧ ∀ i, i < k → μ' (w + 1 + 1) i = nI (ch i)) (d.z k) ?_ ?_ (d.z k) 0 μ FU (by omega) (FU_gt (by omega)) ⟨hK, hs, fun i hi => (hch i hi).1⟩) ?_
    · intro kk μ' ⟨a1, a2, a3⟩
      have hC : CS o μ' d := hC0.of (a1.1 _ (by omega) (by omega)) (a1.1 _ (by omega) (by omega)) (a1.1 _ (by omega) (by omega)) (a1.1 _ (by omega) (by omega))
      simp only [fX7_goOn_18]
      unfold fX7_goOn_18_b
      rw [c_valuesOf hd hL hC hkN, bd_s, if_pos (nI_le (Nat.le_refl _) (by omega))]
    · intro kk a μ' ha ⟨a1, a2, a3⟩
      have hC : CS o μ' d := hC0.of (a1.1 _ (by omega) (by omega)) (a1.1 _ (by omega) (by omega)) (a1.1 _ (by omega) (by omega)) (a1.1 _ (by omega) (by omega))
      simp only [fX7_goOn_18]
      unfold fX7_goOn_18_b fX7_tryValue fX7_tryValue_0 fX0_names
      rw [c_valuesOf hd hL hC hkN, bd_s, if_neg (nI_ge ha (by omega)), rset hLc (by omega) (by decide), bv_s, pu_s, up_ne (show w ≠ w + 1 + 1 by omega), a1.2.2, nI_1]
      obtain ⟨μ1, hm⟩ : ∃ m, m = up (up μ' (w + 1 + 1) k (nI a)) w 2 (nI ((fo (Tv d g r k ch) a s).1 + 1)) := ⟨_, rfl⟩
      rw [← hm]
      have hf1 : ∀ x, x ≠ w → x ≠ w + 1 + 1 → μ1 x = μ' x := fun x q1 q2 => by rw [hm, up_ne q1, up_ne q2]
      have hC1 : CS o μ1 d := hC.of (hf1 _ (by omega) (by omega)) (hf1 _ (by omega) (by omega)) (hf1 _ (by omega) (by omega)) (hf1 _ (by omega) (by omega))
      have hg1 : Cg o μ1 d g := fun x hx => by rw [hf1 _ (by omega) (by omega), a1.1 _ (by omega) (by omega)]; exact hg0 x hx
      have hK1 : Tk w μ1 μ0 ((fo (Tv d g r k ch) a s).1 + 1, (fo (Tv d g r k ch) a s).2) := ⟨fun x q1 q2 => by rw [hf1 x q1 q2]; exact a1.1 x q1 q2, by rw [hm, up_an (by decide), up_ne (by omega)]; exact a1.2.1, by rw [hm, up_aa]⟩
      have hch1 : ∀ i, i < k + 1 → μ1 (w + 1 + 1) i = nI (gu ch k a i) ∧ gu ch k a i < d.z i := fun i hi => by
        rw [hm, up_ne (show w + 1 + 1 ≠ w by omega)]
        by_cases q : i = k
        · subst q
          rw [up_aa, gu_at]
          exact ⟨rfl, ha⟩
        · rw [up_an q, gu_ne q]
          exact ⟨a3 i (by omega), (hch i (by omega)).2⟩
      rw [c_costBeside (ch := gu ch k a) hd hL hC1 hg1 hb hLc (none_w d hd (by decide)) (by omega) (fun i hi => hch1 i (by omega)) hkN ha, bd_s, c_sum hd hC1 (by omega) (by omega), bd_s, nI_1, sm_min]
      have e : min d.tp (min d.tp (g 168 + SJ d g ch 1000 k) + min d.tp (g (si k a) + PB d g (gu ch k a) k k a 1000)) = min d.tp (g 168 + SJ d g (gu ch k a) 1000 (k + 1)) := by
        have e1 : SJ d g (gu ch k a) 1000 (k + 1) = SJ d g (gu ch k a) 1000 k + (g (si k (gu ch k a k)) + PB d g (gu ch k a) k k (gu ch k a k) 1000) := rfl
        have e2 : SJ d g (gu ch k a) 1000 k = SJ d g ch 1000 k := SJ_ext (fun i hi => gu_ne (by omega))
        rw [e1, e2, gu_at]
        omega
      have hl := Low_le d g (gu ch k a) k
      have hle := Tv_le d g r k ch a a2
      have e21 : μ1 w 1 = nI (fo (Tv d g r k ch) a s).2 := hK1.2.1
      rw [e, c_lowOf hd hL hLc hC1 hg1 hb hkN hch1, bd_s, e21, bd_s, hC1.1]
      show ∃ μ'_1, _ = _ ∧ Tk w μ'_1 μ0 (Tv d g r k ch a (fo (Tv d g r k ch) a s)) ∧ (Tv d g r k ch a (fo (Tv d g r k ch) a s)).2 ≤ d.tp ∧ _
      by_cases q1 : Low d g (gu ch k a) k < (fo (Tv d g r k ch) a s).2
      · rw [if_pos (nI_lt q1 (by omega))]
        by_cases q2 : r = 0
        · rw [if_pos (nEq (show k + 1 = d.N by omega)), pu_s, bv_s, ltx_s, nI_1]
          have eT : Tv d g r k ch a (fo (Tv d g r k ch) a s) = ((fo (Tv d g r k ch) a s).1 + 1, Low d g (gu ch k a) k) := by
            exact Tv_y0 q1 q2
          refine ⟨_, rfl, ?_, hle, fun i hi => ?_⟩
          · rw [eT]
            exact ⟨fun x z1 z2 => by rw [up_ne z1]; exact hK1.1 x z1 z2, up_aa _ _ _ _, by rw [up_an (by decide)]; exact hK1.2.2⟩
          · rw [up_ne (by omega), (hch1 i (by omega)).1, gu_ne (by omega)]
        · rw [if_neg (nNe (show ¬ k + 1 = d.N by omega) (by omega) (by omega))]
          have eT : Tv d g r k ch a (fo (Tv d g r k ch) a s) = Tg d g (r - 1 + 1) (k + 1) (gu ch k a) ((fo (Tv d g r k ch) a s).1 + 1, (fo (Tv d g r k ch) a s).2) := by
            rw [show r - 1 + 1 = r by omega]
            exact Tv_y1 q1 q2
          obtain ⟨μ2, i1, i2, i3⟩ := ih (r - 1) (by omega) (k + 1) fuel (gu ch k a) ((fo (Tv d g r k ch) a s).1 + 1, (fo (Tv d g r k ch) a s).2) μ1 (by omega) (by omega) hK1 a2 hch1
          rw [i1, bv_s, bv_s, ltx_s, nI_1]
          refine ⟨μ2, rfl, ?_, hle, fun i hi => ?_⟩
          · rw [eT]; exact i2
          · rw [i3 i (by omega), gu_ne (by omega)]
      · rw [if_neg (nI_nlt (by omega) (by omega)), bv_s, ltx_s, nI_1]
        have eT : Tv d g r k ch a (fo (Tv d g r k ch) a s) = ((fo (Tv d g r k ch) a s).1 + 1, (fo (Tv d g r k ch) a s).2) := by
          exact Tv_n q1
        refine ⟨μ1, rfl, ?_, hle, fun i hi => ?_⟩
        · rw [eT]; exact hK1
        · rw [(hch1 i (by omega)).1, gu_ne (by omega)]
    · intro μ' ⟨l1, l2, l3, l4⟩
      exact ⟨μ', l1, l2, l4⟩
theorem c_countTries (hd : d.ok) (h1N : 1 ≤ d.N) (hL : LC L o) (hwo : o + 8 < w) (hLc : L (w + 1 + 1) = 6) (hC0 : CS o μ d) (hg0 : Cg o μ d g) (hb : gb d g) : ∃ μ', fX7_countTries L w o μ = some (nI (Tg d g d.N 0 (fun _ => 0) (0, d.tp)).1, μ') ∧ ∀ x, x ≠ w → x ≠ w + 1 + 1 → μ' x = μ x := by
  have hN := hd.1
  have hb0 := hb _ (Sp.Uc (d := d))
  unfold fX7_countTries fX0_top
  simp only [pu_s, bd_s]
  rw [hC0.2.2.1]
  obtain ⟨μ1, hm⟩ : ∃ m, m = up (up μ w 1 (nI d.tp)) w 2 0 := ⟨_, rfl⟩
  rw [← hm]
  have hf : ∀ x, x ≠ w → μ1 x = μ x := fun x hx => by rw [hm, up_ne hx, up_ne hx]
  have hK : Tk w μ1 μ (0, d.tp) := ⟨fun x q _ => hf x q, by rw [hm, up_an (by decide), up_aa], by rw [hm, up_aa]; rfl⟩
  have hg1 : Cg o μ1 d g := fun k hk => by rw [hf _ (by omega)]; exact hg0 k hk
  rw [c_constant hd hL hg1, bd_s]
  obtain ⟨μ2, i1, i2, i3⟩ := c_tryOn hd hL hwo hLc hC0 hg0 hb (d.N - 1) 0 8 (fun _ => 0) (0, d.tp) μ1 (by omega) (by omega) hK (Nat.le_refl _) (fun i hi => by omega)
  rw [show min d.tp (g 168 + SJ d g (fun _ => 0) 1000 0) = g 168 by unfold SJ su; omega] at i1
  have i1' : fX7_goOn 8 L w o (0 : Int32) (nI (g 168)) μ1 = some μ2 := i1
  rw [i1', bv_s, i2.2.2, show d.N - 1 + 1 = d.N by omega]
  exact ⟨μ2, rfl, i2.1⟩
/-! the reference's -/
theorem q_pairsWith (hd : d.ok) (hL : LR L o) (hC : RS o μ d) (hg : Rg o μ d g) (hb : gb d g) {i a e : Nat} (hi : i < d.N) (ha : a < d.z i) (he : e ≤ i) (hch : ∀ j, j < e → μ (o + 15) j = nI (ch j) ∧ ch j < d.z j) : fX9_pairsWith L o (nI i) (nI a) (nI e - 1) μ = some (nI (min d.tp (PB d g ch e i a 1000)), μ) := by
  have htp := hd.2.2.2.2.2
  have hN := hd.1
  have hT := hd.2.2.1
  have h15 := hL.2.2.2.2.2.2.2.2.2.2.2.2.2.2.1
  unfold fX9_pairsWith
  have key := lpC (fun k t => fX9_pairsWith_6 L o k (nI i) (nI a) (nI e - 1) (nI (min d.tp (su (pbT d g ch e i a 1000) t))) (nI t) μ) (some (nI (min d.tp (PB d g ch e i a 1000)), μ)) d.T (fun k => by
      simp only [fX9_pairsWith_6]
      unfold fX9_pairsWith_6_b
      rw [hC.2.1, if_pos (nI_le (Nat.le_refl _) (by omega))]
      rfl) (fun k t ht => by
      have hl := Sp.hl hd ht
      simp only [fX9_pairsWith_6]
      unfold fX9_pairsWith_6_b fX9_pairsWith_59 fX9_pairsWith_97 fX9_pairsWith_114
      rw [hC.2.1, if_neg (nI_ge ht (by omega)), q_lo hd hL hC ht]
      simp only [ltx_s, nI_1, su, sub1_lt _ (show e < 2 ^ 30 by omega)]
      by_cases q1 : d.lo t = i
      · rw [if_pos (nEq q1), q_hi hd hL hC ht, if_neg (nI_pos (by omega)), if_pos (nI_le (by omega) (by omega)), show pbT d g ch e i a 1000 t = 0 from if_neg (by omega)]
        rfl
      · rw [if_neg (nNe q1 (by omega) (by omega)), q_hi hd hL hC ht]
        by_cases q2 : d.hi t = i
        · rw [if_pos (nEq q2), q_lo hd hL hC ht, if_neg (nI_pos (by omega))]
          by_cases q3 : d.lo t < e
          · rw [if_neg (nI_ge q3 (by omega)), q_lo hd hL hC ht, if_neg (nNe q1 (by omega) (by omega)), ald_s (by omega) (by omega), (hch _ q3).1, show fX9_pairAt L (nI t) 1 (nI a) (nI (ch (d.lo t))) μ = some (nI (pk t 1 a (ch (d.lo t))), μ) from q_pairAt (s := 1) (by decide), bd_s]
            subst q2
            have hu : d.U (pk t 1 a (ch (d.lo t))) := Sp.Up ht (hch _ q3).2 ha
            have b1 := hb _ hu
            rw [q_get hd hL hg hu, q_sum hd hC (by omega) (by omega), bd_s, sm_min, show pbT d g ch e (d.hi t) a 1000 t = g (pi t (ch (d.lo t)) a) from if_pos ⟨rfl, q3, by omega⟩]
            have e1 : min d.tp (min d.tp (su (pbT d g ch e (d.hi t) a 1000) t) + g (pk t 1 a (ch (d.lo t)))) = min d.tp (su (pbT d g ch e (d.hi t) a 1000) t + g (pi t (ch (d.lo t)) a)) := by
              rw [show pk t 1 a (ch (d.lo t)) = pi t (ch (d.lo t)) a from rfl]
              omega
            rw [e1]
          · rw [if_pos (nI_le (by omega) (by omega)), show pbT d g ch e i a 1000 t = 0 from if_neg (by omega)]
            rfl
        · rw [if_neg (nNe q2 (by omega) (by omega)), if_pos (by decide), show pbT d g ch e i a 1000 t = 0 from if_neg (by omega)]
          rfl) d.T 0 FU (by omega) (FU_gt (by omega))
  rw [show min d.tp (su (pbT d g ch e i a 1000) 0) = 0 by unfold su; omega] at key
  exact key
theorem q_lowOf (hd : d.ok) (hL : LR L o) (hC : RS o μ d) (hg : Rg o μ d g) (hb : gb d g) {k : Nat} (hk : k < d.N) (hch : ∀ i, i < k + 1 → μ (o + 15) i = nI (ch i) ∧ ch i < d.z i) : fX9_lowOf L o (nI k) μ = some (nI (Low d g ch k), μ) := by
  have htp := hd.2.2.2.2.2
  have hN := hd.1
  have hb0 := hb _ (Sp.Uc (d := d))
  have h15 := hL.2.2.2.2.2.2.2.2.2.2.2.2.2.2.1
  unfold fX9_lowOf
  rw [show (168 : Int32) = nI 168 from rfl, q_get hd hL hg Sp.Uc]
  have key := lpC (fun kk i => fX9_lowOf_11 L o kk (nI k) (nI (min d.tp (g 168 + LO d g ch k i))) (nI i) μ) (some (nI (Low d g ch k), μ)) d.N (fun kk => by
      simp only [fX9_lowOf_11]
      unfold fX9_lowOf_11_b
      rw [hC.1, if_pos (nI_le (Nat.le_refl _) (by omega))]
      rfl) (fun kk i hi => by
      have hz := Sp.hz hd hi
      have e2 : LO d g ch k (i + 1) = LO d g ch k i + (if i ≤ k then g (si i (ch i)) + PB d g ch i i (ch i) 1000 else LBs d g ch k i) := rfl
      simp only [fX9_lowOf_11]
      unfold fX9_lowOf_11_b fX9_lowOf_141
      rw [hC.1, if_neg (nI_ge hi (by omega)), e2]
      by_cases q : i ≤ k
      · have hu := Sp.Us (d := d) hi (hch i (by omega)).2
        have b1 := hb _ hu
        rw [if_neg (nI_nlt q (by omega)), if_pos q, ald_s (by omega) (by omega), (hch i (by omega)).1, q_si, q_get hd hL hg hu, ald_s (by omega) (by omega), (hch i (by omega)).1, q_pairsWith hd hL hC hg hb hi (hch i (by omega)).2 (Nat.le_refl _) (fun j hj => hch j (by omega)), bd_s, q_sum hd hC (by omega) (by omega), bd_s, q_sum hd hC (by omega) (by rw [sm_min]; omega), bd_s, ltx_s, nI_1, sm_min, sm_min]
        have e3 : min d.tp (min d.tp (g 168 + LO d g ch k i) + min d.tp (g (si i (ch i)) + min d.tp (PB d g ch i i (ch i) 1000))) = min d.tp (g 168 + (LO d g ch k i + (g (si i (ch i)) + PB d g ch i i (ch i) 1000))) := by omega
        rw [e3]
      · rw [if_pos (nI_lt (by omega) (by omega)), if_neg q, ltx_s, hC.2.2.1]
        have k2 := lpC (fun kq b => fX9_lowOf_75 L o (fX9_lowOf_11 L o kk) kq (nI k) (nI (min d.tp (g 168 + LO d g ch k i))) (nI i) (nI (mn (fun b => min d.tp (g (si i b) + PB d g ch (k + 1) i b 1000)) d.tp b)) (nI b) μ) (fX9_lowOf_11 L o kk (nI k) (nI (min d.tp (g 168 + (LO d g ch k i + LBs d g ch k i)))) (nI (i + 1)) μ) (d.z i) (fun kq => by
          have b1 : LBs d g ch k i ≤ d.tp := mn_le _ _ _
          simp only [fX9_lowOf_75]
          unfold fX9_lowOf_75_b fX9_lowOf_141
          rw [q_many hd hL hC hi, if_pos (nI_le (Nat.le_refl _) (by omega)), show mn (fun b => min d.tp (g (si i b) + PB d g ch (k + 1) i b 1000)) d.tp (d.z i) = LBs d g ch k i from rfl, q_sum hd hC (by omega) (by omega), bd_s, ltx_s, nI_1, sm_min]
          have e3 : min d.tp (min d.tp (g 168 + LO d g ch k i) + LBs d g ch k i) = min d.tp (g 168 + (LO d g ch k i + LBs d g ch k i)) := by omega
          rw [e3]) (fun kq b hb2 => by
          have hu := Sp.Us (d := d) hi hb2
          have b1 := hb _ hu
          have b2 := mn_le (fun b => min d.tp (g (si i b) + PB d g ch (k + 1) i b 1000)) d.tp b
          simp only [fX9_lowOf_75]
          unfold fX9_lowOf_75_b fX9_lowOf_125
          rw [q_many hd hL hC hi, if_neg (nI_ge hb2 (by omega)), q_si, q_get hd hL hg hu, ← nI_pred k, q_pairsWith hd hL hC hg hb hi hb2 (show k + 1 ≤ i by omega) hch, bd_s, q_sum hd hC (by omega) (by omega), bd_s, sm_min]
          have e3 : min d.tp (g (si i b) + min d.tp (PB d g ch (k + 1) i b 1000)) = min d.tp (g (si i b) + PB d g ch (k + 1) i b 1000) := by omega
          rw [e3]
          simp only [ltx_s, nI_1, nle (show mn (fun b => min d.tp (g (si i b) + PB d g ch (k + 1) i b 1000)) d.tp b < 2 ^ 31 by omega) (show min d.tp (g (si i b) + PB d g ch (k + 1) i b 1000) < 2 ^ 31 by omega), mn]
          by_cases q4 : min d.tp (g (si i b) + PB d g ch (k + 1) i b 1000) < mn (fun b => min d.tp (g (si i b) + PB d g ch (k + 1) i b 1000)) d.tp b
          · rw [if_neg (by omega), if_pos q4]
          · rw [if_pos (by omega), if_neg q4]) (d.z i) 0 FU (by omega) (FU_gt (by omega))
        exact k2) d.N 0 FU (by omega) (FU_gt (by omega))
  rw [show min d.tp (g 168 + LO d g ch k 0) = g 168 by unfold LO su; omega] at key
  exact key
def Bf : Nat → Nat
  | 0 => 5
  | r + 1 => 4 * (1 + Bf r) + 1
theorem q_tryOn (hd : d.ok) (hL : LR L o) (hC0 : RS o μ0 d) (hg0 : Rg o μ0 d g) (hb : gb d g) :
    ∀ (r k : Nat) (ch : Nat → Nat) (s : Nat × Nat) (μ : Mem), k + (r + 1) = d.N → (∀ x, x ≠ o + 15 → μ x = μ0 x) → s.2 ≤ d.tp → (∀ i, i < k → μ (o + 15) i = nI (ch i) ∧ ch i < d.z i) → μ (o + 15) k = -1 →
    ∃ c μ', c ≤ Bf r ∧ (∀ f, fX9_tries_16 L o (f + c) (nI s.1) (nI s.2) (nI k) μ = fX9_tries_16 L o f (nI (Tg d g (r + 1) k ch s).1) (nI (Tg d g (r + 1) k ch s).2) (nI k - 1) μ') ∧ (∀ x, x ≠ o + 15 → μ' x = μ0 x) ∧ (∀ i, i < k → μ' (o + 15) i = nI (ch i)) := by
  have hN := hd.1
  have htp := hd.2.2.2.2.2
  have h15 := hL.2.2.2.2.2.2.2.2.2.2.2.2.2.2.1
  intro r
  induction r using Nat.strongRecOn with
  | _ r ih =>
    intro k ch s μ hk hK hs hch hm1
    have hkN : k < d.N := by omega
    have hz := Sp.hz hd hkN
    obtain ⟨Q, hQ, hQ1, hQ2⟩ : ∃ Q, Bf r = 4 * Q + 1 ∧ 1 ≤ Q ∧ (¬ r = 0 → Q = 1 + Bf (r - 1)) := by
      cases r with
      | zero => exact ⟨1, rfl, Nat.le_refl _, fun q => absurd rfl q⟩
      | succ r => exact ⟨1 + Bf r, rfl, by omega, fun _ => rfl⟩
    have key : ∀ (m a : Nat) (μ' : Mem), a + m = d.z k → (∀ x, x ≠ o + 15 → μ' x = μ0 x) → (fo (Tv d g r k ch) a s).2 ≤ d.tp → (∀ i, i < k → μ' (o + 15) i = nI (ch i)) → μ' (o + 15) k = nI a - 1 →
        ∃ c μ2, c ≤ m * Q + 1 ∧ (∀ f, fX9_tries_16 L o (f + c) (nI (fo (Tv d g r k ch) a s).1) (nI (fo (Tv d g r k ch) a s).2) (nI k) μ' = fX9_tries_16 L o f (nI (fo (Tv d g r k ch) (d.z k) s).1) (nI (fo (Tv d g r k ch) (d.z k) s).2) (nI k - 1) μ2) ∧ (∀ x, x ≠ o + 15 → μ2 x = μ0 x) ∧ (∀ i, i < k → μ2 (o + 15) i = nI (ch i)) := by
      intro m
      induction m with
      | zero =>
        intro a μ' ha hK' hs' hch' hka
        have ha : a = d.z k := by omega
        subst ha
        have hC1 : RS o (up μ' (o + 15) k (nI (d.z k))) d := hC0.of (by rw [up_ne (by omega)]; exact hK' _ (by omega)) (by rw [up_ne (by omega)]; exact hK' _ (by omega)) (by rw [up_ne (by omega)]; exact hK' _ (by omega)) (by rw [up_ne (by omega)]; exact hK' _ (by omega))
        refine ⟨1, up μ' (o + 15) k (nI (d.z k)), by omega, fun f => ?_, fun x hx => by rw [up_ne hx]; exact hK' x hx, fun i hi => by rw [up_an (by omega)]; exact hch' i hi⟩
        conv => lhs; simp only [fX9_tries_16]
        unfold fX9_tries_16_b
        rw [if_neg (nI_pos (by omega)), ald_s (by omega) (by omega), hka, Int32.sub_add_cancel, ast_s (by omega) (by omega), ald_s (by omega) (by omega), up_aa, q_many hd hL hC1 hkN, if_pos rfl, ltx_s, m1_sub]
      | succ m ihm =>
        intro a μ' ha hK' hs' hch' hka
        have ha1 : a < d.z k := by omega
        obtain ⟨μ1, hm⟩ : ∃ m, m = up μ' (o + 15) k (nI a) := ⟨_, rfl⟩
        have hK1 : ∀ x, x ≠ o + 15 → μ1 x = μ0 x := fun x hx => by rw [hm, up_ne hx]; exact hK' x hx
        have hC1 : RS o μ1 d := hC0.of (hK1 _ (by omega)) (hK1 _ (by omega)) (hK1 _ (by omega)) (hK1 _ (by omega))
        have hg1 : Rg o μ1 d g := fun x hx => by rw [hK1 _ (by omega)]; exact hg0 x hx
        have hch1 : ∀ i, i < k + 1 → μ1 (o + 15) i = nI (gu ch k a i) ∧ gu ch k a i < d.z i := fun i hi => by
          rw [hm]
          by_cases q : i = k
          · subst q
            rw [up_aa, gu_at]
            exact ⟨rfl, ha1⟩
          · rw [up_an q, gu_ne q]
            exact ⟨hch' i (by omega), (hch i (by omega)).2⟩
        have hpre : ∀ i, i < k → μ1 (o + 15) i = nI (ch i) := fun i hi => by rw [(hch1 i (by omega)).1, gu_ne (by omega)]
        have hk1 : μ1 (o + 15) k = nI (a + 1) - 1 := by rw [nI_pred, hm, up_aa]
        have hl := Low_le d g (gu ch k a) k
        have hle : (fo (Tv d g r k ch) (a + 1) s).2 ≤ d.tp := Tv_le d g r k ch a hs'
        have hstep : ∀ f, fX9_tries_16 L o (f + 1) (nI (fo (Tv d g r k ch) a s).1) (nI (fo (Tv d g r k ch) a s).2) (nI k) μ' = (if nI (fo (Tv d g r k ch) a s).2 ≤ nI (Low d g (gu ch k a) k) then fX9_tries_83 L o (fX9_tries_16 L o f) (nI ((fo (Tv d g r k ch) a s).1 + 1)) (nI (fo (Tv d g r k ch) a s).2) (nI k) (nI (Low d g (gu ch k a) k)) μ1 else (if nI (k + 1) = nI d.N then fX9_tries_99 L o (fX9_tries_16 L o f) (nI ((fo (Tv d g r k ch) a s).1 + 1)) (nI (Low d g (gu ch k a) k)) (nI k) μ1 else fX9_tries_83 L o (fX9_tries_16 L o f) (nI ((fo (Tv d g r k ch) a s).1 + 1)) (nI (fo (Tv d g r k ch) a s).2) (nI k) (nI (Low d g (gu ch k a) k)) μ1)) := by
          intro f
          conv => lhs; simp only [fX9_tries_16]
          unfold fX9_tries_16_b
          rw [if_neg (nI_pos (by omega)), ald_s (by omega) (by omega), hka, Int32.sub_add_cancel, ast_s (by omega) (by omega), ← hm, ald_s (by omega) (by omega), hk1, nI_pred, q_many hd hL hC1 hkN, if_neg (nNe (by omega) (by omega) (by omega)), ltx_s, nI_1, q_lowOf hd hL hC1 hg1 hb hkN hch1, bd_s, hC1.1, nI_1]
        have hbase : ∃ c μ2, c ≤ m * Q + 1 ∧ (∀ f, fX9_tries_16 L o (f + c) (nI (fo (Tv d g r k ch) (a + 1) s).1) (nI (fo (Tv d g r k ch) (a + 1) s).2) (nI k) μ1 = fX9_tries_16 L o f (nI (fo (Tv d g r k ch) (d.z k) s).1) (nI (fo (Tv d g r k ch) (d.z k) s).2) (nI k - 1) μ2) ∧ (∀ x, x ≠ o + 15 → μ2 x = μ0 x) ∧ (∀ i, i < k → μ2 (o + 15) i = nI (ch i)) := ihm (a + 1) μ1 (by omega) hK1 hle hpre hk1
        have hmul : (m + 1) * Q = m * Q + Q := Nat.succ_mul m Q
        by_cases q1 : Low d g (gu ch k a) k < (fo (Tv d g r k ch) a s).2
        · by_cases q2 : r = 0
          · have eT : fo (Tv d g r k ch) (a + 1) s = ((fo (Tv d g r k ch) a s).1 + 1, Low d g (gu ch k a) k) := by
              show Tv d g r k ch a (fo (Tv d g r k ch) a s) = _
              exact Tv_y0 q1 q2
            rw [eT] at hbase
            obtain ⟨c, μ2, c1, c2, c3, c4⟩ := hbase
            refine ⟨c + 1, μ2, by omega, fun f => ?_, c3, c4⟩
            rw [← Nat.add_assoc, hstep, if_neg (nI_ge q1 (by omega)), if_pos (nEq (show k + 1 = d.N by omega)), fX9_tries_99]
            exact c2 f
          · have eT : fo (Tv d g r k ch) (a + 1) s = Tg d g (r - 1 + 1) (k + 1) (gu ch k a) ((fo (Tv d g r k ch) a s).1 + 1, (fo (Tv d g r k ch) a s).2) := by
              rw [show r - 1 + 1 = r by omega]
              show Tv d g r k ch a (fo (Tv d g r k ch) a s) = _
              exact Tv_y1 q1 q2
            obtain ⟨c, μ3, i1, i2, i3, i4⟩ := ih (r - 1) (by omega) (k + 1) (gu ch k a) ((fo (Tv d g r k ch) a s).1 + 1, (fo (Tv d g r k ch) a s).2) (up μ1 (o + 15) (k + 1) (-1)) (by omega) (fun x hx => by rw [up_ne hx]; exact hK1 x hx) hs' (fun i hi => by rw [up_an (by omega)]; exact hch1 i hi) (up_aa _ _ _ _)
            rw [← eT] at i2
            have hk3 : μ3 (o + 15) k = nI (a + 1) - 1 := by rw [i4 k (by omega), gu_at, nI_pred]
            obtain ⟨c', μ2, c1, c2, c3, c4⟩ := ihm (a + 1) μ3 (by omega) i3 hle (fun i hi => by rw [i4 i (by omega), gu_ne (by omega)]) hk3
            have hQ3 := hQ2 q2
            refine ⟨c' + c + 1, μ2, by omega, fun f => ?_, c3, c4⟩
            rw [← Nat.add_assoc, hstep, if_neg (nI_ge q1 (by omega)), if_neg (nNe (show ¬ k + 1 = d.N by omega) (by omega) (by omega))]
            unfold fX9_tries_83 fX9_tries_99
            rw [if_neg (nI_ge q1 (by omega)), ltx_s, nI_1, ast_s (by omega) (by omega), ← c2 f, ← Nat.add_assoc]
            have i2' := i2 (f + c')
            rw [nI_pred] at i2'
            exact i2'
        · have eT : fo (Tv d g r k ch) (a + 1) s = ((fo (Tv d g r k ch) a s).1 + 1, (fo (Tv d g r k ch) a s).2) := by
            show Tv d g r k ch a (fo (Tv d g r k ch) a s) = _
            exact Tv_n q1
          rw [eT] at hbase
          obtain ⟨c, μ2, c1, c2, c3, c4⟩ := hbase
          refine ⟨c + 1, μ2, by omega, fun f => ?_, c3, c4⟩
          rw [← Nat.add_assoc, hstep, if_pos (nI_le (by omega) (by omega))]
          unfold fX9_tries_83 fX9_tries_99
          rw [if_pos (nI_le (by omega) (by omega))]
          exact c2 f
    obtain ⟨c, μ2, c1, c2, c3, c4⟩ := key (d.z k) 0 μ (by omega) hK hs (fun i hi => (hch i hi).1) (by rw [hm1]; decide)
    have h4 : d.z k * Q ≤ 4 * Q := Nat.mul_le_mul_right _ hz.2
    exact ⟨c, μ2, by omega, c2, c3, c4⟩
theorem Bf_le : ∀ r, r ≤ 5 → Bf r ≤ 6825 := by decide
theorem q_tries (hd : d.ok) (h1N : 1 ≤ d.N) (hL : LR L o) (hC0 : RS o μ d) (hg0 : Rg o μ d g) (hb : gb d g) : ∃ μ', fX9_tries L o μ = some (nI (Tg d g d.N 0 (fun _ => 0) (0, d.tp)).1, μ') ∧ ∀ x, x ≠ o + 15 → μ' x = μ x := by
  have hN := hd.1
  have h15 := hL.2.2.2.2.2.2.2.2.2.2.2.2.2.2.1
  unfold fX9_tries
  rw [ltx_s, hC0.2.2.1, n0, ast_s (by omega) (by omega)]
  obtain ⟨c, μ2, c1, c2, c3, c4⟩ := q_tryOn hd hL hC0 hg0 hb (d.N - 1) 0 (fun _ => 0) (0, d.tp) (up μ (o + 15) 0 (-1)) (by omega) (fun x hx => up_ne hx) (Nat.le_refl _) (fun i hi => by omega) (up_aa _ _ _ _)
  have hB := Bf_le (d.N - 1) (by omega)
  have hFU : FU = (FU - c - 1) + 1 + c := by unfold FU; omega
  rw [show d.N - 1 + 1 = d.N by omega] at c2
  refine ⟨μ2, ?_, c3⟩
  rw [hFU]
  refine (c2 _).trans ?_
  simp only [fX9_tries_16]
  unfold fX9_tries_16_b
  rw [if_pos (by decide)]
end PTr
theorem Q23 : Q_23 Inv := by
  intro μ hI
  obtain ⟨d, g, c, h, tv, n, x, hP, hC, hR⟩ := id hI
  have hd := hP.1
  have hb := hP.2.2.1
  refine mkQ (r := nI (Tg d g d.N 0 (fun _ => 0) (0, d.tp)).1) hR hP ?_ ?_
  · obtain ⟨μ1, s1, s2⟩ := c_countTries (w := 53) (o := 7) (L := LL) hd hP.2.1 LC7 (by decide) rfl hC.1 hC.2.1 hb
    refine ⟨μ1, ?_, hC.fr (fun x hx => s2 x (by unfold kc at hx; omega) (by unfold kc at hx; omega)), fun x hx => s2 x (by omega) (by omega)⟩
    unfold fX8_tries
    simp only [Nat.zero_add]
    rw [s1, bd_s]
  · intro μ0 hR0
    obtain ⟨μ1, s1, s2⟩ := q_tries hd hP.2.1 LR56 hR0.1 hR0.2.1 hb
    exact ⟨μ1, s1, hR0.fr (fun j _ => by rw [s2 56 (by omega)]) (fun x h1 h2 => s2 x (by omega)), fun x hx => s2 x (by omega)⟩
