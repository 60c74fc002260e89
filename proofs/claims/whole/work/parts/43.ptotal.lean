/-! totals -/
def su (f : Nat → Nat) : Nat → Nat
  | 0 => 0
  | n + 1 => su f n + f n
theorem su_ext {f h : Nat → Nat} : ∀ {n : Nat}, (∀ j, j < n → f j = h j) → su f n = su h n
  | 0, _ => rfl
  | n + 1, q => by
    unfold su
    rw [su_ext (fun j hj => q j (by omega)), q n (by omega)]
theorem su_add (f h : Nat → Nat) : ∀ n, su (fun j => f j + h j) n = su f n + su h n
  | 0 => rfl
  | n + 1 => by
    unfold su
    rw [su_add f h n]
    omega
theorem su_zero : ∀ n, su (fun _ => 0) n = 0
  | 0 => rfl
  | n + 1 => by
    unfold su
    rw [su_zero n]
theorem su_one (f : Nat → Nat) (x : Nat) : ∀ n, su (fun j => if x = j then f j else 0) n = if x < n then f x else 0
  | 0 => by rw [if_neg (by omega)]; rfl
  | n + 1 => by
    unfold su
    rw [su_one f x n]
    by_cases q : x = n
    · subst q
      rw [if_neg (by omega), if_pos rfl, if_pos (by omega)]
      omega
    · rw [if_neg q]
      by_cases q2 : x < n
      · rw [if_pos q2, if_pos (by omega)]; omega
      · rw [if_neg q2, if_neg (by omega)]
theorem su_swap (F : Nat → Nat → Nat) (m : Nat) : ∀ n, su (fun j => su (fun t => F j t) m) n = su (fun t => su (fun j => F j t) n) m
  | 0 => (su_zero m).symm
  | n + 1 => by
    show su (fun j => su (fun t => F j t) m) n + su (fun t => F n t) m = su (fun t => su (fun j => F j t) n + F n t) m
    rw [su_swap F m n, su_add]
theorem sm_min (tp a b : Nat) : sm tp a b = min tp (a + b) := by
  unfold sm
  split <;> omega
/-- what a table gives beside value b of name j, of names below e; table w left out -/
def pbT (d : Sp) (g : Nat → Nat) (ch : Nat → Nat) (e j b w t : Nat) : Nat := if d.hi t = j ∧ d.lo t < e ∧ t ≠ w then g (pi t (ch (d.lo t)) b) else 0
def PB (d : Sp) (g : Nat → Nat) (ch : Nat → Nat) (e j b w : Nat) : Nat := su (pbT d g ch e j b w) d.T
def SJ (d : Sp) (g : Nat → Nat) (ch : Nat → Nat) (w : Nat) : Nat → Nat := su (fun j => g (si j (ch j)) + PB d g ch j j (ch j) w)
def Tot (d : Sp) (g : Nat → Nat) (ch : Nat → Nat) (w : Nat) : Nat := min d.tp (g 168 + SJ d g ch w d.N)
theorem pbT_ext {d : Sp} {g ch ch' : Nat → Nat} {e j b w t : Nat} (h : ∀ i, i < e → ch i = ch' i) : pbT d g ch e j b w t = pbT d g ch' e j b w t := by
  unfold pbT
  split
  · rename_i q
    rw [h _ q.2.1]
  · rfl
theorem PB_ext {d : Sp} {g ch ch' : Nat → Nat} {e j b w : Nat} (h : ∀ i, i < e → ch i = ch' i) : PB d g ch e j b w = PB d g ch' e j b w := su_ext (fun _ _ => pbT_ext h)
theorem SJ_ext {d : Sp} {g ch ch' : Nat → Nat} {w n : Nat} (h : ∀ i, i < n → ch i = ch' i) : SJ d g ch w n = SJ d g ch' w n := su_ext (fun j hj => by
  rw [h j hj, PB_ext (fun i hi => h i (by omega))])
theorem Tot_ext {d : Sp} {g ch ch' : Nat → Nat} {w : Nat} (h : ∀ i, i < d.N → ch i = ch' i) : Tot d g ch w = Tot d g ch' w := by
  unfold Tot
  rw [SJ_ext h]
theorem Tot_le (d : Sp) (g ch : Nat → Nat) (w : Nat) : Tot d g ch w ≤ d.tp := by unfold Tot; omega
/-- the reference's way: all singles, then all tables -/
theorem SJ_ref {d : Sp} (hd : d.ok) (g ch : Nat → Nat) (w : Nat) : SJ d g ch w d.N = su (fun i => g (si i (ch i))) d.N + su (fun t => if t = w then 0 else g (pi t (ch (d.lo t)) (ch (d.hi t)))) d.T := by
  unfold SJ
  rw [su_add]
  congr 1
  unfold PB
  rw [su_swap]
  refine su_ext (fun t ht => ?_)
  have hl := Sp.hl hd ht
  have e : ∀ j, j < d.N → pbT d g ch j j (ch j) w t = if d.hi t = j then (fun j => if t = w then 0 else g (pi t (ch (d.lo t)) (ch j))) j else 0 := by
    intro j hj
    unfold pbT
    by_cases q : d.hi t = j
    · by_cases q2 : t = w
      · rw [if_neg (by omega), if_pos q]
        exact (if_pos q2).symm
      · rw [if_pos ⟨q, by omega, q2⟩, if_pos q]
        exact (if_neg q2).symm
    · rw [if_neg (by omega), if_neg q]
  rw [su_ext e, su_one, if_pos hl.2.1]
section PTo
variable {L : Nat → Nat} {o r1 : Nat} {μ : Mem} {d : Sp} {g ch : Nat → Nat}
theorem c_costBeside (hd : d.ok) (hL : LC L o) (hC : CS o μ d) (hg : Cg o μ d g) (hb : gb d g) (hLr : L (r1 + 1) = 6) {e j b w : Nat} {v5 : Int32} (hw : ∀ t, t < d.T → (nI t = v5 ↔ t = w)) (he : e ≤ d.N) (hch : ∀ i, i < e → μ (r1 + 1) i = nI (ch i) ∧ ch i < d.z i) (hj : j < d.N) (hb2 : b < d.z j) : fX0_costBeside L o r1 (nI e) (nI j) (nI b) v5 μ = some (nI (min d.tp (g (si j b) + PB d g ch e j b w)), μ) := by
  have htp := hd.2.2.2.2.2
  have hN := hd.1
  have hT := hd.2.2.1
  have b0 := hb _ (Sp.Us hj hb2)
  unfold fX0_costBeside
  rw [c_singleAt, bd_s, ← cx_s hd hj hb2, c_get hd hL hg (Sp.Us hj hb2), bd_s]
  have key := lpC (fun k t => fX0_costBeside_18 L o r1 k (nI e) (nI j) (nI b) v5 (nI (min d.tp (g (si j b) + su (pbT d g ch e j b w) t))) (nI t) μ) (some (nI (min d.tp (g (si j b) + PB d g ch e j b w)), μ)) d.T (fun k => by
      simp only [fX0_costBeside_18]
      unfold fX0_costBeside_18_b
      rw [hC.2.1, if_pos (nI_le (Nat.le_refl _) (by omega))]
      rfl) (fun k t ht => by
      have hl := Sp.hl hd ht
      simp only [fX0_costBeside_18]
      unfold fX0_costBeside_18_b fX0_costBeside_92
      rw [hC.2.1, if_neg (nI_ge ht (by omega)), rget hL.2.1 (by omega) (by decide), bd_s, rget hL.2.2.1 (by omega) (by decide), bd_s, hC.2.2.2.2.1 t ht, hC.2.2.2.2.2 t ht]
      simp only [ltx_s, nI_1, su]
      by_cases q1 : d.hi t = j
      · rw [if_pos (nEq q1)]
        by_cases q2 : d.lo t < e
        · rw [if_neg (nI_ge q2 (by omega))]
          by_cases q3 : t = w
          · rw [if_pos ((hw t ht).mpr q3), show pbT d g ch e j b w t = 0 from if_neg (by omega)]
            rfl
          · rw [if_neg (fun q => q3 ((hw t ht).mp q)), rget hLr (by omega) (by decide), bd_s, (hch _ q2).1, c_pairAt, bd_s]
            subst q1
            have hu : d.U (pi t (ch (d.lo t)) b) := Sp.Up ht (hch _ q2).2 hb2
            have b3 := hb _ hu
            rw [← cx_p hd ht (hch _ q2).2 hb2, c_get hd hL hg hu, bd_s, c_sum hd hC (by omega) (by omega), bd_s, sm_min, show pbT d g ch e (d.hi t) b w t = g (pi t (ch (d.lo t)) b) from if_pos ⟨rfl, q2, q3⟩]
            have em : min d.tp (min d.tp (g (si (d.hi t) b) + su (pbT d g ch e (d.hi t) b w) t) + g (pi t (ch (d.lo t)) b)) = min d.tp (g (si (d.hi t) b) + (su (pbT d g ch e (d.hi t) b w) t + g (pi t (ch (d.lo t)) b))) := by omega
            rw [em]
        · rw [if_pos (nI_le (by omega) (by omega)), show pbT d g ch e j b w t = 0 from if_neg (by omega)]
          rfl
      · rw [if_neg (nNe q1 (by omega) (by omega)), show pbT d g ch e j b w t = 0 from if_neg (by omega)]
        rfl) d.T 0 FU (by omega) (FU_gt (by omega))
  rw [show min d.tp (g (si j b) + su (pbT d g ch e j b w) 0) = g (si j b) by unfold su; omega] at key
  exact key
theorem none_w (d : Sp) (hd : d.ok) {v : Int32} (hv : v < 0) : ∀ t, t < d.T → (nI t = v ↔ t = 1000) := by
  intro t ht
  have hT := hd.2.2.1
  refine ⟨fun q => ?_, fun q => by omega⟩
  subst q
  exact absurd hv (nI_pos (by omega))
theorem c_totalOf (hd : d.ok) (hL : LC L o) (hC : CS o μ d) (hg : Cg o μ d g) (hb : gb d g) (hLr : L (r1 + 1) = 6) (hch : ∀ i, i < d.N → μ (r1 + 1) i = nI (ch i) ∧ ch i < d.z i) : fX0_totalOf L o r1 μ = some (nI (Tot d g ch 1000), μ) := by
  have htp := hd.2.2.2.2.2
  have hN := hd.1
  have b0 := hb _ (Sp.Uc (d := d))
  unfold fX0_totalOf
  rw [c_constant hd hL hg, bd_s]
  have key := lpC (fun k j => fX0_totalOf_7 L o r1 k (nI (min d.tp (g 168 + SJ d g ch 1000 j))) (nI j) μ) (some (nI (Tot d g ch 1000), μ)) d.N (fun k => by
      simp only [fX0_totalOf_7]
      unfold fX0_totalOf_7_b
      rw [hC.1, if_pos (nI_le (Nat.le_refl _) (by omega))]
      rfl) (fun k j hj => by
      simp only [fX0_totalOf_7]
      unfold fX0_totalOf_7_b
      rw [hC.1, if_neg (nI_ge hj (by omega)), rget hLr (by omega) (by decide), bd_s, (hch j hj).1, c_costBeside hd hL hC hg hb hLr (none_w d hd (by decide)) (by omega) (fun i hi => hch i (by omega)) hj (hch j hj).2, bd_s, c_sum hd hC (by omega) (by omega), bd_s, ltx_s, nI_1, sm_min]
      congr 2
      show min d.tp (_ + _) = min d.tp (g 168 + (su _ j + (g (si j (ch j)) + PB d g ch j j (ch j) 1000)))
      unfold SJ
      omega) d.N 0 FU (by omega) (FU_gt (by omega))
  rw [show min d.tp (g 168 + SJ d g ch 1000 0) = g 168 by unfold SJ su; omega] at key
  exact key
theorem q_totalOf (hd : d.ok) (hL : LR L o) (hC : RS o μ d) (hg : Rg o μ d g) (hb : gb d g) {w : Nat} {v : Int32} (hw : ∀ t, t < d.T → (nI t = v ↔ t = w)) (hch : ∀ i, i < d.N → μ (o + 15) i = nI (ch i) ∧ ch i < d.z i) : fX9_totalOf L o v μ = some (nI (Tot d g ch w), μ) := by
  have htp := hd.2.2.2.2.2
  have hN := hd.1
  have hT := hd.2.2.1
  have b0 := hb _ (Sp.Uc (d := d))
  have h15 := hL.2.2.2.2.2.2.2.2.2.2.2.2.2.2.1
  unfold fX9_totalOf
  rw [show (168 : Int32) = nI 168 from rfl, q_get hd hL hg Sp.Uc]
  have k2 := lpC (fun k t => fX9_totalOf_48 L o k v (nI (min d.tp (g 168 + su (fun i => g (si i (ch i))) d.N + su (fun t => if t = w then 0 else g (pi t (ch (d.lo t)) (ch (d.hi t)))) t))) (nI t) μ) (some (nI (Tot d g ch w), μ)) d.T (fun k => by
      simp only [fX9_totalOf_48]
      unfold fX9_totalOf_48_b
      rw [hC.2.1, if_pos (nI_le (Nat.le_refl _) (by omega))]
      unfold Tot
      rw [SJ_ref hd, Nat.add_assoc]) (fun k t ht => by
      have hl := Sp.hl hd ht
      simp only [fX9_totalOf_48]
      unfold fX9_totalOf_48_b fX9_totalOf_99
      rw [hC.2.1, if_neg (nI_ge ht (by omega))]
      simp only [ltx_s, nI_1, su]
      by_cases q : t = w
      · rw [if_pos ((hw t ht).mpr q), if_pos q, n0, q_sum hd hC (by omega) (by omega), bd_s, sm_min]
        congr 2
        omega
      · rw [if_neg (fun e => q ((hw t ht).mp e)), if_neg q, q_lo hd hL hC ht, ald_s (by omega) (by omega), (hch _ hl.1).1, q_hi hd hL hC ht, ald_s (by omega) (by omega), (hch _ hl.2.1).1, show fX9_pairAt L (nI t) 0 (nI (ch (d.lo t))) (nI (ch (d.hi t))) μ = some (nI (pk t 0 (ch (d.lo t)) (ch (d.hi t))), μ) from q_pairAt (s := 0) (by decide), bd_s]
        have hu : d.U (pk t 0 (ch (d.lo t)) (ch (d.hi t))) := Sp.Up ht (hch _ hl.1).2 (hch _ hl.2.1).2
        have b1 := hb _ hu
        rw [q_get hd hL hg hu, q_sum hd hC (by omega) (by omega), bd_s, sm_min]
        congr 2
        show min d.tp (_ + g (pi t _ _)) = _
        omega) d.T 0 FU (by omega) (FU_gt (by omega))
  have key := lpC (fun k i => fX9_totalOf_11 L o k v (nI (min d.tp (g 168 + su (fun i => g (si i (ch i))) i))) (nI i) μ) (some (nI (Tot d g ch w), μ)) d.N (fun k => by
      simp only [fX9_totalOf_11]
      unfold fX9_totalOf_11_b
      rw [hC.1, if_pos (nI_le (Nat.le_refl _) (by omega))]
      exact k2) (fun k i hi => by
      have hu := Sp.Us (d := d) hi (hch i hi).2
      have b1 := hb _ hu
      simp only [fX9_totalOf_11]
      unfold fX9_totalOf_11_b
      rw [hC.1, if_neg (nI_ge hi (by omega)), ald_s (by omega) (by omega), (hch i hi).1, q_si, q_get hd hL hg hu, q_sum hd hC (by omega) (by omega), bd_s, ltx_s, nI_1, sm_min]
      congr 2
      simp only [su]
      omega) d.N 0 FU (by omega) (FU_gt (by omega))
  rw [show min d.tp (g 168 + su (fun i => g (si i (ch i))) 0) = g 168 by unfold su; omega] at key
  exact key
end PTo
theorem Q10 : Q_10 Inv := by
  intro μ hI
  obtain ⟨d, g, c, h, tv, n, x, hP, hC, hR⟩ := id hI
  have hd := hP.1
  have hN := hd.1
  have hb := hP.2.2.1
  refine mkQ (r := nI (Tot d g tv 1000)) hR hP ⟨μ, ?_, hC, fun _ _ => rfl⟩ ?_
  · unfold fX8_total
    simp only [Nat.zero_add]
    rw [c_totalOf hd LC7 hC.1 hC.2.1 hb (r1 := 25) rfl (fun i hi => ⟨hC.2.2.2.1 i hi, hP.2.2.2.2.1 i hi⟩), bd_s]
  · intro μ0 hR0
    have h5 : LL (56 + 5) = 6 := rfl
    have h15 : LL (56 + 15) = 6 := rfl
    unfold fX9_total
    refine Exists.elim (lpI (fun k i μ => fX9_total_2 LL 56 k (nI i) μ) (fun μ => bd (fX9_totalOf LL 56 (-4 : Int32) μ) (fun b2 μ1 => some (b2, μ1))) (fun a μ' => (∀ x, x ≠ 56 + 15 → μ' x = μ0 x) ∧ ∀ i, i < a → μ' (56 + 15) i = nI (tv i)) d.N ?_ ?_ d.N 0 μ0 FU (by omega) (FU_gt (by omega)) ⟨fun _ _ => rfl, fun i hi => by omega⟩) ?_
    · intro k μ' ⟨a1, a2⟩
      simp only [fX9_total_2]
      unfold fX9_total_2_b
      rw [a1 56 (by omega), hR0.1.1, if_pos (nI_le (Nat.le_refl _) (by omega))]
    · intro k i μ' hi ⟨a1, a2⟩
      simp only [fX9_total_2]
      unfold fX9_total_2_b
      rw [a1 56 (by omega), hR0.1.1, if_neg (nI_ge hi (by omega)), ald_s (by omega) (by omega), ast_s (by omega) (by omega), ltx_s, nI_1, a1 _ (by omega), show μ0 (56 + 5) i = nI (tv i) from hR0.2.2.2.1 i hi]
      refine ⟨_, rfl, fun x hx => by rw [up_ne hx]; exact a1 x hx, fun j hj => ?_⟩
      by_cases q : j = i
      · subst q
        rw [up_aa]
      · rw [up_an q]
        exact a2 j (by omega)
    · intro μ1 ⟨c1, c2, c3⟩
      have e1 : fX9_total_2 LL 56 FU (0 : Int32) μ0 = _ := c1
      have hR1 : RI μ1 d g c h tv n x := hR0.fr (fun j _ => by rw [c2 56 (by omega)]) (fun x hx hx2 => c2 x (by omega))
      refine ⟨μ1, ?_, hR1, fun x hx => c2 x (by omega)⟩
      rw [e1, q_totalOf hd LR56 hR1.1 hR1.2.1 hb (none_w d hd (by decide)) (fun i hi => ⟨c3 i hi, hP.2.2.2.2.1 i hi⟩), bd_s]
