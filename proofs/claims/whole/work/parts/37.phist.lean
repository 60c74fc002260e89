/-! settling, keeping, undoing -/
def ZQ (o : Nat) : Nat → Prop := fun x => x = o + 13 ∨ x = o + 14
theorem rZQ (o : Nat) : rZ (ZQ o) o := by
  refine ⟨?_, ?_, ?_, ?_⟩ <;> intro q <;> unfold ZQ at q <;> omega
theorem Sto.allR {d : Sp} {Z : Nat → Prop} {c : Nat} {μ μ1 : Mem} {g g1 : Nat → Nat} (hd : d.ok) (h : Sto d Z c ei μ1 μ g) (h1 : ∀ k, d.U k → μ1 c k = nI (g1 k)) (hb : gb d g) (hb1 : gb d g1) : (∀ j, j < 169 → μ c j = μ1 c j) ↔ ∀ k, d.U k → g k = g1 k := by
  have htp := hd.2.2.2.2.2
  constructor
  · intro h2 k hk
    have h3 := h2 k (by have := Sp.Ult hd hk; omega)
    have h4 : μ c k = nI (g k) := h.2.2 k hk
    rw [h4, h1 k hk] at h3
    have a1 := hb k hk
    have a2 := hb1 k hk
    exact (nI_eq (by omega) (by omega)).mp h3
  · intro h2 j _
    by_cases hj : d.U j
    · have h4 : μ c j = nI (g j) := h.2.2 j hj
      rw [h4, h1 j hj, h2 j hj]
    · exact h.2.1 j (fun k hk q => hj (by rw [show j = k from q]; exact hk))
section PH
variable {L : Nat → Nat} {o : Nat} {μ : Mem} {d : Sp} {g : Nat → Nat} {μ0 : Mem}
theorem q_settle1 (hL : LR L o) (self7 : Int32 → Int32 → Int32 → Int32 → Mem → Option (Int32 × Mem)) (v1 v2 v4 : Int32) : ∃ b : Int32, fX9_settles_59 L o self7 FU v1 v2 (0 : Int32) v4 (0 : Int32) μ = self7 v1 (v2 + b) b (v4 + 1) μ ∧ ((b = 0 ∧ ∀ j, j < 169 → μ (o + 6) j = μ (o + 14) j) ∨ (b = 1 ∧ ∃ j, j < 169 ∧ μ (o + 6) j ≠ μ (o + 14) j)) := by
  have h6 := hL.2.2.2.2.2.1
  have h14 := hL.2.2.2.2.2.2.2.2.2.2.2.2.2.1
  have key : ∀ (r a k : Nat) (b : Int32), a + r = 169 → r < k → ((b = 0 ∧ ∀ j, j < a → μ (o + 6) j = μ (o + 14) j) ∨ (b = 1 ∧ ∃ j, j < 169 ∧ μ (o + 6) j ≠ μ (o + 14) j)) → ∃ b1 : Int32, fX9_settles_59 L o self7 k v1 v2 b v4 (nI a) μ = self7 v1 (v2 + b1) b1 (v4 + 1) μ ∧ ((b1 = 0 ∧ ∀ j, j < 169 → μ (o + 6) j = μ (o + 14) j) ∨ (b1 = 1 ∧ ∃ j, j < 169 ∧ μ (o + 6) j ≠ μ (o + 14) j)) := by
    intro r
    induction r with
    | zero =>
      intro a k b h1 h2 h3
      obtain ⟨k, rfl⟩ : ∃ j, k = j + 1 := ⟨k - 1, by omega⟩
      have h1 : a = 169 := by omega
      subst h1
      simp only [fX9_settles_59]
      unfold fX9_settles_59_b fX9_settles_110
      rw [if_pos (by decide)]
      rcases h3 with ⟨rfl, h3⟩ | ⟨rfl, h3⟩
      · rw [if_pos rfl, ltx_s, ltx_s]
        exact ⟨0, rfl, Or.inl ⟨rfl, h3⟩⟩
      · rw [if_neg (by decide), ltx_s, ltx_s]
        exact ⟨1, rfl, Or.inr ⟨rfl, h3⟩⟩
    | succ r ih =>
      intro a k b h1 h2 h3
      obtain ⟨k, rfl⟩ : ∃ j, k = j + 1 := ⟨k - 1, by omega⟩
      have hn : ¬ (169 : Int32) ≤ nI a := nI_ge (b := 169) (by omega) (by decide)
      simp only [fX9_settles_59]
      unfold fX9_settles_59_b fX9_settles_88 fX9_settles_93
      rw [if_neg hn]
      rcases h3 with ⟨rfl, h3⟩ | ⟨rfl, h3⟩
      · rw [if_pos rfl, ald_s (by omega) (by omega), ald_s (by omega) (by omega), ltx_s, ltx_s, nI_1]
        by_cases q : μ (o + 14) a = μ (o + 6) a
        · rw [if_pos q]
          exact ih (a + 1) k 0 (by omega) (by omega) (Or.inl ⟨rfl, fun j hj => by
            by_cases qj : j = a
            · rw [qj]; exact q.symm
            · exact h3 j (by omega)⟩)
        · rw [if_neg q]
          exact ih (a + 1) k 1 (by omega) (by omega) (Or.inr ⟨rfl, a, by omega, fun e => q e.symm⟩)
      · rw [if_neg (by decide), ltx_s, nI_1]
        exact ih (a + 1) k 1 (by omega) (by omega) (Or.inr ⟨rfl, h3⟩)
  exact key 169 0 FU 0 rfl (FU_gt (by decide)) (Or.inl ⟨rfl, fun j h => by omega⟩)
theorem q_settle (hd : d.ok) (hL : LR L o) (hC0 : RS o μ0 d) (hS : Sto d (ZQ o) (o + 6) ei μ0 μ g) (hb : gb d g) {kind : Nat} (hk : kind < 3) : ∃ μ', fX9_settles L o (nI kind) μ = some (nI (stG d kind 20 0 g).1, μ') ∧ Sto d (ZQ o) (o + 6) ei μ0 μ' (stG d kind 20 0 g).2 := by
  have hZ := rZQ o
  have h6 := hL.2.2.2.2.2.1
  have h14 := hL.2.2.2.2.2.2.2.2.2.2.2.2.2.1
  have key : ∀ (r n k : Nat) (μ : Mem) (g : Nat → Nat), n + r = 20 → r + 1 < k → Sto d (ZQ o) (o + 6) ei μ0 μ g → gb d g → ∃ μ', fX9_settles_7 L o k (nI kind) (nI n) (1 : Int32) (nI n) μ = some (nI (stG d kind r n g).1, μ') ∧ Sto d (ZQ o) (o + 6) ei μ0 μ' (stG d kind r n g).2 := by
    intro r
    induction r with
    | zero =>
      intro n k μ g h1 h2 h3 h4
      obtain ⟨k, rfl⟩ : ∃ j, k = j + 1 := ⟨k - 1, by omega⟩
      have h1 : n = 20 := by omega
      subst h1
      simp only [fX9_settles_7]
      unfold fX9_settles_7_b
      rw [if_pos (by decide)]
      exact ⟨μ, rfl, h3⟩
    | succ r ih =>
      intro n k μ g h1 h2 h3 h4
      obtain ⟨k, rfl⟩ : ∃ j, k = j + 1 := ⟨k - 1, by omega⟩
      have hn20 : ¬ (20 : Int32) ≤ nI n := nI_ge (b := 20) (by omega) (by decide)
      simp only [fX9_settles_7]
      unfold fX9_settles_7_b
      rw [if_neg hn20, if_neg (by decide)]
      refine Exists.elim (lpI (fun kk a μ => fX9_settles_21 L o (fX9_settles_7 L o k) kk (nI kind) (nI n) (nI n) (nI a) μ) (fun μ => bv (fX9_sweeps L o (nI kind) μ) (fun μ6 => fX9_settles_59 L o (fX9_settles_7 L o k) FU (nI kind) (nI n) (0 : Int32) (nI n) (0 : Int32) μ6)) (fun a μ' => (∀ c, c ≠ o + 14 → μ' c = μ c) ∧ ∀ j, j < a → μ' (o + 14) j = μ (o + 6) j) 169 ?_ ?_ 169 0 μ FU rfl (FU_gt (by decide)) ⟨fun _ _ => rfl, fun j h => by omega⟩) ?_
      · intro kk μ' h
        simp only [fX9_settles_21]
        unfold fX9_settles_21_b
        rw [if_pos (by decide)]
      · intro kk a μ' ha ⟨a1, a2⟩
        have hna : ¬ (169 : Int32) ≤ nI a := nI_ge (b := 169) (by omega) (by decide)
        simp only [fX9_settles_21]
        unfold fX9_settles_21_b
        rw [if_neg hna, ald_s (by omega) (by omega), ast_s (by omega) (by omega), ltx_s, nI_1]
        refine ⟨_, rfl, fun c hc => by rw [up_ne hc]; exact a1 c hc, fun j hj => ?_⟩
        by_cases q : j = a
        · subst q
          rw [up_aa, a1 _ (by omega)]
        · rw [up_an q]
          exact a2 j (by omega)
      · intro μ1 ⟨c1, c2, c3⟩
        have e1 : fX9_settles_21 L o (fX9_settles_7 L o k) FU (nI kind) (nI n) (nI n) (0 : Int32) μ = _ := c1
        rw [e1]
        have hS1 : Sto d (ZQ o) (o + 6) ei μ0 μ1 g := ⟨fun x a b => by rw [c2 x (fun q => b (Or.inr q))]; exact h3.1 x a b, fun j hj => by rw [c2 _ (by omega)]; exact h3.2.1 j hj, fun j hj => by rw [c2 _ (by omega)]; exact h3.2.2 j hj⟩
        have hC1 := hC0.sto hS1 hZ
        obtain ⟨μ2, p1, p2⟩ := q_sweeps hd hL hC1 (Sto.rf hS1.2.2) h4 hk
        have hb2 := gb_sw hd h4 kind
        rw [p1, bv_s]
        obtain ⟨b, l1, l2⟩ := q_settle1 (μ := μ2) hL (fX9_settles_7 L o k) (nI kind) (nI n) (nI n)
        rw [l1]
        have hS2 : Sto d (ZQ o) (o + 6) ei μ0 μ2 (swG d kind g) := hS1.trans (p2.mono (fun x q => Or.inl q))
        have hah : ∀ j, j < 169 → μ2 (o + 14) j = μ1 (o + 6) j := fun j hj => by
          rw [p2.1 _ (by omega) (fun q => by unfold ZR at q; omega), c3 j hj, c2 _ (by omega)]
        have hiff := Sto.allR hd p2 hS1.2.2 hb2 h4
        rcases l2 with ⟨rfl, l2⟩ | ⟨rfl, j, hj, l2⟩
        · have hall : ∀ k, d.U k → swG d kind g k = g k := hiff.mp (fun j hj => (l2 j hj).trans (hah j hj))
          have e : stG d kind (r + 1) n g = (n, swG d kind g) := by rw [stG, if_pos hall]
          rw [e]
          obtain ⟨k, rfl⟩ : ∃ j, k = j + 1 := ⟨k - 1, by omega⟩
          refine ⟨μ2, ?_, hS2⟩
          simp only [fX9_settles_7]
          unfold fX9_settles_7_b
          rw [n0, nI_add, Nat.add_zero, if_pos rfl]
          split <;> rfl
        · have hall : ¬ ∀ k, d.U k → swG d kind g k = g k := fun q => l2 ((hiff.mpr q j hj).trans (hah j hj).symm)
          have e : stG d kind (r + 1) n g = stG d kind r (n + 1) (swG d kind g) := by rw [stG, if_neg hall]
          rw [e, nI_1]
          exact ih (n + 1) k μ2 _ (by omega) (by omega) hS2 hb2
  unfold fX9_settles
  exact key 20 0 FU μ g rfl (FU_gt (by decide)) hS hb
/-! the costs as they were -/
def hp (c : Nat) (h : Nat → Nat → Nat) (g : Nat → Nat) : Nat → Nat → Nat := if c = 6 then (fun j => if j < 5 then h (j + 1) else g) else (fun j => if j = c then g else h j)
def hc (c : Nat) : Nat := if c = 6 then 6 else c + 1
def HR (o : Nat) (μ : Mem) (d : Sp) (c : Nat) (h : Nat → Nat → Nat) : Prop := μ o 11 = nI c ∧ c ≤ 6 ∧ ∀ j, j < c → ∀ k, d.U k → μ (o + 7) (169 * j + k) = nI (h j k)
theorem q_keeps2 (hd : d.ok) (hL : LR L o) (hg : Rg o μ d g) {c : Nat} {h : Nat → Nat → Nat} (hc : μ o 11 = nI c) (hc5 : c ≤ 5) (hH : ∀ j, j < c → ∀ k, d.U k → μ (o + 7) (169 * j + k) = nI (h j k)) : ∃ μ', fX9_keeps_50 L o μ = some μ' ∧ (∀ x, x ≠ o + 7 → x ≠ o → μ' x = μ x) ∧ (∀ j, j ≠ 11 → μ' o j = μ o j) ∧ HR o μ' d (c + 1) (fun j => if j = c then g else h j) := by
  have h6 := hL.2.2.2.2.2.1
  have h7 := hL.2.2.2.2.2.2.1
  unfold fX9_keeps_50
  refine Exists.elim (lpI (fun kk a μ => fX9_keeps_52 L o kk (nI a) μ) (fun μ => pu μ o 11 ((μ o 11) + (1 : Int32)) (fun μ1 => some μ1)) (fun a μ' => (∀ x, x ≠ o + 7 → μ' x = μ x) ∧ (∀ j, j < a → μ' (o + 7) (169 * c + j) = μ (o + 6) j) ∧ ∀ j, j < 169 * c → μ' (o + 7) j = μ (o + 7) j) 169 ?_ ?_ 169 0 μ FU rfl (FU_gt (by decide)) ⟨fun _ _ => rfl, fun j h => by omega, fun _ _ => rfl⟩) ?_
  · intro kk μ' h
    simp only [fX9_keeps_52]
    unfold fX9_keeps_52_b
    rw [if_pos (by decide)]
  · intro kk a μ' ha ⟨a1, a2, a3⟩
    have hna : ¬ (169 : Int32) ≤ nI a := nI_ge (b := 169) (by omega) (by decide)
    simp only [fX9_keeps_52]
    unfold fX9_keeps_52_b
    rw [if_neg hna, ald_s (by omega) (by omega), a1 o (by omega), hc, show (169 : Int32) = nI 169 from rfl, pk_mul, nI_add, ast_s (by omega) (by omega), ltx_s, nI_1]
    refine ⟨_, rfl, fun x hx => by rw [up_ne hx]; exact a1 x hx, fun j hj => ?_, fun j hj => ?_⟩
    · by_cases q : j = a
      · subst q
        rw [up_aa, a1 _ (by omega)]
      · rw [up_an (by omega)]
        exact a2 j (by omega)
    · rw [up_an (by omega)]
      exact a3 j hj
  · intro μ1 ⟨c1, c2, c3, c4⟩
    refine ⟨_, c1, fun x hx hx2 => ?_, fun j hj => ?_, ?_, by omega, fun j hj k hk => ?_⟩
    · rw [up_ne hx2]
      exact c2 x hx
    · rw [up_an hj, c2 _ (by omega)]
    · rw [up_aa, c2 _ (by omega), hc, nI_1]
    · have hk1 := Sp.Ult hd hk
      rw [up_ne (by omega)]
      by_cases q : j = c
      · subst q
        show _ = nI ((if j = j then g else h j) k)
        rw [c3 k (by omega), if_pos rfl]
        exact hg k hk
      · show _ = nI ((if j = c then g else h j) k)
        rw [c4 _ (by omega), if_neg q]
        exact hH j (by omega) k hk
theorem q_keeps (hd : d.ok) (hL : LR L o) (hg : Rg o μ d g) {c : Nat} {h : Nat → Nat → Nat} (hH : HR o μ d c h) : ∃ μ', fX9_keeps L o μ = some μ' ∧ (∀ x, x ≠ o + 7 → x ≠ o → μ' x = μ x) ∧ (∀ j, j ≠ 11 → μ' o j = μ o j) ∧ HR o μ' d (hc c) (hp c h g) := by
  have h7 := hL.2.2.2.2.2.2.1
  obtain ⟨hc0, hc6, hH⟩ := hH
  unfold fX9_keeps
  by_cases q6 : c = 6
  · subst q6
    rw [hc0, if_pos (by decide)]
    refine Exists.elim (lpI (fun kk a μ => fX9_keeps_11 L o kk (nI a) μ) (fun μ => pu μ o 11 ((μ o 11) - (1 : Int32)) (fun μ5 => fX9_keeps_50 L o μ5)) (fun a μ' => (∀ x, x ≠ o + 7 → μ' x = μ x) ∧ (∀ j, j < a → μ' (o + 7) j = μ (o + 7) (j + 169)) ∧ ∀ j, a ≤ j → μ' (o + 7) j = μ (o + 7) j) 845 ?_ ?_ 845 0 μ FU rfl (FU_gt (by decide)) ⟨fun _ _ => rfl, fun j h => by omega, fun _ _ => rfl⟩) ?_
    · intro kk μ' h
      simp only [fX9_keeps_11]
      unfold fX9_keeps_11_b
      rw [if_pos (by decide)]
    · intro kk a μ' ha ⟨a1, a2, a3⟩
      have hna : ¬ (845 : Int32) ≤ nI a := nI_ge (b := 845) (by omega) (by decide)
      simp only [fX9_keeps_11]
      unfold fX9_keeps_11_b
      rw [if_neg hna, show (169 : Int32) = nI 169 from rfl, nI_add, ald_s (by omega) (by omega), ast_s (by omega) (by omega), ltx_s, nI_1]
      refine ⟨_, rfl, fun x hx => by rw [up_ne hx]; exact a1 x hx, fun j hj => ?_, fun j hj => ?_⟩
      · by_cases q : j = a
        · subst q
          rw [up_aa, a3 _ (by omega)]
        · rw [up_an q]
          exact a2 j (by omega)
      · rw [up_an (by omega)]
        exact a3 j (by omega)
    · intro μ1 ⟨c1, c2, c3⟩
      have e1 : fX9_keeps_11 L o FU (0 : Int32) μ = _ := c1
      rw [e1, pu_s, c2 o (by omega), hc0]
      obtain ⟨μ2, k1, k2, k3, k4⟩ := q_keeps2 (μ := up μ1 o 11 (nI 6 - 1)) (c := 5) (h := fun j => h (j + 1)) hd hL (g := g) (fun k hk => by rw [up_ne (by omega), c2 _ (by omega)]; exact hg k hk) (by rw [up_aa]; decide) (by omega) (fun j hj k hk => by
        have hk1 := Sp.Ult hd hk
        rw [up_ne (by omega), c3.1 _ (by omega), show 169 * j + k + 169 = 169 * (j + 1) + k by omega]
        exact hH (j + 1) (by omega) k hk)
      refine ⟨μ2, k1, fun x hx hx2 => ?_, fun j hj => ?_, ?_⟩
      · rw [k2 x hx hx2, up_ne hx2]
        exact c2 x hx
      · rw [k3 j hj, up_an hj, c2 _ (by omega)]
      · obtain ⟨l1, l2, l3⟩ := k4
        refine ⟨l1, l2, fun j hj k hk => ?_⟩
        have hj : j < 6 := hj
        rw [l3 j hj k hk]
        unfold hp
        rw [if_pos rfl]
        show nI ((if j = 5 then g else h (j + 1)) k) = nI ((if j < 5 then h (j + 1) else g) k)
        by_cases q : j = 5
        · rw [if_pos q, if_neg (by omega)]
        · rw [if_neg q, if_pos (by omega)]
  · rw [hc0, if_neg (show ¬ nI c = (6 : Int32) from fun q => nNe (b := 6) q6 (by omega) (by decide) q)]
    obtain ⟨μ2, k1, k2, k3, k4⟩ := q_keeps2 (c := c) (h := h) hd hL hg hc0 (by omega) hH
    refine ⟨μ2, k1, k2, k3, ?_⟩
    unfold hp hc
    rw [if_neg q6, if_neg q6]
    exact k4
theorem q_undo (hd : d.ok) (hL : LR L o) {c : Nat} {h : Nat → Nat → Nat} (hH : HR o μ d (c + 1) h) : ∃ μ', fX9_undo L o μ = some (nI c, μ') ∧ (∀ x, x ≠ o + 6 → x ≠ o → μ' x = μ x) ∧ (∀ j, j ≠ 11 → μ' o j = μ o j) ∧ HR o μ' d c h ∧ Rg o μ' d (h c) := by
  have h6 := hL.2.2.2.2.2.1
  have h7 := hL.2.2.2.2.2.2.1
  obtain ⟨hc0, hc6, hH⟩ := hH
  unfold fX9_undo
  rw [hc0, if_neg (nI_ne0 (by omega) (by omega)), pu_s, show nI (c + 1) - 1 = nI c from nI_pred c]
  refine Exists.elim (lpI (fun kk a μ => fX9_undo_22 L o kk (nI a) μ) (fun μ => some ((μ o 11), μ)) (fun a μ' => (∀ x, x ≠ o + 6 → μ' x = up μ o 11 (nI c) x) ∧ ∀ j, j < a → μ' (o + 6) j = μ (o + 7) (169 * c + j)) 169 ?_ ?_ 169 0 (up μ o 11 (nI c)) FU rfl (FU_gt (by decide)) ⟨fun _ _ => rfl, fun j h => by omega⟩) ?_
  · intro kk μ' h
    simp only [fX9_undo_22]
    unfold fX9_undo_22_b
    rw [if_pos (by decide)]
  · intro kk a μ' ha ⟨a1, a2⟩
    have hna : ¬ (169 : Int32) ≤ nI a := nI_ge (b := 169) (by omega) (by decide)
    have e11 : μ' o 11 = nI c := by rw [a1 o (by omega), up_aa]
    simp only [fX9_undo_22]
    unfold fX9_undo_22_b
    rw [if_neg hna, e11, show (169 : Int32) = nI 169 from rfl, pk_mul, nI_add, ald_s (by omega) (by omega), ast_s (by omega) (by omega), ltx_s, nI_1]
    refine ⟨_, rfl, fun x hx => by rw [up_ne hx]; exact a1 x hx, fun j hj => ?_⟩
    by_cases q : j = a
    · subst q
      rw [up_aa, a1 _ (by omega), up_ne (by omega)]
    · rw [up_an q]
      exact a2 j (by omega)
  · intro μ1 ⟨c1, c2, c3⟩
    have e11 : μ1 o 11 = nI c := by rw [c2 o (by omega), up_aa]
    refine ⟨μ1, ?_, fun x hx hx2 => ?_, fun j hj => ?_, ⟨e11, by omega, fun j hj k hk => ?_⟩, fun k hk => ?_⟩
    · have e1 : fX9_undo_22 L o FU (0 : Int32) (up μ o 11 (nI c)) = _ := c1
      rw [e1, e11]
    · rw [c2 x hx, up_ne hx2]
    · rw [c2 o (by omega), up_an hj]
    · rw [c2 _ (by omega), up_ne (by omega)]
      exact hH j (by omega) k hk
    · have hk1 := Sp.Ult hd hk
      rw [c3 k (by omega)]
      exact hH c (by omega) k hk
/-! the class's history: a ring of six rows -/
def rg (s c j : Nat) : Nat := (s + 6 - c + j) % 6
def LH (L : Nat → Nat) (o : Nat) : Prop := L (o + 1) = 6 ∧ ∀ i, i < 6 → L (o + 1 + 1 + 2 * i + 1) = 169
def HC (o : Nat) (μ : Mem) (d : Sp) (c : Nat) (h : Nat → Nat → Nat) (s : Nat) : Prop := μ o 1 = nI s ∧ s < 6 ∧ μ o 2 = nI c ∧ c ≤ 6 ∧ ∀ j, j < c → ∀ k, d.U k → μ (o + 1 + 1 + 2 * rg s c j + 1) (cx k) = nI (h j k)
theorem c_keep {w : Nat} (hd : d.ok) (hLC : LC L o) (hL : LH L w) (hwo : o + 8 < w) (hg : Cg o μ d g) {c s : Nat} {h : Nat → Nat → Nat} (hH : HC w μ d c h s) : ∃ μ' s', fX1_keep L w o μ = some μ' ∧ (∀ x, x < w → μ' x = μ x) ∧ (∀ x, w + 13 < x → μ' x = μ x) ∧ HC w μ' d (hc c) (hp c h g) s' := by
  obtain ⟨h1, hs, h2, hc6, hH⟩ := hH
  obtain ⟨l1, l2⟩ := hL
  obtain ⟨μ1, q1, q2, q3, q4⟩ := r_take (L := L) (μ := μ) (r := w + 1 + 1 + 2 * s) (r1 := o + 7) (l2 s hs) hLC.2.2.2 (by decide) (by omega)
  have e1 : μ1 w 1 = nI s := by rw [q2 w (by omega), h1]
  have e2 : μ1 w 2 = nI c := by rw [q2 w (by omega), h2]
  have hc' : (if (nI c + (1 : Int32)) < nI 6 then nI c + (1 : Int32) else nI 6) = nI (hc c) := by
    rw [nI_1, nif]
    congr 1
    simp only [nlt (show c + 1 < 2 ^ 31 by omega) (show 6 < 2 ^ 31 by decide)]
    unfold hc
    split <;> split <;> omega
  refine ⟨up (up μ1 w 1 (nI (if s + 1 < 6 then s + 1 else 0))) w 2 (nI (hc c)), (if s + 1 < 6 then s + 1 else 0), ?_, fun x hx => ?_, fun x hx => ?_, ?_⟩
  · unfold fX1_keep fX1_keep_70 fX0_copyTo
    rw [h1, if_neg (nI_pos (by omega)), l1, if_neg (nI_ge hs (by decide)), aaq_s (by omega) (by omega), aaq_s (by omega) (by omega), nI_clamp (by omega), q1, bv_s, bv_s, e1]
    simp only [pu_s, ltx_s]
    rw [up_an (show (2 : Nat) ≠ 1 by decide), up_an (show (2 : Nat) ≠ 1 by decide), e2, hc', nI_1]
    by_cases q : s + 1 < 6
    · rw [if_neg (nI_ge q (by decide)), if_pos q]
    · rw [if_pos (nI_le (by omega) (by omega)), if_neg q]
      rfl
  · rw [up_ne (by omega), up_ne (by omega)]
    exact q2 x (by omega)
  · rw [up_ne (by omega), up_ne (by omega)]
    exact q2 x (by omega)
  · refine ⟨?_, by split <;> omega, up_aa _ _ _ _, by unfold hc; split <;> omega, fun j hj k hk => ?_⟩
    · rw [up_an (by decide), up_aa]
    · rw [up_ne (by omega), up_ne (by omega)]
      have hnew : ∀ k, d.U k → μ1 (w + 1 + 1 + 2 * s + 1) (cx k) = nI (g k) := fun k hk => by rw [q3 _ (cx_lt hd hk)]; exact hg k hk
      have hold : ∀ i, i ≠ s → ∀ x, μ1 (w + 1 + 1 + 2 * i + 1) x = μ (w + 1 + 1 + 2 * i + 1) x := fun i hi x => by rw [q2 _ (by omega)]
      unfold hc at hj ⊢
      unfold hp
      by_cases q6 : c = 6
      · subst q6
        rw [if_pos rfl] at hj
        rw [if_pos rfl, if_pos rfl]
        by_cases qj : j < 5
        · have er : rg (if s + 1 < 6 then s + 1 else 0) 6 j = rg s 6 (j + 1) := by unfold rg; split <;> omega
          have ne : rg s 6 (j + 1) ≠ s := by unfold rg; omega
          rw [er, if_pos qj, hold _ ne]
          exact hH (j + 1) (by omega) k hk
        · have er : rg (if s + 1 < 6 then s + 1 else 0) 6 j = s := by unfold rg; split <;> omega
          rw [er, if_neg qj]
          exact hnew k hk
      · rw [if_neg q6] at hj
        rw [if_neg q6, if_neg q6]
        by_cases qj : j = c
        · have er : rg (if s + 1 < 6 then s + 1 else 0) (c + 1) j = s := by unfold rg; split <;> omega
          rw [er, if_pos qj]
          exact hnew k hk
        · have er : rg (if s + 1 < 6 then s + 1 else 0) (c + 1) j = rg s c j := by unfold rg; split <;> omega
          have ne : rg s c j ≠ s := by unfold rg; omega
          rw [er, if_neg qj, hold _ ne]
          exact hH j (by omega) k hk
theorem c_giveBack {w : Nat} (hd : d.ok) (hLC : LC L o) (hL : LH L w) (hwo : o + 8 < w) {c s : Nat} {h : Nat → Nat → Nat} (hH : HC w μ d (c + 1) h s) : ∃ μ' s', fX1_giveBack L w o μ = some (1, μ') ∧ (∀ x, x ≠ o + 7 + 1 → x ≠ w → μ' x = μ x) ∧ HC w μ' d c h s' ∧ Cg o μ' d (h c) := by
  obtain ⟨h1, hs, h2, hc6, hH⟩ := hH
  obtain ⟨l1, l2⟩ := hL
  have hlast : ∀ r, r = rg s (c + 1) c → ∃ μ' s', fX1_giveBack_23 L w o (nI r) μ = some (1, μ') ∧ (∀ x, x ≠ o + 7 + 1 → x ≠ w → μ' x = μ x) ∧ HC w μ' d c h s' ∧ Cg o μ' d (h c) := by
    intro r hr
    have hr6 : r < 6 := by subst hr; unfold rg; omega
    obtain ⟨μ1, q1, q2, q3, q4⟩ := r_take (L := L) (μ := μ) (r := o + 7) (r1 := w + 1 + 1 + 2 * r) hLC.2.2.2 (l2 r hr6) (by decide) (by omega)
    have e2 : μ1 w 2 = nI (c + 1) := by rw [q2 w (by omega), h2]
    refine ⟨up (up μ1 w 1 (nI r)) w 2 (nI c), r, ?_, fun x hx hx2 => ?_, ⟨?_, hr6, up_aa _ _ _ _, by omega, fun j hj k hk => ?_⟩, fun k hk => ?_⟩
    · unfold fX1_giveBack_23 fX0_copyFrom
      rw [h2, if_neg (nI_ne0 (by omega) (by omega)), if_neg (nI_pos (by omega)), l1, if_neg (nI_ge hr6 (by decide)), aaq_s (by omega) (by omega), aaq_s (by omega) (by omega), nI_clamp (by omega), q1, bv_s, bv_s]
      simp only [pu_s]
      rw [up_an (show (2 : Nat) ≠ 1 by decide), e2, show nI (c + 1) - 1 = nI c from nI_pred c]
    · rw [up_ne hx2, up_ne hx2]
      exact q2 x hx
    · rw [up_an (by decide), up_aa]
    · rw [up_ne (by omega), up_ne (by omega), q2 _ (by omega)]
      have er : rg r c j = rg s (c + 1) j := by subst hr; unfold rg; omega
      rw [er]
      exact hH j (by omega) k hk
    · rw [up_ne (by omega), up_ne (by omega), q3 _ (cx_lt hd hk), hr]
      exact hH c (by omega) k hk
  unfold fX1_giveBack
  rw [h1, l1]
  by_cases q : s = 0
  · subst q
    rw [if_pos (by decide)]
    exact hlast 5 (by unfold rg; omega)
  · rw [if_neg (fun e => by have := (nle0 (show s < 2 ^ 31 by omega)).mp e; omega)]
    obtain ⟨r, rfl⟩ : ∃ r, s = r + 1 := ⟨s - 1, by omega⟩
    rw [show nI (r + 1) - 1 = nI r from nI_pred r]
    exact hlast r (by unfold rg; omega)
end PH
