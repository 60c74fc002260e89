/-! the least and the greatest of a table -/
def mf (f : Nat → Nat) (s : Nat) : Nat → Nat
  | 0 => s
  | n + 1 => if mf f s n < f n then f n else mf f s n
theorem mf_le {f : Nat → Nat} {s t : Nat} (hs : s ≤ t) : ∀ n, (∀ k, k < n → f k ≤ t) → mf f s n ≤ t
  | 0, _ => hs
  | n + 1, h => by
    have h1 := mf_le hs n (fun k hk => h k (by omega))
    have h2 := h n (by omega)
    unfold mf
    split <;> omega
theorem mn_min (f : Nat → Nat) {s t : Nat} (h : s ≤ t) : ∀ n, mn f s n = if mn f t n < s then mn f t n else s
  | 0 => by
    show s = if t < s then t else s
    rw [if_neg (by omega)]
  | n + 1 => by
    have h1 := mn_min f h n
    unfold mn
    rw [h1]
    split <;> split <;> (try split) <;> (try split) <;> omega
def gT (d : Sp) (g : Nat → Nat) (t : Nat) : Nat → Nat
  | 0 => 0
  | a + 1 => mf (fun b => g (pi t a b)) (gT d g t a) (d.z (d.hi t))
def lT (d : Sp) (g : Nat → Nat) (t : Nat) : Nat → Nat
  | 0 => d.tp
  | a + 1 => mn (fun b => g (pi t a b)) (lT d g t a) (d.z (d.hi t))
theorem gT_le {d : Sp} {g : Nat → Nat} (hb : gb d g) {t : Nat} (ht : t < d.T) : ∀ a, a ≤ d.z (d.lo t) → gT d g t a ≤ d.tp
  | 0, _ => Nat.zero_le _
  | a + 1, h => mf_le (gT_le hb ht a (by omega)) _ (fun b hb2 => hb _ (Sp.Up ht (by omega) hb2))
theorem lT_e {d : Sp} (g : Nat → Nat) (t : Nat) : ∀ a, lT d g t a = mn (fun a => mn (fun b => g (pk t 0 a b)) d.tp (d.z (d.hi t))) d.tp a
  | 0 => rfl
  | a + 1 => by
    have h1 := lT_e (d := d) g t a
    have h2 : lT d g t a ≤ d.tp := by rw [h1]; exact mn_le _ _ _
    show mn (fun b => g (pi t a b)) (lT d g t a) (d.z (d.hi t)) = _
    rw [mn_min _ h2]
    conv => rhs; unfold mn
    rw [← h1]
    rfl
section PT
variable {L : Nat → Nat} {o : Nat} {μ : Mem} {d : Sp} {g : Nat → Nat}
theorem c_greatest (hd : d.ok) (hL : LC L o) (hC : CS o μ d) (hg : Cg o μ d g) (hb : gb d g) {t : Nat} (ht : t < d.T) : fX0_greatestOfTable L o (nI t) μ = some (nI (gT d g t (d.z (d.lo t))), μ) := by
  have htp := hd.2.2.2.2.2
  have hl := Sp.hl hd ht
  have hz := Sp.hz hd hl.1
  have hz2 := Sp.hz hd hl.2.1
  unfold fX0_greatestOfTable
  have key := lpC (fun k a => fX0_greatestOfTable_4 L o k (nI t) (nI (gT d g t a)) (nI a) μ) (some (nI (gT d g t (d.z (d.lo t))), μ)) (d.z (d.lo t)) (fun k => by
      simp only [fX0_greatestOfTable_4]
      unfold fX0_greatestOfTable_4_b
      rw [c_valuesOn0 hd hL hC ht, bd_s, if_pos (nI_le (Nat.le_refl _) (by omega))]) (fun k a ha => by
      simp only [fX0_greatestOfTable_4]
      unfold fX0_greatestOfTable_4_b
      rw [c_valuesOn0 hd hL hC ht, bd_s, if_neg (nI_ge ha (by omega))]
      have k2 := lpC (fun kk b => fX0_greatestOfTable_17 L o (fX0_greatestOfTable_4 L o k) kk (nI t) (nI (mf (fun b => g (pi t a b)) (gT d g t a) b)) (nI a) (nI b) μ) (fX0_greatestOfTable_4 L o k (nI t) (nI (gT d g t (a + 1))) (nI (a + 1)) μ) (d.z (d.hi t)) (fun kk => by
        simp only [fX0_greatestOfTable_17]
        unfold fX0_greatestOfTable_17_b
        rw [c_valuesOn1 hd hL hC ht, bd_s, if_pos (nI_le (Nat.le_refl _) (by omega)), ltx_s, nI_1]
        rfl) (fun kk b hb2 => by
        have b1 := gT_le hb ht a (by omega)
        have b2 := mf_le (f := fun b => g (pi t a b)) b1 b (fun k hk => hb _ (Sp.Up ht ha (by omega)))
        have b3 := hb _ (Sp.Up ht ha hb2)
        simp only [fX0_greatestOfTable_17]
        unfold fX0_greatestOfTable_17_b
        rw [c_valuesOn1 hd hL hC ht, bd_s, if_neg (nI_ge hb2 (by omega)), c_pair hd hL hg ht ha hb2, bd_s, ltx_s, ltx_s, nI_1, nif]
        simp only [nlt (show mf (fun b => g (pi t a b)) (gT d g t a) b < 2 ^ 31 by omega) (show g (pi t a b) < 2 ^ 31 by omega), mf]) (d.z (d.hi t)) 0 FU (by omega) (FU_gt (by omega))
      exact k2) (d.z (d.lo t)) 0 FU (by omega) (FU_gt (by omega))
  exact key
theorem q_table42 (hd : d.ok) (hL : LR L o) (hC : RS o μ d) (hg : Rg o μ d g) (hb : gb d g) {t : Nat} (ht : t < d.T) (w : Int32) : fX9_table_42 L o FU (nI t) w (nI d.tp) (0 : Int32) (0 : Int32) μ = if w = 2 then some (nI (lT d g t (d.z (d.lo t))), μ) else some (nI (gT d g t (d.z (d.lo t))), μ) := by
  have htp := hd.2.2.2.2.2
  have hl := Sp.hl hd ht
  have hz := Sp.hz hd hl.1
  have hz2 := Sp.hz hd hl.2.1
  have key := lpC (fun k a => fX9_table_42 L o k (nI t) w (nI (lT d g t a)) (nI (gT d g t a)) (nI a) μ) (if w = 2 then some (nI (lT d g t (d.z (d.lo t))), μ) else some (nI (gT d g t (d.z (d.lo t))), μ)) (d.z (d.lo t)) (fun k => by
      simp only [fX9_table_42]
      unfold fX9_table_42_b
      rw [q_lo hd hL hC ht, q_many hd hL hC hl.1, if_pos (nI_le (Nat.le_refl _) (by omega))]) (fun k a ha => by
      simp only [fX9_table_42]
      unfold fX9_table_42_b
      rw [q_lo hd hL hC ht, q_many hd hL hC hl.1, if_neg (nI_ge ha (by omega))]
      have b0 : lT d g t a ≤ d.tp := by rw [lT_e]; exact mn_le _ _ _
      have b1 := gT_le hb ht a (by omega)
      have k2 := lpC (fun kk b => fX9_table_61 L o (fX9_table_42 L o k) kk (nI t) w (nI (mn (fun b => g (pi t a b)) (lT d g t a) b)) (nI (mf (fun b => g (pi t a b)) (gT d g t a) b)) (nI a) (nI b) μ) (fX9_table_42 L o k (nI t) w (nI (lT d g t (a + 1))) (nI (gT d g t (a + 1))) (nI (a + 1)) μ) (d.z (d.hi t)) (fun kk => by
        simp only [fX9_table_61]
        unfold fX9_table_61_b
        rw [q_hi hd hL hC ht, q_many hd hL hC hl.2.1, if_pos (nI_le (Nat.le_refl _) (by omega)), ltx_s, nI_1]
        rfl) (fun kk b hb2 => by
        have b4 := mn_le (fun b => g (pi t a b)) (lT d g t a) b
        have b2 := mf_le (f := fun b => g (pi t a b)) b1 b (fun k hk => hb _ (Sp.Up ht ha (by omega)))
        have b3 := hb _ (Sp.Up ht ha hb2)
        simp only [fX9_table_61]
        unfold fX9_table_61_b fX9_table_105 fX9_table_120
        rw [q_hi hd hL hC ht, q_many hd hL hC hl.2.1, if_neg (nI_ge hb2 (by omega)), show fX9_pairAt L (nI t) 0 (nI a) (nI b) μ = some (nI (pk t 0 a b), μ) from q_pairAt (s := 0) (by decide), bd_s, q_get hd hL hg (show d.U (pk t 0 a b) from Sp.Up ht ha hb2)]
        simp only [show pk t 0 a b = pi t a b from rfl, ltx_s, nI_1, nle (show mn (fun b => g (pi t a b)) (lT d g t a) b < 2 ^ 31 by omega) (show g (pi t a b) < 2 ^ 31 by omega), nle (show g (pi t a b) < 2 ^ 31 by omega) (show mf (fun b => g (pi t a b)) (gT d g t a) b < 2 ^ 31 by omega), mf, mn]
        split <;> split <;> (first | rw [if_neg (by omega)] | rw [if_pos (by omega)]) <;> (first | rw [if_neg (by omega)] | rw [if_pos (by omega)])) (d.z (d.hi t)) 0 FU (by omega) (FU_gt (by omega))
      exact k2) (d.z (d.lo t)) 0 FU (by omega) (FU_gt (by omega))
  exact key
end PT
