/-! what the class is told -/
def FrC (co : Nat) (μ' μ : Mem) : Prop := ∀ x, x ≠ co → x ≠ co + 1 + 1 → x ≠ co + 3 + 1 → x ≠ co + 5 + 1 → x ≠ co + 7 + 1 → μ' x = μ x
theorem cx_in {k k' : Nat} (h : k ≤ 168) (h' : k' ≤ 168) (e : cx k = cx k') : k = k' := by
  unfold cx at e
  split at e <;> split at e <;> omega
theorem CS.ext {o : Nat} {μ μ' : Mem} {d : Sp} (h : CS o μ d) (hf : FrC o μ' μ) (h4 : μ' o 4 = μ o 4) (h5 : μ' o 5 = μ o 5) (h6 : μ' o 6 = μ o 6) (z : μ' (o + 1 + 1) = μ (o + 1 + 1)) (l : μ' (o + 3 + 1) = μ (o + 3 + 1)) (r : μ' (o + 5 + 1) = μ (o + 5 + 1)) : CS o μ' d :=
  ⟨by rw [h4]; exact h.1, by rw [h5]; exact h.2.1, by rw [h6]; exact h.2.2.1, fun i hi => by rw [z]; exact h.2.2.2.1 i hi, fun i hi => by rw [l]; exact h.2.2.2.2.1 i hi, fun i hi => by rw [r]; exact h.2.2.2.2.2 i hi⟩
section PRd
variable {L : Nat → Nat} {to ro co : Nat} {μ : Mem} {n : Nat} {x : Nat → Nat} {d : Sp} {g v : Nat → Nat}
theorem KC.put (hK : KC co μ d g) {k w : Nat} (hk : k ≤ 168) : KC co (up μ (co + 7 + 1) (cx k) (nI w)) d (gu g k w) := by
  refine ⟨hK.1.of (up_ne (by omega)) (up_ne (by omega)) (up_ne (by omega)) (up_ne (by omega)), fun j hj => ?_⟩
  by_cases q : j = k
  · subst q
    rw [up_aa, gu_at]
  · rw [up_an (fun e => q (cx_in hj hk e)), gu_ne q]
    exact hK.2 j hj
theorem FrC.put (k : Nat) (w : Int32) : FrC co (up μ (co + 7 + 1) k w) μ := fun x _ _ _ _ q => up_ne q
theorem FrC.trans {μ1 μ2 : Mem} (h1 : FrC co μ1 μ) (h2 : FrC co μ2 μ1) : FrC co μ2 μ := fun x a b c d e => (h2 x a b c d e).trans (h1 x a b c d e)
theorem c_tellTop (hK : KC co μ d g) {w : Nat} (hw : w ≤ 99) : ∃ μ', FrC co μ' μ ∧ ((fX0_tellTop L co (nI w) μ = some (1, μ') ∧ 1 ≤ w ∧ KC co μ' (mkSp d.N d.z d.T d.lo d.hi w) g) ∨ (fX0_tellTop L co (nI w) μ = some (0, μ') ∧ ¬ 1 ≤ w)) := by
  unfold fX0_tellTop
  by_cases q : 1 ≤ w
  · refine ⟨up μ co 6 (nI w), fun x a _ _ _ _ => up_ne a, Or.inl ⟨?_, q, ⟨?_, ?_, ?_, ?_, ?_, ?_⟩, ?_⟩⟩
    · rw [if_neg (show ¬ nI w < (1 : Int32) from nI_nlt (b := 1) q (by omega)), if_pos (show nI w ≤ (99 : Int32) from nI_le (b := 99) hw (by decide)), pu_s]
    · rw [up_an (by decide)]; exact hK.1.1
    · rw [up_an (by decide)]; exact hK.1.2.1
    · rw [up_aa]; rfl
    · intro i hi; rw [up_ne (by omega)]; exact hK.1.2.2.2.1 i hi
    · intro i hi; rw [up_ne (by omega)]; exact hK.1.2.2.2.2.1 i hi
    · intro i hi; rw [up_ne (by omega)]; exact hK.1.2.2.2.2.2 i hi
    · intro k hk; rw [up_ne (by omega)]; exact hK.2 k hk
  · refine ⟨μ, fun _ _ _ _ _ _ => rfl, Or.inr ⟨?_, q⟩⟩
    rw [if_pos (show nI w < (1 : Int32) from nI_lt (b := 1) (by omega) (by decide))]
theorem c_addName (hd : d.ok) (hL : LC L co) (hK : KC co μ d g) {w : Nat} (hw : w ≤ 99) : ∃ μ', FrC co μ' μ ∧ ((fX0_addName L co (nI w) μ = some (1, μ') ∧ (d.N < 6 ∧ 2 ≤ w ∧ w ≤ 4) ∧ KC co μ' (mkSp (d.N + 1) (gu d.z d.N w) d.T d.lo d.hi d.tp) g) ∨ (fX0_addName L co (nI w) μ = some (0, μ') ∧ ¬ (d.N < 6 ∧ 2 ≤ w ∧ w ≤ 4))) := by
  have hN := hd.1
  unfold fX0_addName
  rw [hK.1.1]
  by_cases q1 : d.N < 6
  · rw [if_neg (show ¬ (6 : Int32) ≤ nI d.N from nI_ge (b := 6) q1 (by decide))]
    by_cases q2 : 2 ≤ w
    · rw [if_neg (show ¬ nI w < (2 : Int32) from nI_nlt (b := 2) q2 (by omega))]
      by_cases q3 : w ≤ 4
      · rw [if_pos (show nI w ≤ (4 : Int32) from nI_le (b := 4) q3 (by decide)), rset hL.1 q1 (by decide), bv_s, pu_s, up_ne (show co ≠ co + 1 + 1 by omega), hK.1.1, nI_1]
        refine ⟨_, fun x a b _ _ _ => by rw [up_ne a, up_ne b], Or.inl ⟨rfl, ⟨q1, q2, q3⟩, ⟨?_, ?_, ?_, ?_, ?_, ?_⟩, ?_⟩⟩
        · rw [up_aa]; rfl
        · rw [up_an (by decide), up_ne (by omega)]; exact hK.1.2.1
        · rw [up_an (by decide), up_ne (by omega)]; exact hK.1.2.2.1
        · intro i hi
          have hi : i < d.N + 1 := hi
          rw [up_ne (by omega)]
          show _ = nI (gu d.z d.N w i)
          by_cases q : i = d.N
          · rw [q, up_aa, gu_at]
          · rw [up_an q, gu_ne q]; exact hK.1.2.2.2.1 i (by omega)
        · intro i hi; rw [up_ne (by omega), up_ne (by omega)]; exact hK.1.2.2.2.2.1 i hi
        · intro i hi; rw [up_ne (by omega), up_ne (by omega)]; exact hK.1.2.2.2.2.2 i hi
        · intro k hk; rw [up_ne (by omega), up_ne (by omega)]; exact hK.2 k hk
      · rw [if_neg (show ¬ nI w ≤ (4 : Int32) from nI_ge (a := 4) (by omega) (by omega))]
        exact ⟨μ, fun _ _ _ _ _ _ => rfl, Or.inr ⟨rfl, by omega⟩⟩
    · rw [if_pos (show nI w < (2 : Int32) from nI_lt (b := 2) (by omega) (by decide))]
      exact ⟨μ, fun _ _ _ _ _ _ => rfl, Or.inr ⟨rfl, by omega⟩⟩
  · rw [if_pos (show (6 : Int32) ≤ nI d.N from nI_le (a := 6) (by omega) (by omega))]
    exact ⟨μ, fun _ _ _ _ _ _ => rfl, Or.inr ⟨rfl, by omega⟩⟩
theorem Vx_i (hd : d.ok) {i a : Nat} (hi : i ≤ 99) (ha : a ≤ 99) : Vx d (nI i) (nI a) → i < d.N ∧ a < d.z i := by
  rintro ⟨i', a', h1, h2, e1, e2⟩
  have hN := hd.1
  have hz := Sp.hz hd h1
  have e1 := (nI_eq (by omega) (by omega)).mp e1
  have e2 := (nI_eq (by omega) (by omega)).mp e2
  subst e1 e2
  exact ⟨h1, h2⟩
theorem c_tellSingle (hd : d.ok) (hL : LC L co) (hK : KC co μ d g) {i a w : Nat} (hi : i ≤ 99) (ha : a ≤ 99) : ∃ μ', FrC co μ' μ ∧ ((fX0_tellSingle L co (nI i) (nI a) (nI w) μ = some (1, μ') ∧ (i < d.N ∧ a < d.z i) ∧ KC co μ' d (gu g (si i a) w)) ∨ (fX0_tellSingle L co (nI i) (nI a) (nI w) μ = some (0, μ') ∧ ¬ (i < d.N ∧ a < d.z i))) := by
  unfold fX0_tellSingle
  by_cases q : i < d.N ∧ a < d.z i
  · rw [c_hasValue_y hd hL hK.1 q.1 q.2, bd_s, if_neg (by decide), c_setSingle hd hL q.1 q.2, bv_s]
    have hk := si_lt hd q.1 q.2
    exact ⟨_, FrC.put _ _, Or.inl ⟨rfl, q, hK.put (by omega)⟩⟩
  · rw [c_hasValue_n hd hL hK.1 (fun e => q (Vx_i hd hi ha e)), bd_s, if_pos rfl]
    exact ⟨μ, fun _ _ _ _ _ _ => rfl, Or.inr ⟨rfl, q⟩⟩
theorem Px_i (hd : d.ok) {t a b : Nat} (ht : t ≤ 99) (ha : a ≤ 99) (hb : b ≤ 99) : Px d (nI t) (nI a) (nI b) → t < d.T ∧ a < d.z (d.lo t) ∧ b < d.z (d.hi t) := by
  rintro ⟨t', a', b', h1, h2, h3, e1, e2, e3⟩
  have hT := hd.2.2.1
  have hl := Sp.hl hd h1
  have hz := Sp.hz hd hl.1
  have hz2 := Sp.hz hd hl.2.1
  have e1 := (nI_eq (by omega) (by omega)).mp e1
  have e2 := (nI_eq (by omega) (by omega)).mp e2
  have e3 := (nI_eq (by omega) (by omega)).mp e3
  subst e1 e2 e3
  exact ⟨h1, h2, h3⟩
theorem c_tellPair (hd : d.ok) (hL : LC L co) (hK : KC co μ d g) {t a b w : Nat} (ht : t ≤ 99) (ha : a ≤ 99) (hb : b ≤ 99) : ∃ μ', FrC co μ' μ ∧ ((fX0_tellPair L co (nI t) (nI a) (nI b) (nI w) μ = some (1, μ') ∧ (t < d.T ∧ a < d.z (d.lo t) ∧ b < d.z (d.hi t)) ∧ KC co μ' d (gu g (pi t a b) w)) ∨ (fX0_tellPair L co (nI t) (nI a) (nI b) (nI w) μ = some (0, μ') ∧ ¬ (t < d.T ∧ a < d.z (d.lo t) ∧ b < d.z (d.hi t)))) := by
  unfold fX0_tellPair
  by_cases q : t < d.T ∧ a < d.z (d.lo t) ∧ b < d.z (d.hi t)
  · rw [c_hasPair_y hd hL hK.1 q.1 q.2.1 q.2.2, bd_s, if_neg (by decide), c_setPair hd hL q.1 q.2.1 q.2.2, bv_s]
    have hk := pi_lt hd q.1 q.2.1 q.2.2
    exact ⟨_, FrC.put _ _, Or.inl ⟨rfl, q, hK.put (by omega)⟩⟩
  · rw [c_hasPair_n hd hL hK.1 (fun e => q (Px_i hd ht ha hb e)), bd_s, if_pos rfl]
    exact ⟨μ, fun _ _ _ _ _ _ => rfl, Or.inr ⟨rfl, q⟩⟩
theorem c_isJoined (hd : d.ok) (hL : LC L co) (hC : CS co μ d) {i j : Nat} (hi : i ≤ 99) (hj : j ≤ 99) : (fX0_isJoined L co (nI i) (nI j) μ = some (1, μ) ∧ ¬ ∀ t, t < d.T → ¬ (d.lo t = i ∧ d.hi t = j)) ∨ (fX0_isJoined L co (nI i) (nI j) μ = some (0, μ) ∧ ∀ t, t < d.T → ¬ (d.lo t = i ∧ d.hi t = j)) := by
  have hN := hd.1
  have hT := hd.2.2.1
  have key : ∀ (r a f : Nat), a + r = d.T → r < f → (∀ t, t < a → ¬ (d.lo t = i ∧ d.hi t = j)) → (fX0_isJoined_2 L co f (nI i) (nI j) (nI a) μ = some (1, μ) ∧ ¬ ∀ t, t < d.T → ¬ (d.lo t = i ∧ d.hi t = j)) ∨ (fX0_isJoined_2 L co f (nI i) (nI j) (nI a) μ = some (0, μ) ∧ ∀ t, t < d.T → ¬ (d.lo t = i ∧ d.hi t = j)) := by
    intro r
    induction r with
    | zero =>
      intro a f h1 h2 h3
      obtain ⟨f, rfl⟩ : ∃ j, f = j + 1 := ⟨f - 1, by omega⟩
      have h1 : a = d.T := by omega
      subst h1
      right
      refine ⟨?_, h3⟩
      simp only [fX0_isJoined_2]
      unfold fX0_isJoined_2_b
      rw [hC.2.1, if_pos (nI_le (Nat.le_refl _) (by omega))]
    | succ r ih =>
      intro a f h1 h2 h3
      obtain ⟨f, rfl⟩ : ∃ j, f = j + 1 := ⟨f - 1, by omega⟩
      have ha : a < d.T := by omega
      have hl := Sp.hl hd ha
      have hnext : (¬ (d.lo a = i ∧ d.hi a = j)) → _ := fun q => ih (a + 1) f (by omega) (by omega) (fun t ht => by
        by_cases e : t = a
        · subst e; exact q
        · exact h3 t (by omega))
      simp only [fX0_isJoined_2]
      unfold fX0_isJoined_2_b fX0_isJoined_32
      rw [hC.2.1, if_neg (nI_ge ha (by omega)), c_nameOn0 hd hL hC ha, bd_s, c_nameOn1 hd hL hC ha, bd_s]
      simp only [neq (show d.lo a < 2 ^ 31 by omega) (show i < 2 ^ 31 by omega), neq (show d.hi a < 2 ^ 31 by omega) (show j < 2 ^ 31 by omega), ltx_s, nI_1]
      by_cases q1 : d.lo a = i
      · rw [if_pos q1]
        by_cases q2 : d.hi a = j
        · rw [if_pos q2]
          exact Or.inl ⟨rfl, fun e => e a ha ⟨q1, q2⟩⟩
        · rw [if_neg q2]
          exact hnext (fun e => q2 e.2)
      · rw [if_neg q1]
        exact hnext (fun e => q1 e.1)
  exact key d.T 0 FU (by omega) (FU_gt (by omega)) (fun t ht => by omega)
theorem c_addTable (hP : PS d g) (hL : LC L co) (hK : KC co μ d g) {i j w : Nat} (hi : i ≤ 99) (hj : j ≤ 99) (hd' : (d.T < 9 ∧ i < d.N ∧ j < d.N ∧ i < j ∧ ∀ t, t < d.T → ¬ (d.lo t = i ∧ d.hi t = j)) → (mkSp d.N d.z (d.T + 1) (gu d.lo d.T i) (gu d.hi d.T j) d.tp).ok) :
    ∃ μ', FrC co μ' μ ∧ ((fX0_addTable L co (nI i) (nI j) (nI w) μ = some (1, μ') ∧ (d.T < 9 ∧ i < d.N ∧ j < d.N ∧ i < j ∧ ∀ t, t < d.T → ¬ (d.lo t = i ∧ d.hi t = j)) ∧ KC co μ' (mkSp d.N d.z (d.T + 1) (gu d.lo d.T i) (gu d.hi d.T j) d.tp) (fo (fun a g => gu g (pi d.T a a) w) (min (d.z i) (d.z j)) g)) ∨ (fX0_addTable L co (nI i) (nI j) (nI w) μ = some (0, μ') ∧ ¬ (d.T < 9 ∧ i < d.N ∧ j < d.N ∧ i < j ∧ ∀ t, t < d.T → ¬ (d.lo t = i ∧ d.hi t = j)))) := by
  have hd := hP.1
  have hN := hd.1
  have hT := hd.2.2.1
  have hno : ∀ {b : Option (Int32 × Mem)}, b = some (0, μ) → ¬ (d.T < 9 ∧ i < d.N ∧ j < d.N ∧ i < j ∧ ∀ t, t < d.T → ¬ (d.lo t = i ∧ d.hi t = j)) → ∃ μ', FrC co μ' μ ∧ ((b = some (1, μ') ∧ (d.T < 9 ∧ i < d.N ∧ j < d.N ∧ i < j ∧ ∀ t, t < d.T → ¬ (d.lo t = i ∧ d.hi t = j)) ∧ KC co μ' (mkSp d.N d.z (d.T + 1) (gu d.lo d.T i) (gu d.hi d.T j) d.tp) (fo (fun a g => gu g (pi d.T a a) w) (min (d.z i) (d.z j)) g)) ∨ (b = some (0, μ') ∧ ¬ (d.T < 9 ∧ i < d.N ∧ j < d.N ∧ i < j ∧ ∀ t, t < d.T → ¬ (d.lo t = i ∧ d.hi t = j)))) := fun e q => ⟨μ, fun _ _ _ _ _ _ => rfl, Or.inr ⟨e, q⟩⟩
  unfold fX0_addTable
  rw [hK.1.2.1]
  by_cases q1 : d.T < 9
  · rw [if_neg (show ¬ (9 : Int32) ≤ nI d.T from nI_ge (b := 9) q1 (by decide))]
    by_cases q2 : i < d.N
    · rw [c_hasName_y hd hK.1 q2, bd_s, if_neg (by decide)]
      by_cases q3 : j < d.N
      · rw [c_hasName_y hd hK.1 q3, bd_s, if_neg (by decide)]
        by_cases q4 : i < j
        · rw [if_neg (nI_ge q4 (by omega))]
          rcases c_isJoined hd hL hK.1 hi hj with ⟨e, q5⟩ | ⟨e, q5⟩
          · rw [e, bd_s, if_neg (by decide)]
            exact hno rfl (fun z => q5 z.2.2.2.2)
          · rw [e, bd_s, if_pos rfl, ltx_s, hK.1.2.1, rset hL.2.1 q1 (by decide), bv_s, rset hL.2.2.1 q1 (by decide), bv_s, pu_s, up_ne (show co ≠ co + 5 + 1 by omega), up_ne (show co ≠ co + 3 + 1 by omega), hK.1.2.1, nI_1]
            have hok := hd' ⟨q1, q2, q3, q4, q5⟩
            have hz := Sp.hz hd q2
            have hz2 := Sp.hz hd q3
            obtain ⟨μ1, hm⟩ : ∃ m, m = up (up (up μ (co + 3 + 1) d.T (nI i)) (co + 5 + 1) d.T (nI j)) co 5 (nI (d.T + 1)) := ⟨_, rfl⟩
            rw [← hm]
            have hF1 : FrC co μ1 μ := fun x a _ b c _ => by rw [hm, up_ne a, up_ne c, up_ne b]
            have hK1 : KC co μ1 (mkSp d.N d.z (d.T + 1) (gu d.lo d.T i) (gu d.hi d.T j) d.tp) g := by
              rw [hm]
              refine ⟨⟨?_, ?_, ?_, ?_, ?_, ?_⟩, ?_⟩
              · rw [up_an (by decide), up_ne (by omega), up_ne (by omega)]; exact hK.1.1
              · rw [up_aa]; rfl
              · rw [up_an (by decide), up_ne (by omega), up_ne (by omega)]; exact hK.1.2.2.1
              · intro k hk; rw [up_ne (by omega), up_ne (by omega), up_ne (by omega)]; exact hK.1.2.2.2.1 k hk
              · intro t ht
                have ht : t < d.T + 1 := ht
                rw [up_ne (by omega), up_ne (by omega)]
                show _ = nI (gu d.lo d.T i t)
                by_cases z : t = d.T
                · rw [z, up_aa, gu_at]
                · rw [up_an z, gu_ne z]; exact hK.1.2.2.2.2.1 t (by omega)
              · intro t ht
                have ht : t < d.T + 1 := ht
                rw [up_ne (by omega)]
                show _ = nI (gu d.hi d.T j t)
                by_cases z : t = d.T
                · rw [z, up_aa, gu_at]
                · rw [up_an z, gu_ne z, up_ne (by omega)]; exact hK.1.2.2.2.2.2 t (by omega)
              · intro k hk; rw [up_ne (by omega), up_ne (by omega), up_ne (by omega)]; exact hK.2 k hk
            refine Exists.elim (lpI (fun k a μ => fX0_addTable_80 L co k (nI i) (nI j) (nI w) (nI d.T) (nI a) μ) (fun μ => some ((1 : Int32), μ)) (fun a μ' => FrC co μ' μ ∧ KC co μ' (mkSp d.N d.z (d.T + 1) (gu d.lo d.T i) (gu d.hi d.T j) d.tp) (fo (fun a g => gu g (pi d.T a a) w) a g)) (min (d.z i) (d.z j)) ?_ ?_ (min (d.z i) (d.z j)) 0 μ1 FU (by omega) (FU_gt (by omega)) ⟨hF1, hK1⟩) ?_
            · intro k μ' ⟨a1, a2⟩
              simp only [fX0_addTable_80]
              unfold fX0_addTable_80_b
              rw [show fX0_valuesOf L co (nI i) μ' = some (nI (d.z i), μ') from c_valuesOf hok hL a2.1 q2, bd_s, show fX0_valuesOf L co (nI j) μ' = some (nI (d.z j), μ') from c_valuesOf hok hL a2.1 q3, bd_s, ltx_s, nif]
              simp only [nlt (show d.z j < 2 ^ 31 by omega) (show d.z i < 2 ^ 31 by omega)]
              rw [if_pos (nI_le (by split <;> omega) (by omega))]
            · intro k a μ' ha ⟨a1, a2⟩
              simp only [fX0_addTable_80]
              unfold fX0_addTable_80_b
              rw [show fX0_valuesOf L co (nI i) μ' = some (nI (d.z i), μ') from c_valuesOf hok hL a2.1 q2, bd_s, show fX0_valuesOf L co (nI j) μ' = some (nI (d.z j), μ') from c_valuesOf hok hL a2.1 q3, bd_s, ltx_s, nif]
              simp only [nlt (show d.z j < 2 ^ 31 by omega) (show d.z i < 2 ^ 31 by omega)]
              have ht1 : d.T < (mkSp d.N d.z (d.T + 1) (gu d.lo d.T i) (gu d.hi d.T j) d.tp).T := Nat.lt_succ_self _
              have ha1 : a < (mkSp d.N d.z (d.T + 1) (gu d.lo d.T i) (gu d.hi d.T j) d.tp).z ((mkSp d.N d.z (d.T + 1) (gu d.lo d.T i) (gu d.hi d.T j) d.tp).lo d.T) := by
                show a < d.z (gu d.lo d.T i d.T)
                rw [gu_at]; omega
              have ha2 : a < (mkSp d.N d.z (d.T + 1) (gu d.lo d.T i) (gu d.hi d.T j) d.tp).z ((mkSp d.N d.z (d.T + 1) (gu d.lo d.T i) (gu d.hi d.T j) d.tp).hi d.T) := by
                show a < d.z (gu d.hi d.T j d.T)
                rw [gu_at]; omega
              have hk := pi_lt hok ht1 ha1 ha2
              rw [if_neg (nI_ge (by split <;> omega) (by split <;> omega)), c_setPair hok hL ht1 ha1 ha2, bv_s, ltx_s, nI_1]
              exact ⟨_, rfl, FrC.trans a1 (FrC.put _ _), a2.put (by omega)⟩
            · intro μ2 ⟨l1, l2, l3⟩
              exact ⟨μ2, l2, Or.inl ⟨l1, ⟨q1, q2, q3, q4, q5⟩, l3⟩⟩
        · rw [if_pos (nI_le (by omega) (by omega))]
          exact hno rfl (fun z => q4 z.2.2.2.1)
      · rw [c_hasName_n hd hK.1 (fun ⟨k, hk, e⟩ => q3 (by have := (nI_eq (by omega) (by omega)).mp e; omega)), bd_s, if_pos rfl]
        exact hno rfl (fun z => q3 z.2.2.1)
    · rw [c_hasName_n hd hK.1 (fun ⟨k, hk, e⟩ => q2 (by have := (nI_eq (by omega) (by omega)).mp e; omega)), bd_s, if_pos rfl]
      exact hno rfl (fun z => q2 z.2.1)
  · rw [if_pos (show (9 : Int32) ≤ nI d.T from nI_le (a := 9) (by omega) (by omega))]
    exact hno rfl (fun z => q1 z.1)
end PRd
