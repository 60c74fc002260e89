theorem fv_congr {n : Nat} {K L ad ad1 : Nat → Nat} {f : Nat → Int32} {k kd : Nat} (hg : gs n K L) (h : isk n K k kd) (had : ∀ i, i < n → ad i = ad1 i) (hk : kd < 10) : fv ad f kd k = fv ad1 f kd k := by
  obtain ⟨g0, g1, g2, g3, g4, g5, g6, g7, g8, g9, -⟩ := hg
  rcases (show kd = 0 ∨ kd = 1 ∨ kd = 2 ∨ kd = 3 ∨ kd = 4 ∨ kd = 5 ∨ kd = 6 ∨ kd = 7 ∨ kd = 8 ∨ kd = 9 by omega) with rfl | rfl | rfl | rfl | rfl | rfl | rfl | rfl | rfl | rfl
  · have q := g0 k h
    simp only [fv, had _ q.1.1, had _ q.2.1.1, had _ q.2.2.1.1, had _ q.2.2.2.1]
  · have q := g1 k h
    simp only [fv, had _ q.1]
  · have q := g2 k h
    simp only [fv, had _ q.1]
  · have q := g3 k h
    simp only [fv, had _ q.1]
  · have q := g4 k h
    simp only [fv, had _ q.1.1, had _ q.2.1]
  · have q := g5 k h
    simp only [fv, had _ q.1.1, had _ q.2.1.1, had _ q.2.2.1]
  · have q := g6 k h
    simp only [fv, had _ q.1]
  · have q := g7 k h
    simp only [fv, had _ q.1]
  · have q := g8 k h
    simp only [fv, had _ q.1.1, had _ q.2.1.1, had _ q.2.2.1.1, had _ q.2.2.2.1.1, had _ q.2.2.2.2.1.1, had _ q.2.2.2.2.2.1.1, had _ q.2.2.2.2.2.2.1.1, had _ q.2.2.2.2.2.2.2.1.1, had _ q.2.2.2.2.2.2.2.2.1]
  · have q := fun j hj => (g9 k h j hj).1
    simp only [fv, had _ (q 0 (by decide)), had _ (q 1 (by decide)), had _ (q 2 (by decide)), had _ (q 3 (by decide)), had _ (q 4 (by decide)), had _ (q 5 (by decide)), had _ (q 6 (by decide)), had _ (q 7 (by decide)), had _ (q 8 (by decide)), had _ (q 9 (by decide)), had _ (q 10 (by decide)), had _ (q 11 (by decide)), had _ (q 12 (by decide)), had _ (q 13 (by decide)), had _ (q 14 (by decide)), had _ (q 15 (by decide))]
theorem ce_at {D : va_G} {cI cR : ClassId} {n : Nat} {K L ad ad1 : Nat → Nat} {f : Nat → Int32} {H : Heap} {k : Nat} (hg : gs n K L) (hk : k < n) (hK : K k < 12) (had : ∀ i, i < n → ad i = ad1 i) (h : va_at D vwCl (ad1 k, ce cI cR K L ad1 f k) H) : va_at D vwCl (ad k, ce cI cR K L ad f k) H := by
  rw [had k hk]
  by_cases h10 : K k = 10
  · rw [ce, if_pos h10] at h ⊢
    exact h
  · by_cases h11 : K k = 11
    · rw [ce, if_neg h10, if_pos h11] at h ⊢
      have h : H[ad1 k]? = some (vp_cell cR (L k, .inr (.inr (.inr (.inr (fun j => some (ad1 (k + 1 + 2 * j)))))))) := h
      show H[ad1 k]? = some (vp_cell cR (L k, .inr (.inr (.inr (.inr (fun j => some (ad (k + 1 + 2 * j))))))))
      rw [h]
      congr 1
      rw [vp_cell_q, vp_cell_q]
      apply arrV_congr
      intro j hj
      rw [had _ (hg.2.2.2.2.2.2.2.2.2.2 k ⟨hk, h11⟩ j hj).1]
    · rw [ce, if_neg h10, if_neg h11] at h ⊢
      rw [fv_congr hg (kd := K k) ⟨hk, rfl⟩ had (by omega)]
      exact h
theorem KK_lt : ∀ k, k < 73 → KK k < 12 := by
  intro k hk
  have h := List.all_eq_true.mp (show (List.range 73).all (fun k => decide (KK k < 12)) = true by decide +kernel) k (List.mem_range.mpr hk)
  simpa using h
def adJ (a b : Nat → Nat) : Nat → Nat := fun k => if k < 56 then a k else b (k - 56)
def μJ (x y : Mem) : Mem := fun k => if k < 56 then x k else y (k - 56)
theorem K9_10 : ∀ k, k < 17 → k ≠ 0 → K9 k = 10 := by
  intro k hk h0
  have h := List.all_eq_true.mp (show (List.range 17).all (fun k => decide (k = 0) || decide (K9 k = 10)) = true by decide +kernel) k (List.mem_range.mpr hk)
  simpa [h0] using h
theorem cw_join {D : va_G} {cI cR : ClassId} {a b : Nat → Nat} {x y : Mem} {H : Heap} {A : Nat → Prop} (hP : va_P D vwCl (cw cI cR 56 KK LL a x ++ cw cI cR 17 K9 L9 b y) H) (hD : va_D A (cw cI cR 56 KK LL a x ++ cw cI cR 17 K9 L9 b y)) : wo D cI cR 73 KK LL (adJ a b) (μJ x y) H ∧ (∀ i j, i < 73 → j < 73 → adJ a b i = adJ a b j → i = j) ∧ ∀ k, k < 73 → A (adJ a b k) := by
  have e1 : ∀ k, k < 56 → (cw cI cR 56 KK LL a x ++ cw cI cR 17 K9 L9 b y)[k]? = some (a k, ce cI cR KK LL a (x k) k) := by
    intro k hk
    rw [List.getElem?_append_left (by rw [cw_len]; exact hk), cw_at hk]
  have e2 : ∀ k, k < 17 → (cw cI cR 56 KK LL a x ++ cw cI cR 17 K9 L9 b y)[56 + k]? = some (b k, ce cI cR K9 L9 b (y k) k) := by
    intro k hk
    rw [List.getElem?_append_right (by rw [cw_len]; omega), cw_len, show 56 + k - 56 = k by omega, cw_at hk]
  have ga : ∀ k, k < 56 → adJ a b k = a k := fun k hk => if_pos hk
  have gb : ∀ k, adJ a b (56 + k) = b k := fun k => by rw [adJ, if_neg (by omega), show 56 + k - 56 = k by omega]
  have key : ∀ k, k < 73 → ∃ q, (cw cI cR 56 KK LL a x ++ cw cI cR 17 K9 L9 b y)[k]? = some q ∧ q.1 = adJ a b k := by
    intro k hk
    by_cases h : k < 56
    · exact ⟨_, e1 k h, (ga k h).symm⟩
    · obtain ⟨d, rfl⟩ : ∃ d, k = 56 + d := ⟨k - 56, by omega⟩
      exact ⟨_, e2 d (by omega), (gb d).symm⟩
  refine ⟨fun k q hk => ?_, fun i j hi hj e => ?_, fun k hk => ?_⟩
  · have hl : k < 73 := by
      have := (List.getElem?_eq_some_iff.mp hk).1
      rwa [cw_len] at this
    rw [cw_at hl] at hk
    cases hk
    by_cases h : k < 56
    · have h1 := hP k _ (e1 k h)
      have hm : μJ x y k = x k := if_pos h
      rw [hm]
      exact ce_at (n := 56) gs56 h (KK_lt k hl) ga h1
    · obtain ⟨d, rfl⟩ : ∃ d, k = 56 + d := ⟨k - 56, by omega⟩
      have hd : d < 17 := by omega
      have h1 := hP (56 + d) _ (e2 d hd)
      have hm : μJ x y (56 + d) = y d := by rw [μJ, if_neg (by omega), show 56 + d - 56 = d by omega]
      rw [hm, gb]
      by_cases hd0 : d = 0
      · subst hd0
        exact h1
      · have h10 : K9 d = 10 := K9_10 d hd hd0
        have h10' : KK (56 + d) = 10 := h10
        rw [ce, if_pos h10] at h1
        rw [ce, if_pos h10']
        exact h1
  · obtain ⟨q1, h1, h2⟩ := key i hi
    obtain ⟨q2, h3, h4⟩ := key j hj
    exact hD.1 i j q1 q2 h1 h3 (by rw [h2, h4]; exact e)
  · obtain ⟨q1, h1, h2⟩ := key k hk
    rw [← h2]
    exact hD.2 k q1 h1
theorem XS.blind {h0 : Nat} {e0 : va_E} {adK adV : Nat → Nat} : ∀ (a : Array Value) (U : State) (g : JFrame) (mk : MethodId), XS h0 e0 adK adV U → XS h0 e0 adK adV (U.calling g mk a) := by
  intro a U g mk h
  obtain ⟨h1, ⟨n1, n2, n3, n4, n5, n6⟩, h3, h4⟩ := h
  exact ⟨va_AO.moved (u := U) (U := U.calling g mk a) (Vm.Alike.refl U.vm) h1, ⟨va_Nw.same rfl (u := U) (U := U.calling g mk a) rfl n1, va_Nw.same rfl (u := U) (U := U.calling g mk a) rfl n2, va_Nw.same rfl (u := U) (U := U.calling g mk a) rfl n3, va_Nw.same rfl (u := U) (U := U.calling g mk a) rfl n4, va_Nw.same rfl (u := U) (U := U.calling g mk a) rfl n5, va_Nw.same rfl (u := U) (U := U.calling g mk a) rfl n6⟩, vk_R.same (u := U) (U := U.calling g mk a) rfl h3, JE.moved (u := U) (U := U.calling g mk a) (Vm.Alike.refl U.vm) h4⟩
theorem st_el : ∀ j, j < 83 → Cond.eq (.elem (.field (Term.string "SoftCosts" 70) "java/lang/String" "value" "[B") (.int (Int32.ofNat j))) (.int ((bJ.getD 0 []).getD j 0)) ∈ flatC (Jvm.Cond.and given_1 narrow_1) := by
  intro j hj
  have h := List.all_eq_true.mp (show (List.range 83).all (fun j => decide (Cond.eq (.elem (.field (Term.string "SoftCosts" 70) "java/lang/String" "value" "[B") (.int (Int32.ofNat j))) (.int ((bJ.getD 0 []).getD j 0)) ∈ flatC (Jvm.Cond.and given_1 narrow_1))) = true by decide +kernel) j (List.mem_range.mpr hj)
  simpa using h
/-- what the tables and the start give: the classes' numbers, the arrays' classes, the String constant -/
theorem st_known {s : State} {b : Nat} (hts : ∀ w ∈ lw_tbl, w.before #[Value.ref b] s = true) (hgv : (Jvm.Cond.and given_1 narrow_1).before #[Value.ref b] s = true) :
    ∃ (D : va_G) (cI cR : ClassId) (adK adV : Nat → Nat), va_K D vwCl (tyG cI cR) s ∧ va_AO RX3 s ∧ (va_Nw (.methodLinkNest RX8 11 yX6_init RX8) s ∧ va_Nw (.methodLinkNest RX8 18 yX2_init RX8) s ∧ va_Nw (.methodLinkNest RX8 25 yX0_init RX8) s ∧ va_Nw (.methodLinkNest RX8 44 yX5_init RX8) s ∧ va_Nw (.methodLinkNest RX8 58 yX4_init RX8) s ∧ va_Nw (.methodLinkNest RX8 65 yX7_init RX8) s) ∧ vk_R RX8 70 "t20;v3;v3;v2;v3;u0,0,2;u1,2,1;u3,1,4;b0,1,5;b1,2,3;b0,3,7;b2,3,9;c1,2,1,6;c3,0,2,4;" (adK 0) s ∧ JE (fun q => s.heap.size ≤ q) adK adV s s.heap := by
  have hs := flat_of_before _ hgv
  have hT : ∀ w ∈ TB, w.before #[Value.ref b] s = true := fun w hw => hts w (tb_in hw)
  obtain ⟨c0, iS0, hKn0⟩ := u_known (C := RX0) (T := TX0) (N := 7) (n := 7) hT iwX0 (hT _ inX0)
  obtain ⟨c1, iS1, hKn1⟩ := u_known (C := RX1) (T := TX1) (N := 3) (n := 3) hT iwX1 (hT _ inX1)
  obtain ⟨c2, iS2, hKn2⟩ := u_known (C := RX2) (T := TX2) (N := 2) (n := 2) hT iwX2 (hT _ inX2)
  obtain ⟨c3, iS3, hKn3⟩ := u_known (C := RX3) (T := TX3) (N := 1) (n := 1) hT iwX3 (hT _ inX3)
  obtain ⟨c4, iS4, hKn4⟩ := u_known (C := RX4) (T := TX4) (N := 11) (n := 11) hT iwX4 (hT _ inX4)
  obtain ⟨c5, iS5, hKn5⟩ := u_known (C := RX5) (T := TX5) (N := 3) (n := 3) hT iwX5 (hT _ inX5)
  obtain ⟨c6, iS6, hKn6⟩ := u_known (C := RX6) (T := TX6) (N := 2) (n := 2) hT iwX6 (hT _ inX6)
  obtain ⟨c7, iS7, hKn7⟩ := u_known (C := RX7) (T := TX7) (N := 3) (n := 3) hT iwX7 (hT _ inX7)
  obtain ⟨c8, iS8, hKn8⟩ := u_known (C := RX8) (T := TX8) (N := 9) (n := 9) hT iwX8 (hT _ inX8)
  obtain ⟨c9, iS9, hKn9⟩ := u_known (C := RX9) (T := TX9) (N := 31) (n := 31) hT iwX9 (hT _ inX9)
  have hao : va_AO RX3 s := va_AO.of (hts (.arrayOver (.object RX3)) (List.mem_of_getElem? (i := 182) (by decide +kernel)))
  obtain ⟨cI, kI, coI, f1, f2, f3⟩ := Cond.arrayClass_spec (hT _ ac_i)
  obtain ⟨coR, cR, kR, r1, r2, r3, r4, r5⟩ := Cond.arrayOver_spec hao
  have hA : ∀ a : Nat, a < s.heap.size → ¬ (fun q : Nat => s.heap.size ≤ q) a := fun a h => Nat.not_le.mpr h
  obtain ⟨adK, adV, hvS, hev⟩ := vk_Sof (args := #[Value.ref b]) (s := s) (N := 1) (tm := fun _ => Term.string "SoftCosts" 70) (len := [83]) (byt := bJ) (A := fun q : Nat => s.heap.size ≤ q)
    (fun i hi => by rcases (show i = 0 by omega) with rfl; decide)
    (fun i hi => hs _ (by decide +kernel)) (fun i hi => hs _ (by decide +kernel)) (fun i hi => hs _ (by decide +kernel))
    (fun i hi => by rcases (show i = 0 by omega) with rfl; exact hs _ (by decide +kernel))
    (fun i hi j hj => by rcases (show i = 0 by omega) with rfl; exact hs _ (st_el j hj))
    (fun i j hi hj hne => absurd (by omega) hne) hA
  refine ⟨(fun k => match k with | 0 => c0 | 1 => c1 | 2 => c2 | 3 => c3 | 4 => c4 | 5 => c5 | 6 => c6 | 7 => c7 | 8 => c8 | _ => c9, fun k => match k with | 0 => iS0 | 1 => iS1 | 2 => iS2 | 3 => iS3 | 4 => iS4 | 5 => iS5 | 6 => iS6 | 7 => iS7 | 8 => iS8 | _ => iS9), cI, cR, adK, adV, ⟨?_, ?_⟩, hao, ⟨va_Nw.of rfl (hts (.methodLinkNest RX8 11 yX6_init RX8) (List.mem_of_getElem? (i := 85) (by decide +kernel))), va_Nw.of rfl (hts (.methodLinkNest RX8 18 yX2_init RX8) (List.mem_of_getElem? (i := 112) (by decide +kernel))), va_Nw.of rfl (hts (.methodLinkNest RX8 25 yX0_init RX8) (List.mem_of_getElem? (i := 127) (by decide +kernel))), va_Nw.of rfl (hts (.methodLinkNest RX8 44 yX5_init RX8) (List.mem_of_getElem? (i := 159) (by decide +kernel))), va_Nw.of rfl (hts (.methodLinkNest RX8 58 yX4_init RX8) (List.mem_of_getElem? (i := 196) (by decide +kernel))), va_Nw.of rfl (hts (.methodLinkNest RX8 65 yX7_init RX8) (List.mem_of_getElem? (i := 238) (by decide +kernel)))⟩, ?_, ?_, ?_, hvS⟩
  · intro k q hq
    match k, hq with
    | 0, hq => cases hq; exact hKn0
    | 1, hq => cases hq; exact hKn1
    | 2, hq => cases hq; exact hKn2
    | 3, hq => cases hq; exact hKn3
    | 4, hq => cases hq; exact hKn4
    | 5, hq => cases hq; exact hKn5
    | 6, hq => cases hq; exact hKn6
    | 7, hq => cases hq; exact hKn7
    | 8, hq => cases hq; exact hKn8
    | 9, hq => cases hq; exact hKn9
    | k + 10, hq => simp [vwCl] at hq
  · intro k q hq
    match k, hq with
    | 0, hq => cases hq; exact ⟨fun n z => ⟨fun k h => (by cases h), kI, f2, coI, f3⟩, f1⟩
    | 1, hq => cases hq; exact ⟨fun n z => ⟨fun k h => (by cases h), kR, r3, coR, r4⟩, kR, coR, r3, r4, r1, r5⟩
    | k + 2, hq => simp at hq
  · exact vk_R.of (hts (.stringRef RX8 70 "t20;v3;v3;v2;v3;u0,0,2;u1,2,1;u3,1,4;b0,1,5;b1,2,3;b0,3,7;b2,3,9;c1,2,1,6;c3,0,2,4;") (List.mem_of_getElem? (i := 254) (by decide +kernel))) (hev 0 (by decide))
  · exact va_Zof (hts (.laysStatic "java/lang/String" "COMPACT_STRINGS" "Z") (List.mem_of_getElem? (i := 264) (by decide +kernel))) (hts (.initialized "java/lang/String") (List.mem_of_getElem? (i := 69) (by decide +kernel))) (va_eqi (hs (.eq (.static "java/lang/String" "COMPACT_STRINGS" "Z") (.int 1)) (by decide +kernel))) hA
  · exact va_Zqof (hts (.laysStatic "jdk/internal/util/Preconditions" "SIOOBE_FORMATTER" "Ljava/util/function/BiFunction;") (List.mem_of_getElem? (i := 280) (by decide +kernel))) (hts (.initialized "jdk/internal/util/Preconditions") (List.mem_of_getElem? (i := 71) (by decide +kernel))) (hs (.isRef (.static "jdk/internal/util/Preconditions" "SIOOBE_FORMATTER" "Ljava/util/function/BiFunction;")) (by decide +kernel)) hA
set_option maxHeartbeats 16000000 in
set_option maxRecDepth 100000 in
theorem start_of {p : Program} {e : Env} {s : State} {m : MethodId} {below : List Frame} {meth : Method} {c : Code} (l : Launch) {b L : Nat} {xs : Nat → Int32} (hL : L ≤ 2560) (C0 : lw_At p s m meth c b L xs) {Inv : Mem → Prop} (HQ : AllQ Inv) {x y : Mem} (h8 : fI LL 0 μ56 = some x) (h9 : f9I L9 0 (fun _ _ => 0) = some y) (hI : Inv (μJ x y)) : W p l e room_1 s m #[Value.ref b] below meth c s.heap [] 0 0 (lw_Z below #[Value.ref b] s) (entryFrame m ([Value.ref b] : List Value).toArray 4) := by
  obtain ⟨hx, hb, hr, hml, hown, hts, hX, hbl, hlocks, hgv⟩ := id C0
  have S : CallFix p m c code 4 s #[Value.ref b] TB RL := ⟨hx, hb, hml, hown, fun w hw => hts w (tb_in hw)⟩
  obtain ⟨D, cI, cR, adK, adV, hK, hao, hN, hR70, hJ⟩ := st_known hts hgv
  have hA : ∀ q : Nat, s.heap.size ≤ q → (fun q : Nat => s.heap.size ≤ q) q := fun _ h => h
  have hS : va_S (fun q : Nat => s.heap.size ≤ q) s.heap s.heap [] := va_S.rf
  have hP : va_P D vwCl [] s.heap := fun k q h => by simp at h
  have hD : va_D (fun q : Nat => s.heap.size ≤ q) [] := ⟨fun i j p q h => by simp at h, fun k q h => by simp at h⟩
  have hl := lv_entry ([.ref b]) (n := 4) (Nat.le_of_ble_eq_true rfl)
  rw [lg_entry_eq]
  generalize (lg_sl ([.ref b]) ++ List.replicate (4 - (lg_sl ([.ref b])).length) Slot.unset).toArray = ls at hl ⊢
  have hl : lv_has ls 4 [(0, .ref b)] := hl
  refine va_new (ci := 8) (fs := [.null, .null, .null, .null, .null, .null, .null, .null, .null]) (C := RX8) (T := TX8) (N := 9) hx hb S.2.2.2.2 iwX8 tyX8 tyX8_ok hown (S.2.2.2.2 _ kL_7c) (S.2.2.2.2 _ inX8) (S.2.2.2.2 _ iniX8) hK hP hD hS hA rfl (fun j hj => by rcases (show j = 0 ∨ j = 1 ∨ j = 2 ∨ j = 3 ∨ j = 4 ∨ j = 5 ∨ j = 6 ∨ j = 7 ∨ j = 8 by omega) with rfl | rfl | rfl | rfl | rfl | rfl | rfl | rfl | rfl <;> rfl) (Nat.le_of_ble_eq_true rfl) (Nat.le_of_ble_eq_true rfl) dL_law_0 (fun q H hP hD hS => ?_)
  refine lv_dup hx hb dL_law_3 rfl ?_
  have hXS : ∀ U : State, U.heap = H → s.WarmedH U.vm → XS q (.inr (8, [.null, .null, .null, .null, .null, .null, .null, .null, .null])) adK adV U := by
    intro U hU hW
    refine ⟨hao.moved hW.alike, ⟨hN.1.warmM hW, hN.2.1.warmM hW, hN.2.2.1.warmM hW, hN.2.2.2.1.warmM hW, hN.2.2.2.2.1.warmM hW, hN.2.2.2.2.2.warmM hW⟩, hR70.warm hW, ?_⟩
    have h1 := (hJ.kept hS.2.1).narrow (B := va_A [(q, .inr (8, [.null, .null, .null, .null, .null, .null, .null, .null, .null]))] H.size) (m_free (ws := []) hD hS hA)
    rw [hU]
    exact h1.moved hW.alike
  refine r_ictor (ws := []) (q := q) (e0 := .inr (8, [.null, .null, .null, .null, .null, .null, .null, .null, .null])) hP hD hS hA (r_runI (As := []) (rest := [.ref q]) S hK hP (iX8 l D cI cR q adK adV x h8) icX8 iiX8 iniX8 kL_9 (by decide +kernel) rfl ⟨rfl, rfl⟩ ⟨Nat.le_of_ble_eq_true rfl, Nat.le_of_ble_eq_true rfl⟩ XS.blind hXS hl.1 rfl (Nat.le_of_ble_eq_true rfl) ⟨Nat.le_of_ble_eq_true rfl, Nat.le_of_ble_eq_true rfl⟩ dL_law_4) (fun u H locs hP hD hS => ?_)
  generalize hu1 : va_up u 0 q = a1 at hP hD
  have ha1 : a1 0 = q := by subst hu1; simp [va_up]
  have hP : va_P D vwCl (cw cI cR 56 KK LL a1 x) H := hP
  have hD : va_D (fun q : Nat => s.heap.size ≤ q) (cw cI cR 56 KK LL a1 x) := hD
  refine lv_astore_n (lv' := [(1, .ref q), (0, .ref b)]) hx hb dL_law_7 rfl hl (by decide) rfl (fun ls hl => ?_)
  refine va_new (ci := 9) (fs := [.int 0, .null, .int 0, .null, .int 0, .null, .null, .int 0, .null, .null, .null, .int 0, .null, .int 0, .null, .int 0, .null, .null, .int 0, .null, .int 0, .int 0, .null, .null, .null, .null, .int 0, .int 0, .int 0, .int 0, .int 0]) (C := RX9) (T := TX9) (N := 31) hx hb S.2.2.2.2 iwX9 tyX9 tyX9_ok hown (S.2.2.2.2 _ kL_10c) (S.2.2.2.2 _ inX9) (S.2.2.2.2 _ iniX9) hK hP hD hS hA rfl (fun j hj => by rcases (show j = 0 ∨ j = 1 ∨ j = 2 ∨ j = 3 ∨ j = 4 ∨ j = 5 ∨ j = 6 ∨ j = 7 ∨ j = 8 ∨ j = 9 ∨ j = 10 ∨ j = 11 ∨ j = 12 ∨ j = 13 ∨ j = 14 ∨ j = 15 ∨ j = 16 ∨ j = 17 ∨ j = 18 ∨ j = 19 ∨ j = 20 ∨ j = 21 ∨ j = 22 ∨ j = 23 ∨ j = 24 ∨ j = 25 ∨ j = 26 ∨ j = 27 ∨ j = 28 ∨ j = 29 ∨ j = 30 by omega) with rfl | rfl | rfl | rfl | rfl | rfl | rfl | rfl | rfl | rfl | rfl | rfl | rfl | rfl | rfl | rfl | rfl | rfl | rfl | rfl | rfl | rfl | rfl | rfl | rfl | rfl | rfl | rfl | rfl | rfl | rfl <;> rfl) (Nat.le_of_ble_eq_true rfl) (Nat.le_of_ble_eq_true rfl) dL_law_8 (fun q2 H hP hD hS => ?_)
  refine lv_dup hx hb dL_law_11 rfl ?_
  refine r_ictor (ws := cw cI cR 56 KK LL a1 x) (q := q2) (e0 := .inr (9, [.int 0, .null, .int 0, .null, .int 0, .null, .null, .int 0, .null, .null, .null, .int 0, .null, .int 0, .null, .int 0, .null, .null, .int 0, .null, .int 0, .int 0, .null, .null, .null, .null, .int 0, .int 0, .int 0, .int 0, .int 0])) hP hD hS hA (r_runI (As := []) (rest := [.ref q2]) S hK hP (iX9 l D cI cR q2 y h9) icX9 iiX9 iniX9 kL_12 (by decide +kernel) rfl ⟨rfl, rfl⟩ ⟨Nat.le_of_ble_eq_true rfl, Nat.le_of_ble_eq_true rfl⟩ (fun _ _ _ _ _ => trivial) (fun _ _ _ => trivial) hl.1 rfl (Nat.le_of_ble_eq_true rfl) ⟨Nat.le_of_ble_eq_true rfl, Nat.le_of_ble_eq_true rfl⟩ dL_law_12) (fun u2 H locs hP hD hS => ?_)
  generalize hu2 : va_up u2 0 q2 = a2 at hP hD
  have ha2 : a2 0 = q2 := by subst hu2; simp [va_up]
  obtain ⟨hP, hinj, hAd⟩ := cw_join hP hD
  refine lv_astore_n (lv' := [(2, .ref q2), (1, .ref q), (0, .ref b)]) hx hb dL_law_15 rfl hl (by decide) rfl (fun ls hl => ?_)
  refine lv_iconst (v := 0) hx hb dL_law_16 (by decide) ?_
  refine lv_istore_n (lv' := [(3, .int 0), (2, .ref q2), (1, .ref q), (0, .ref b)]) hx hb dL_law_17 rfl hl (by decide) rfl (fun ls hl => ?_)
  have hl : lv_has ls 4 [(0, .ref b), (1, .ref (adJ a1 a2 0)), (2, .ref (adJ a1 a2 56)), (3, .int (nI 0))] := by
    have e1 : adJ a1 a2 0 = q := ha1
    have e2 : adJ a1 a2 56 = q2 := ha2
    rw [e1, e2]
    exact lv_sub hl [3, 2, 1, 0] rfl
  refine va_forget (fun z hz => hS.2.2 z hz) ?_
  have hS2 : va_S (Ag 73 (adJ a1 a2)) s.heap H [] := ⟨hS.1, fun z h1 h2 => hS.2.1 z h1 (Nat.not_le.mpr h1), fun z hz => by cases hz⟩
  refine W.widen (k := 73) (n := 3872) (Nat.le_of_ble_eq_true rfl) (Nat.le_of_ble_eq_true rfl) ?_
  exact law_loop HQ hL C0 hAd ⟨hK, hinj, gs73⟩ ⟨Nat.le_of_ble_eq_true rfl, Nat.le_of_ble_eq_true rfl⟩ (L + 1) 0 (μJ x y) H [] ls (Nat.zero_le _) (by omega) hI hP hS2 hl
