section WALKA
variable {p : Program} {l : Launch} {e : Env} {s : State} {m : MethodId} {args : Array Value} {below : List Frame} {meth : Method} {c : Code} {D : va_G} {cI cR : ClassId} {n : Nat} {K L ad : Nat → Nat}
-- X3_clear
set_option maxHeartbeats 4000000 in
set_option maxRecDepth 100000 in
theorem wX3_clear_2 (S : CallFix p m c cX3_clear 2 s args TB RX3) (hr : meth.sig.returnType = none ∧ meth.locks = false) (hG : gok D cI cR n K L ad s) {o : Nat} (ho : isk n K o 3) {x : Mem} : ∀ (k : Nat) (v1 : Int32) (μ : Mem), fX3_clear_2 L o k v1 μ = some x → WV p l e (rmL 0) s m args below meth c D cI cR n K L ad 2 x μ 2 [(0, .ref (ad o)), (1, .int v1)] [] := by
  have hx := S.1
  have hb := S.2.1
  intro k
  induction k with
  | zero => intro v1 μ hm; exact absurd (show none = some x from hm) (fun h => by cases h)
  | succ k ih =>
    intro v1 μ hm H locs ls hP hS hl
    have hm : fX3_clear_2_b L o (fX3_clear_2 L o k) v1 μ = some x := hm
    unfold fX3_clear_2_b at hm
    refine lv_iload_n hx hb dX3_clear_2 rfl (lv_at hl 1 rfl) ?_
    refine lv_aload_n hx hb dX3_clear_3 rfl (lv_at hl 0 rfl) ?_
    refine r_getr S hG hP ho clX3 fX3_0 kX3_13 dX3_clear_4 ?_
    refine r_alen S hG hP (chX3_0 hG ho) dX3_clear_7 ?_
    refine b_icmp_ge (tgt := 24) S dX3_clear_8 (by decide) hm (fun hm => ?_) (fun hm => ?_)
    · exact r_vret S hr hG hP hS hm dX3_clear_24
    · refine lv_aload_n hx hb dX3_clear_11 rfl (lv_at hl 0 rfl) ?_
      refine r_getr S hG hP ho clX3 fX3_0 kX3_13 dX3_clear_12 ?_
      refine lv_iload_n hx hb dX3_clear_15 rfl (lv_at hl 1 rfl) ?_
      refine lv_iconst (v := (0 : Int32)) hx hb dX3_clear_16 (by decide) ?_
      refine r_iast S hG hP hS (chX3_0 hG ho) hm dX3_clear_17 (fun μ1 H locs hm hP hS => ?_)
      refine r_iinc (b := (1 : Int32)) (k := 1) S hm dX3_clear_18 hl rfl (by decide) (by decide) (fun a2 ls hm hl => ?_)
      have hl : lv_has ls 2 [(1, .int a2), (0, .ref (ad o))] := hl
      refine lv_goto (tgt := 2) hx hb dX3_clear_21 (by decide) ?_
      exact ih a2 μ1 hm H locs ls hP hS (lv_sub hl [1, 0] rfl)
set_option maxHeartbeats 4000000 in
set_option maxRecDepth 100000 in
theorem wX3_clear_0 (S : CallFix p m c cX3_clear 2 s args TB RX3) (hr : meth.sig.returnType = none ∧ meth.locks = false) (hG : gok D cI cR n K L ad s) {o : Nat} (ho : isk n K o 3) {x : Mem} : ∀ (μ : Mem), fX3_clear L o μ = some x → WV p l e (rmL 0) s m args below meth c D cI cR n K L ad 2 x μ 0 [(0, .ref (ad o))] [] := by
  have hx := S.1
  have hb := S.2.1
  intro μ hm H locs ls hP hS hl
  unfold fX3_clear at hm
  refine lv_iconst (v := (0 : Int32)) hx hb dX3_clear_0 (by decide) ?_
  refine lv_istore_n (lv' := [(1, .int (0 : Int32)), (0, .ref (ad o))]) hx hb dX3_clear_1 rfl hl (by decide) rfl (fun ls hl => ?_)
  exact wX3_clear_2 S hr hG ho FU (0 : Int32) μ hm H locs ls hP hS (lv_sub hl [1, 0] rfl)
theorem tX3_clear (l : Launch) (D : va_G) (cI cR : ClassId) (n : Nat) (K L ad : Nat → Nat) {o : Nat} (ho : isk n K o 3) : Cv l yX3_clear cX3_clear 2 none (rmL 0) D cI cR n K L ad [.ref (ad o)] (fX3_clear L o) := by
  refine Cv.ofW (by decide) (Nat.le_of_ble_eq_true rfl) ?_
  intro μ x hm p e s m args below meth c ls S hr hG hP hS hl
  exact wX3_clear_0 S hr hG ho μ hm _ _ ls hP hS hl
-- X3_get
set_option maxHeartbeats 4000000 in
set_option maxRecDepth 100000 in
theorem wX3_get_0 (S : CallFix p m c cX3_get 2 s args TB RX3) (hr : meth.sig.returnType = (some .int) ∧ meth.locks = false) (hG : gok D cI cR n K L ad s) {o : Nat} (ho : isk n K o 3) {x : Int32 × Mem} : ∀ (v1 : Int32) (μ : Mem), fX3_get L o v1 μ = some x → WI p l e (rmL 0) s m args below meth c D cI cR n K L ad 2 x μ 0 [(0, .ref (ad o)), (1, .int v1)] [] := by
  have hx := S.1
  have hb := S.2.1
  intro v1 μ hm H locs ls hP hS hl
  unfold fX3_get at hm
  refine lv_iload_n hx hb dX3_get_0 rfl (lv_at hl 1 rfl) ?_
  refine b_if_lt (tgt := 22) S dX3_get_1 (by decide) hm (fun hm => ?_) (fun hm => ?_)
  · refine lv_iconst (v := (0 : Int32)) hx hb dX3_get_22 (by decide) ?_
    exact r_iret S hr hG hP hS hm dX3_get_23
  · refine lv_iload_n hx hb dX3_get_4 rfl (lv_at hl 1 rfl) ?_
    refine lv_aload_n hx hb dX3_get_5 rfl (lv_at hl 0 rfl) ?_
    refine r_getr S hG hP ho clX3 fX3_0 kX3_13 dX3_get_6 ?_
    refine r_alen S hG hP (chX3_0 hG ho) dX3_get_9 ?_
    refine b_icmp_ge (tgt := 22) S dX3_get_10 (by decide) hm (fun hm => ?_) (fun hm => ?_)
    · refine lv_iconst (v := (0 : Int32)) hx hb dX3_get_22 (by decide) ?_
      exact r_iret S hr hG hP hS hm dX3_get_23
    · refine lv_aload_n hx hb dX3_get_13 rfl (lv_at hl 0 rfl) ?_
      refine r_getr S hG hP ho clX3 fX3_0 kX3_13 dX3_get_14 ?_
      refine lv_iload_n hx hb dX3_get_17 rfl (lv_at hl 1 rfl) ?_
      refine r_iald S hG hP (chX3_0 hG ho) hm dX3_get_18 (fun a1 hm => ?_)
      refine lv_goto (tgt := 23) hx hb dX3_get_19 (by decide) ?_
      exact r_iret S hr hG hP hS hm dX3_get_23
theorem tX3_get (l : Launch) (D : va_G) (cI cR : ClassId) (n : Nat) (K L ad : Nat → Nat) {o : Nat} (ho : isk n K o 3) (v1 : Int32) : Ci l yX3_get cX3_get 2 (some .int) (rmL 0) D cI cR n K L ad [.ref (ad o), .int v1] (fX3_get L o v1) := by
  refine Ci.ofW (by decide) (Nat.le_of_ble_eq_true rfl) ?_
  intro μ x hm p e s m args below meth c ls S hr hG hP hS hl
  exact wX3_get_0 S hr hG ho v1 μ hm _ _ ls hP hS hl
-- X3_takeFrom
set_option maxHeartbeats 4000000 in
set_option maxRecDepth 100000 in
theorem wX3_takeFrom_2 (S : CallFix p m c cX3_takeFrom 3 s args TB RX3) (hr : meth.sig.returnType = none ∧ meth.locks = false) (hG : gok D cI cR n K L ad s) {o : Nat} {r1 : Nat} (ho : isk n K o 3) (h1 : isk n K r1 3) {x : Mem} : ∀ (k : Nat) (v2 : Int32) (μ : Mem), fX3_takeFrom_2 L o r1 k v2 μ = some x → WV p l e (rmL 1) s m args below meth c D cI cR n K L ad 3 x μ 2 [(0, .ref (ad o)), (1, .ref (ad r1)), (2, .int v2)] [] := by
  have hx := S.1
  have hb := S.2.1
  intro k
  induction k with
  | zero => intro v2 μ hm; exact absurd (show none = some x from hm) (fun h => by cases h)
  | succ k ih =>
    intro v2 μ hm H locs ls hP hS hl
    have hm : fX3_takeFrom_2_b L o r1 (fX3_takeFrom_2 L o r1 k) v2 μ = some x := hm
    unfold fX3_takeFrom_2_b at hm
    refine lv_iload_n hx hb dX3_takeFrom_2 rfl (lv_at hl 2 rfl) ?_
    refine lv_aload_n hx hb dX3_takeFrom_3 rfl (lv_at hl 0 rfl) ?_
    refine r_getr S hG hP ho clX3 fX3_0 kX3_13 dX3_takeFrom_4 ?_
    refine r_alen S hG hP (chX3_0 hG ho) dX3_takeFrom_7 ?_
    refine b_icmp_ge (tgt := 28) S dX3_takeFrom_8 (by decide) hm (fun hm => ?_) (fun hm => ?_)
    · exact r_vret S hr hG hP hS hm dX3_takeFrom_28
    · refine lv_aload_n hx hb dX3_takeFrom_11 rfl (lv_at hl 0 rfl) ?_
      refine r_getr S hG hP ho clX3 fX3_0 kX3_13 dX3_takeFrom_12 ?_
      refine lv_iload_n hx hb dX3_takeFrom_15 rfl (lv_at hl 2 rfl) ?_
      refine lv_aload_n hx hb dX3_takeFrom_16 rfl (lv_at hl 1 rfl) ?_
      refine lv_iload_n hx hb dX3_takeFrom_17 rfl (lv_at hl 2 rfl) ?_
      refine r_vcalli (As := [.int v2]) (rest := [.int v2, .ref (ad (o + 1))]) S hG hP hS mX3_get kX3_19 clX3 h1 (tX3_get _ _ _ _ _ _ _ _ h1 v2) ⟨rfl, rfl⟩ (rm_ok (by decide) (by decide)) hm hl.1 rfl (Nat.le_of_ble_eq_true rfl) ⟨Nat.zero_le _, Nat.zero_le _⟩ dX3_takeFrom_18 (fun b2 μ1 H locs hm hP hS => ?_)
      refine r_iast S hG hP hS (chX3_0 hG ho) hm dX3_takeFrom_21 (fun μ3 H locs hm hP hS => ?_)
      refine r_iinc (b := (1 : Int32)) (k := 2) S hm dX3_takeFrom_22 hl rfl (by decide) (by decide) (fun a4 ls hm hl => ?_)
      have hl : lv_has ls 3 [(2, .int a4), (0, .ref (ad o)), (1, .ref (ad r1))] := hl
      refine lv_goto (tgt := 2) hx hb dX3_takeFrom_25 (by decide) ?_
      exact ih a4 μ3 hm H locs ls hP hS (lv_sub hl [1, 2, 0] rfl)
set_option maxHeartbeats 4000000 in
set_option maxRecDepth 100000 in
theorem wX3_takeFrom_0 (S : CallFix p m c cX3_takeFrom 3 s args TB RX3) (hr : meth.sig.returnType = none ∧ meth.locks = false) (hG : gok D cI cR n K L ad s) {o : Nat} {r1 : Nat} (ho : isk n K o 3) (h1 : isk n K r1 3) {x : Mem} : ∀ (μ : Mem), fX3_takeFrom L o r1 μ = some x → WV p l e (rmL 1) s m args below meth c D cI cR n K L ad 3 x μ 0 [(0, .ref (ad o)), (1, .ref (ad r1))] [] := by
  have hx := S.1
  have hb := S.2.1
  intro μ hm H locs ls hP hS hl
  unfold fX3_takeFrom at hm
  refine lv_iconst (v := (0 : Int32)) hx hb dX3_takeFrom_0 (by decide) ?_
  refine lv_istore_n (lv' := [(2, .int (0 : Int32)), (0, .ref (ad o)), (1, .ref (ad r1))]) hx hb dX3_takeFrom_1 rfl hl (by decide) rfl (fun ls hl => ?_)
  exact wX3_takeFrom_2 S hr hG ho h1 FU (0 : Int32) μ hm H locs ls hP hS (lv_sub hl [1, 2, 0] rfl)
theorem tX3_takeFrom (l : Launch) (D : va_G) (cI cR : ClassId) (n : Nat) (K L ad : Nat → Nat) {o : Nat} (ho : isk n K o 3) {r1 : Nat} (h1 : isk n K r1 3) : Cv l yX3_takeFrom cX3_takeFrom 3 none (rmL 1) D cI cR n K L ad [.ref (ad o), .ref (ad r1)] (fX3_takeFrom L o r1) := by
  refine Cv.ofW (by decide) (Nat.le_of_ble_eq_true rfl) ?_
  intro μ x hm p e s m args below meth c ls S hr hG hP hS hl
  exact wX3_takeFrom_0 S hr hG ho h1 μ hm _ _ ls hP hS hl
-- X3_set
set_option maxHeartbeats 4000000 in
set_option maxRecDepth 100000 in
theorem wX3_set_0 (S : CallFix p m c cX3_set 3 s args TB RX3) (hr : meth.sig.returnType = none ∧ meth.locks = false) (hG : gok D cI cR n K L ad s) {o : Nat} (ho : isk n K o 3) {x : Mem} : ∀ (v1 v2 : Int32) (μ : Mem), fX3_set L o v1 v2 μ = some x → WV p l e (rmL 0) s m args below meth c D cI cR n K L ad 3 x μ 0 [(0, .ref (ad o)), (1, .int v1), (2, .int v2)] [] := by
  have hx := S.1
  have hb := S.2.1
  intro v1 v2 μ hm H locs ls hP hS hl
  unfold fX3_set at hm
  refine lv_iload_n hx hb dX3_set_0 rfl (lv_at hl 1 rfl) ?_
  refine b_if_lt (tgt := 20) S dX3_set_1 (by decide) hm (fun hm => ?_) (fun hm => ?_)
  · exact r_vret S hr hG hP hS hm dX3_set_20
  · refine lv_iload_n hx hb dX3_set_4 rfl (lv_at hl 1 rfl) ?_
    refine lv_aload_n hx hb dX3_set_5 rfl (lv_at hl 0 rfl) ?_
    refine r_getr S hG hP ho clX3 fX3_0 kX3_13 dX3_set_6 ?_
    refine r_alen S hG hP (chX3_0 hG ho) dX3_set_9 ?_
    refine b_icmp_ge (tgt := 20) S dX3_set_10 (by decide) hm (fun hm => ?_) (fun hm => ?_)
    · exact r_vret S hr hG hP hS hm dX3_set_20
    · refine lv_aload_n hx hb dX3_set_13 rfl (lv_at hl 0 rfl) ?_
      refine r_getr S hG hP ho clX3 fX3_0 kX3_13 dX3_set_14 ?_
      refine lv_iload_n hx hb dX3_set_17 rfl (lv_at hl 1 rfl) ?_
      refine lv_iload_n hx hb dX3_set_18 rfl (lv_at hl 2 rfl) ?_
      refine r_iast S hG hP hS (chX3_0 hG ho) hm dX3_set_19 (fun μ1 H locs hm hP hS => ?_)
      exact r_vret S hr hG hP hS hm dX3_set_20
theorem tX3_set (l : Launch) (D : va_G) (cI cR : ClassId) (n : Nat) (K L ad : Nat → Nat) {o : Nat} (ho : isk n K o 3) (v1 : Int32) (v2 : Int32) : Cv l yX3_set cX3_set 3 none (rmL 0) D cI cR n K L ad [.ref (ad o), .int v1, .int v2] (fX3_set L o v1 v2) := by
  refine Cv.ofW (by decide) (Nat.le_of_ble_eq_true rfl) ?_
  intro μ x hm p e s m args below meth c ls S hr hG hP hS hl
  exact wX3_set_0 S hr hG ho v1 v2 μ hm _ _ ls hP hS hl
-- J6_bitCount_0f7a4
set_option maxHeartbeats 4000000 in
set_option maxRecDepth 100000 in
theorem wJ6_bitCount_0f7a4_0 (S : CallFix p m c cJ6_bitCount_0f7a4 1 s args TB RJ6) (hr : meth.sig.returnType = (some .int) ∧ meth.locks = false) (hG : gok D cI cR n K L ad s) {x : Int32 × Mem} : ∀ (v0 : Int32) (μ : Mem), fJ6_bitCount_0f7a4 L v0 μ = some x → WI p l e (rmL 0) s m args below meth c D cI cR n K L ad 1 x μ 0 [(0, .int v0)] [] := by
  have hx := S.1
  have hb := S.2.1
  intro v0 μ hm H locs ls hP hS hl
  unfold fJ6_bitCount_0f7a4 at hm
  refine lv_iload_n hx hb dJ6_bitCount_0f7a4_0 rfl (lv_at hl 0 rfl) ?_
  refine lv_iload_n hx hb dJ6_bitCount_0f7a4_1 rfl (lv_at hl 0 rfl) ?_
  refine lv_iconst (v := (1 : Int32)) hx hb dJ6_bitCount_0f7a4_2 (by decide) ?_
  refine lv_iushr hx hb dJ6_bitCount_0f7a4_3 rfl ?_
  refine lv_ldcw hx hb S.2.2.2.1 (S.2.2.2.2 _ kJ6_265) dJ6_bitCount_0f7a4_4 ?_
  refine lv_iand hx hb dJ6_bitCount_0f7a4_7 ?_
  refine lv_isub hx hb dJ6_bitCount_0f7a4_8 ?_
  refine r_top hm (fun a1 hm => ?_)
  refine lv_istore_n (lv' := [(0, .int a1)]) hx hb dJ6_bitCount_0f7a4_9 rfl hl (by decide) rfl (fun ls hl => ?_)
  refine lv_iload_n hx hb dJ6_bitCount_0f7a4_10 rfl (lv_at hl 0 rfl) ?_
  refine lv_ldcw hx hb S.2.2.2.1 (S.2.2.2.2 _ kJ6_266) dJ6_bitCount_0f7a4_11 ?_
  refine lv_iand hx hb dJ6_bitCount_0f7a4_14 ?_
  refine lv_iload_n hx hb dJ6_bitCount_0f7a4_15 rfl (lv_at hl 0 rfl) ?_
  refine lv_iconst (v := (2 : Int32)) hx hb dJ6_bitCount_0f7a4_16 (by decide) ?_
  refine lv_iushr hx hb dJ6_bitCount_0f7a4_17 rfl ?_
  refine lv_ldcw hx hb S.2.2.2.1 (S.2.2.2.2 _ kJ6_266) dJ6_bitCount_0f7a4_18 ?_
  refine lv_iand hx hb dJ6_bitCount_0f7a4_21 ?_
  refine lv_iadd hx hb dJ6_bitCount_0f7a4_22 ?_
  refine r_top hm (fun a2 hm => ?_)
  refine lv_istore_n (lv' := [(0, .int a2)]) hx hb dJ6_bitCount_0f7a4_23 rfl hl (by decide) rfl (fun ls hl => ?_)
  refine lv_iload_n hx hb dJ6_bitCount_0f7a4_24 rfl (lv_at hl 0 rfl) ?_
  refine lv_iload_n hx hb dJ6_bitCount_0f7a4_25 rfl (lv_at hl 0 rfl) ?_
  refine lv_iconst (v := (4 : Int32)) hx hb dJ6_bitCount_0f7a4_26 (by decide) ?_
  refine lv_iushr hx hb dJ6_bitCount_0f7a4_27 rfl ?_
  refine lv_iadd hx hb dJ6_bitCount_0f7a4_28 ?_
  refine lv_ldcw hx hb S.2.2.2.1 (S.2.2.2.2 _ kJ6_267) dJ6_bitCount_0f7a4_29 ?_
  refine lv_iand hx hb dJ6_bitCount_0f7a4_32 ?_
  refine r_top hm (fun a3 hm => ?_)
  refine lv_istore_n (lv' := [(0, .int a3)]) hx hb dJ6_bitCount_0f7a4_33 rfl hl (by decide) rfl (fun ls hl => ?_)
  refine lv_iload_n hx hb dJ6_bitCount_0f7a4_34 rfl (lv_at hl 0 rfl) ?_
  refine lv_iload_n hx hb dJ6_bitCount_0f7a4_35 rfl (lv_at hl 0 rfl) ?_
  refine lv_bipush (v := (8 : Int32)) hx hb dJ6_bitCount_0f7a4_36 (by decide) ?_
  refine lv_iushr hx hb dJ6_bitCount_0f7a4_38 rfl ?_
  refine lv_iadd hx hb dJ6_bitCount_0f7a4_39 ?_
  refine r_top hm (fun a4 hm => ?_)
  refine lv_istore_n (lv' := [(0, .int a4)]) hx hb dJ6_bitCount_0f7a4_40 rfl hl (by decide) rfl (fun ls hl => ?_)
  refine lv_iload_n hx hb dJ6_bitCount_0f7a4_41 rfl (lv_at hl 0 rfl) ?_
  refine lv_iload_n hx hb dJ6_bitCount_0f7a4_42 rfl (lv_at hl 0 rfl) ?_
  refine lv_bipush (v := (16 : Int32)) hx hb dJ6_bitCount_0f7a4_43 (by decide) ?_
  refine lv_iushr hx hb dJ6_bitCount_0f7a4_45 rfl ?_
  refine lv_iadd hx hb dJ6_bitCount_0f7a4_46 ?_
  refine r_top hm (fun a5 hm => ?_)
  refine lv_istore_n (lv' := [(0, .int a5)]) hx hb dJ6_bitCount_0f7a4_47 rfl hl (by decide) rfl (fun ls hl => ?_)
  refine lv_iload_n hx hb dJ6_bitCount_0f7a4_48 rfl (lv_at hl 0 rfl) ?_
  refine lv_bipush (v := (63 : Int32)) hx hb dJ6_bitCount_0f7a4_49 (by decide) ?_
  refine lv_iand hx hb dJ6_bitCount_0f7a4_51 ?_
  exact r_iret S hr hG hP hS hm dJ6_bitCount_0f7a4_52
theorem tJ6_bitCount_0f7a4 (l : Launch) (D : va_G) (cI cR : ClassId) (n : Nat) (K L ad : Nat → Nat) (v0 : Int32) : Ci l yJ6_bitCount_0f7a4 cJ6_bitCount_0f7a4 1 (some .int) (rmL 0) D cI cR n K L ad [.int v0] (fJ6_bitCount_0f7a4 L v0) := by
  refine Ci.ofW (by decide) (Nat.le_of_ble_eq_true rfl) ?_
  intro μ x hm p e s m args below meth c ls S hr hG hP hS hl
  exact wJ6_bitCount_0f7a4_0 S hr hG v0 μ hm _ _ ls hP hS hl
-- X3_isLike
set_option maxHeartbeats 4000000 in
set_option maxRecDepth 100000 in
theorem wX3_isLike_2 (S : CallFix p m c cX3_isLike 3 s args TB RX3) (hr : meth.sig.returnType = (some .boolean) ∧ meth.locks = false) (hG : gok D cI cR n K L ad s) {o : Nat} {r1 : Nat} (ho : isk n K o 3) (h1 : isk n K r1 3) {x : Int32 × Mem} : ∀ (k : Nat) (v2 : Int32) (μ : Mem), fX3_isLike_2 L o r1 k v2 μ = some x → WI p l e (rmL 1) s m args below meth c D cI cR n K L ad 3 x μ 2 [(0, .ref (ad o)), (1, .ref (ad r1)), (2, .int v2)] [] := by
  have hx := S.1
  have hb := S.2.1
  intro k
  induction k with
  | zero => intro v2 μ hm; exact absurd (show none = some x from hm) (fun h => by cases h)
  | succ k ih =>
    intro v2 μ hm H locs ls hP hS hl
    have hm : fX3_isLike_2_b L o r1 (fX3_isLike_2 L o r1 k) v2 μ = some x := hm
    unfold fX3_isLike_2_b at hm
    refine lv_iload_n hx hb dX3_isLike_2 rfl (lv_at hl 2 rfl) ?_
    refine lv_aload_n hx hb dX3_isLike_3 rfl (lv_at hl 0 rfl) ?_
    refine r_getr S hG hP ho clX3 fX3_0 kX3_13 dX3_isLike_4 ?_
    refine r_alen S hG hP (chX3_0 hG ho) dX3_isLike_7 ?_
    refine b_icmp_ge (tgt := 33) S dX3_isLike_8 (by decide) hm (fun hm => ?_) (fun hm => ?_)
    · refine lv_iconst (v := (1 : Int32)) hx hb dX3_isLike_33 (by decide) ?_
      exact r_zretC S hr hG hP hS rfl hm dX3_isLike_34
    · refine lv_aload_n hx hb dX3_isLike_11 rfl (lv_at hl 0 rfl) ?_
      refine r_getr S hG hP ho clX3 fX3_0 kX3_13 dX3_isLike_12 ?_
      refine lv_iload_n hx hb dX3_isLike_15 rfl (lv_at hl 2 rfl) ?_
      refine r_iald S hG hP (chX3_0 hG ho) hm dX3_isLike_16 (fun a1 hm => ?_)
      refine lv_aload_n hx hb dX3_isLike_17 rfl (lv_at hl 1 rfl) ?_
      refine lv_iload_n hx hb dX3_isLike_18 rfl (lv_at hl 2 rfl) ?_
      refine r_vcalli (As := [.int v2]) (rest := [.int a1]) S hG hP hS mX3_get kX3_19 clX3 h1 (tX3_get _ _ _ _ _ _ _ _ h1 v2) ⟨rfl, rfl⟩ (rm_ok (by decide) (by decide)) hm hl.1 rfl (Nat.le_of_ble_eq_true rfl) ⟨Nat.zero_le _, Nat.zero_le _⟩ dX3_isLike_19 (fun b3 μ2 H locs hm hP hS => ?_)
      refine b_icmp_eq (tgt := 27) S dX3_isLike_22 (by decide) hm (fun hm => ?_) (fun hm => ?_)
      · refine r_iinc (b := (1 : Int32)) (k := 2) S hm dX3_isLike_27 hl rfl (by decide) (by decide) (fun a4 ls hm hl => ?_)
        have hl : lv_has ls 3 [(2, .int a4), (0, .ref (ad o)), (1, .ref (ad r1))] := hl
        refine lv_goto (tgt := 2) hx hb dX3_isLike_30 (by decide) ?_
        exact ih a4 μ2 hm H locs ls hP hS (lv_sub hl [1, 2, 0] rfl)
      · refine lv_iconst (v := (0 : Int32)) hx hb dX3_isLike_25 (by decide) ?_
        exact r_zretC S hr hG hP hS rfl hm dX3_isLike_26
set_option maxHeartbeats 4000000 in
set_option maxRecDepth 100000 in
theorem wX3_isLike_0 (S : CallFix p m c cX3_isLike 3 s args TB RX3) (hr : meth.sig.returnType = (some .boolean) ∧ meth.locks = false) (hG : gok D cI cR n K L ad s) {o : Nat} {r1 : Nat} (ho : isk n K o 3) (h1 : isk n K r1 3) {x : Int32 × Mem} : ∀ (μ : Mem), fX3_isLike L o r1 μ = some x → WI p l e (rmL 1) s m args below meth c D cI cR n K L ad 3 x μ 0 [(0, .ref (ad o)), (1, .ref (ad r1))] [] := by
  have hx := S.1
  have hb := S.2.1
  intro μ hm H locs ls hP hS hl
  unfold fX3_isLike at hm
  refine lv_iconst (v := (0 : Int32)) hx hb dX3_isLike_0 (by decide) ?_
  refine lv_istore_n (lv' := [(2, .int (0 : Int32)), (0, .ref (ad o)), (1, .ref (ad r1))]) hx hb dX3_isLike_1 rfl hl (by decide) rfl (fun ls hl => ?_)
  exact wX3_isLike_2 S hr hG ho h1 FU (0 : Int32) μ hm H locs ls hP hS (lv_sub hl [1, 2, 0] rfl)
theorem tX3_isLike (l : Launch) (D : va_G) (cI cR : ClassId) (n : Nat) (K L ad : Nat → Nat) {o : Nat} (ho : isk n K o 3) {r1 : Nat} (h1 : isk n K r1 3) : Ci l yX3_isLike cX3_isLike 3 (some .boolean) (rmL 1) D cI cR n K L ad [.ref (ad o), .ref (ad r1)] (fX3_isLike L o r1) := by
  refine Ci.ofW (by decide) (Nat.le_of_ble_eq_true rfl) ?_
  intro μ x hm p e s m args below meth c ls S hr hG hP hS hl
  exact wX3_isLike_0 S hr hG ho h1 μ hm _ _ ls hP hS hl
end WALKA
