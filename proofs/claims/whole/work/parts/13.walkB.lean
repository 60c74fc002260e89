section WALKB
variable {p : Program} {l : Launch} {e : Env} {s : State} {m : MethodId} {args : Array Value} {below : List Frame} {meth : Method} {c : Code} {D : va_G} {cI cR : ClassId} {n : Nat} {K L ad : Nat → Nat}
-- X0_clear
set_option maxHeartbeats 4000000 in
set_option maxRecDepth 100000 in
theorem wX0_clear_0 (S : CallFix p m c cX0_clear 1 s args TB RX0) (hr : meth.sig.returnType = none ∧ meth.locks = false) (hG : gok D cI cR n K L ad s) {o : Nat} (ho : isk n K o 0) {x : Mem} : ∀ (μ : Mem), fX0_clear L o μ = some x → WV p l e (rmL 1) s m args below meth c D cI cR n K L ad 1 x μ 0 [(0, .ref (ad o))] [] := by
  have hx := S.1
  have hb := S.2.1
  intro μ hm H locs ls hP hS hl
  unfold fX0_clear at hm
  refine lv_aload_n hx hb dX0_clear_0 rfl (lv_at hl 0 rfl) ?_
  refine lv_iconst (v := (0 : Int32)) hx hb dX0_clear_1 (by decide) ?_
  refine r_puti S hG hP hS ho clX0 fX0_4 kX0_33 hm dX0_clear_2 (fun μ1 H locs hm hP hS => ?_)
  refine lv_aload_n hx hb dX0_clear_5 rfl (lv_at hl 0 rfl) ?_
  refine lv_iconst (v := (0 : Int32)) hx hb dX0_clear_6 (by decide) ?_
  refine r_puti S hG hP hS ho clX0 fX0_5 kX0_36 hm dX0_clear_7 (fun μ2 H locs hm hP hS => ?_)
  refine lv_aload_n hx hb dX0_clear_10 rfl (lv_at hl 0 rfl) ?_
  refine lv_bipush (v := (20 : Int32)) hx hb dX0_clear_11 (by decide) ?_
  refine r_puti S hG hP hS ho clX0 fX0_6 kX0_29 hm dX0_clear_13 (fun μ3 H locs hm hP hS => ?_)
  refine lv_aload_n hx hb dX0_clear_16 rfl (lv_at hl 0 rfl) ?_
  refine r_getr S hG hP ho clX0 fX0_3 kX0_26 dX0_clear_17 ?_
  refine r_vcallv (As := []) (rest := []) S hG hP hS mX3_clear kX0_39 clX3 (chX0_3 hG ho) (tX3_clear _ _ _ _ _ _ _ _ (chX0_3 hG ho)) ⟨rfl, rfl⟩ (rm_ok (by decide) (by decide)) hm hl.1 rfl (Nat.le_of_ble_eq_true rfl) ⟨Nat.zero_le _, Nat.zero_le _⟩ dX0_clear_20 (fun μ4 H locs hm hP hS => ?_)
  exact r_vret S hr hG hP hS hm dX0_clear_23
theorem tX0_clear (l : Launch) (D : va_G) (cI cR : ClassId) (n : Nat) (K L ad : Nat → Nat) {o : Nat} (ho : isk n K o 0) : Cv l yX0_clear cX0_clear 1 none (rmL 1) D cI cR n K L ad [.ref (ad o)] (fX0_clear L o) := by
  refine Cv.ofW (by decide) (Nat.le_of_ble_eq_true rfl) ?_
  intro μ x hm p e s m args below meth c ls S hr hG hP hS hl
  exact wX0_clear_0 S hr hG ho μ hm _ _ ls hP hS hl
-- X0_takeAll
set_option maxHeartbeats 4000000 in
set_option maxRecDepth 100000 in
theorem wX0_takeAll_0 (S : CallFix p m c cX0_takeAll 2 s args TB RX0) (hr : meth.sig.returnType = none ∧ meth.locks = false) (hG : gok D cI cR n K L ad s) {o : Nat} {r1 : Nat} (ho : isk n K o 0) (h1 : isk n K r1 0) {x : Mem} : ∀ (μ : Mem), fX0_takeAll L o r1 μ = some x → WV p l e (rmL 2) s m args below meth c D cI cR n K L ad 2 x μ 0 [(0, .ref (ad o)), (1, .ref (ad r1))] [] := by
  have hx := S.1
  have hb := S.2.1
  intro μ hm H locs ls hP hS hl
  unfold fX0_takeAll at hm
  refine lv_aload_n hx hb dX0_takeAll_0 rfl (lv_at hl 0 rfl) ?_
  refine lv_aload_n hx hb dX0_takeAll_1 rfl (lv_at hl 1 rfl) ?_
  refine r_geti S hG hP h1 clX0 fX0_4 kX0_33 dX0_takeAll_2 ?_
  refine r_puti S hG hP hS ho clX0 fX0_4 kX0_33 hm dX0_takeAll_5 (fun μ1 H locs hm hP hS => ?_)
  refine lv_aload_n hx hb dX0_takeAll_8 rfl (lv_at hl 0 rfl) ?_
  refine lv_aload_n hx hb dX0_takeAll_9 rfl (lv_at hl 1 rfl) ?_
  refine r_geti S hG hP h1 clX0 fX0_5 kX0_36 dX0_takeAll_10 ?_
  refine r_puti S hG hP hS ho clX0 fX0_5 kX0_36 hm dX0_takeAll_13 (fun μ2 H locs hm hP hS => ?_)
  refine lv_aload_n hx hb dX0_takeAll_16 rfl (lv_at hl 0 rfl) ?_
  refine lv_aload_n hx hb dX0_takeAll_17 rfl (lv_at hl 1 rfl) ?_
  refine r_geti S hG hP h1 clX0 fX0_6 kX0_29 dX0_takeAll_18 ?_
  refine r_puti S hG hP hS ho clX0 fX0_6 kX0_29 hm dX0_takeAll_21 (fun μ3 H locs hm hP hS => ?_)
  refine lv_aload_n hx hb dX0_takeAll_24 rfl (lv_at hl 0 rfl) ?_
  refine r_getr S hG hP ho clX0 fX0_0 kX0_14 dX0_takeAll_25 ?_
  refine lv_aload_n hx hb dX0_takeAll_28 rfl (lv_at hl 1 rfl) ?_
  refine r_getr S hG hP h1 clX0 fX0_0 kX0_14 dX0_takeAll_29 ?_
  refine r_vcallv (As := [.ref (ad (r1 + 1))]) (rest := []) S hG hP hS mX3_takeFrom kX0_42 clX3 (chX0_0 hG ho) (tX3_takeFrom _ _ _ _ _ _ _ _ (chX0_0 hG ho) (chX0_0 hG h1)) ⟨rfl, rfl⟩ (rm_ok (by decide) (by decide)) hm hl.1 rfl (Nat.le_of_ble_eq_true rfl) ⟨Nat.zero_le _, Nat.zero_le _⟩ dX0_takeAll_32 (fun μ4 H locs hm hP hS => ?_)
  refine lv_aload_n hx hb dX0_takeAll_35 rfl (lv_at hl 0 rfl) ?_
  refine r_getr S hG hP ho clX0 fX0_1 kX0_20 dX0_takeAll_36 ?_
  refine lv_aload_n hx hb dX0_takeAll_39 rfl (lv_at hl 1 rfl) ?_
  refine r_getr S hG hP h1 clX0 fX0_1 kX0_20 dX0_takeAll_40 ?_
  refine r_vcallv (As := [.ref (ad (r1 + 3))]) (rest := []) S hG hP hS mX3_takeFrom kX0_42 clX3 (chX0_1 hG ho) (tX3_takeFrom _ _ _ _ _ _ _ _ (chX0_1 hG ho) (chX0_1 hG h1)) ⟨rfl, rfl⟩ (rm_ok (by decide) (by decide)) hm hl.1 rfl (Nat.le_of_ble_eq_true rfl) ⟨Nat.zero_le _, Nat.zero_le _⟩ dX0_takeAll_43 (fun μ5 H locs hm hP hS => ?_)
  refine lv_aload_n hx hb dX0_takeAll_46 rfl (lv_at hl 0 rfl) ?_
  refine r_getr S hG hP ho clX0 fX0_2 kX0_23 dX0_takeAll_47 ?_
  refine lv_aload_n hx hb dX0_takeAll_50 rfl (lv_at hl 1 rfl) ?_
  refine r_getr S hG hP h1 clX0 fX0_2 kX0_23 dX0_takeAll_51 ?_
  refine r_vcallv (As := [.ref (ad (r1 + 5))]) (rest := []) S hG hP hS mX3_takeFrom kX0_42 clX3 (chX0_2 hG ho) (tX3_takeFrom _ _ _ _ _ _ _ _ (chX0_2 hG ho) (chX0_2 hG h1)) ⟨rfl, rfl⟩ (rm_ok (by decide) (by decide)) hm hl.1 rfl (Nat.le_of_ble_eq_true rfl) ⟨Nat.zero_le _, Nat.zero_le _⟩ dX0_takeAll_54 (fun μ6 H locs hm hP hS => ?_)
  refine lv_aload_n hx hb dX0_takeAll_57 rfl (lv_at hl 0 rfl) ?_
  refine r_getr S hG hP ho clX0 fX0_3 kX0_26 dX0_takeAll_58 ?_
  refine lv_aload_n hx hb dX0_takeAll_61 rfl (lv_at hl 1 rfl) ?_
  refine r_getr S hG hP h1 clX0 fX0_3 kX0_26 dX0_takeAll_62 ?_
  refine r_vcallv (As := [.ref (ad (r1 + 7))]) (rest := []) S hG hP hS mX3_takeFrom kX0_42 clX3 (chX0_3 hG ho) (tX3_takeFrom _ _ _ _ _ _ _ _ (chX0_3 hG ho) (chX0_3 hG h1)) ⟨rfl, rfl⟩ (rm_ok (by decide) (by decide)) hm hl.1 rfl (Nat.le_of_ble_eq_true rfl) ⟨Nat.zero_le _, Nat.zero_le _⟩ dX0_takeAll_65 (fun μ7 H locs hm hP hS => ?_)
  exact r_vret S hr hG hP hS hm dX0_takeAll_68
theorem tX0_takeAll (l : Launch) (D : va_G) (cI cR : ClassId) (n : Nat) (K L ad : Nat → Nat) {o : Nat} (ho : isk n K o 0) {r1 : Nat} (h1 : isk n K r1 0) : Cv l yX0_takeAll cX0_takeAll 2 none (rmL 2) D cI cR n K L ad [.ref (ad o), .ref (ad r1)] (fX0_takeAll L o r1) := by
  refine Cv.ofW (by decide) (Nat.le_of_ble_eq_true rfl) ?_
  intro μ x hm p e s m args below meth c ls S hr hG hP hS hl
  exact wX0_takeAll_0 S hr hG ho h1 μ hm _ _ ls hP hS hl
-- X0_tellTop
set_option maxHeartbeats 4000000 in
set_option maxRecDepth 100000 in
theorem wX0_tellTop_0 (S : CallFix p m c cX0_tellTop 2 s args TB RX0) (hr : meth.sig.returnType = (some .boolean) ∧ meth.locks = false) (hG : gok D cI cR n K L ad s) {o : Nat} (ho : isk n K o 0) {x : Int32 × Mem} : ∀ (v1 : Int32) (μ : Mem), fX0_tellTop L o v1 μ = some x → WI p l e (rmL 0) s m args below meth c D cI cR n K L ad 2 x μ 0 [(0, .ref (ad o)), (1, .int v1)] [] := by
  have hx := S.1
  have hb := S.2.1
  intro v1 μ hm H locs ls hP hS hl
  unfold fX0_tellTop at hm
  refine lv_iload_n hx hb dX0_tellTop_0 rfl (lv_at hl 1 rfl) ?_
  refine lv_iconst (v := (1 : Int32)) hx hb dX0_tellTop_1 (by decide) ?_
  refine b_icmp_lt (tgt := 11) S dX0_tellTop_2 (by decide) hm (fun hm => ?_) (fun hm => ?_)
  · refine lv_iconst (v := (0 : Int32)) hx hb dX0_tellTop_11 (by decide) ?_
    exact r_zretC S hr hG hP hS rfl hm dX0_tellTop_12
  · refine lv_iload_n hx hb dX0_tellTop_5 rfl (lv_at hl 1 rfl) ?_
    refine lv_bipush (v := (99 : Int32)) hx hb dX0_tellTop_6 (by decide) ?_
    refine b_icmp_le (tgt := 13) S dX0_tellTop_8 (by decide) hm (fun hm => ?_) (fun hm => ?_)
    · refine lv_aload_n hx hb dX0_tellTop_13 rfl (lv_at hl 0 rfl) ?_
      refine lv_iload_n hx hb dX0_tellTop_14 rfl (lv_at hl 1 rfl) ?_
      refine r_puti S hG hP hS ho clX0 fX0_6 kX0_29 hm dX0_tellTop_15 (fun μ1 H locs hm hP hS => ?_)
      refine lv_iconst (v := (1 : Int32)) hx hb dX0_tellTop_18 (by decide) ?_
      exact r_zretC S hr hG hP hS rfl hm dX0_tellTop_19
    · refine lv_iconst (v := (0 : Int32)) hx hb dX0_tellTop_11 (by decide) ?_
      exact r_zretC S hr hG hP hS rfl hm dX0_tellTop_12
theorem tX0_tellTop (l : Launch) (D : va_G) (cI cR : ClassId) (n : Nat) (K L ad : Nat → Nat) {o : Nat} (ho : isk n K o 0) (v1 : Int32) : Ci l yX0_tellTop cX0_tellTop 2 (some .boolean) (rmL 0) D cI cR n K L ad [.ref (ad o), .int v1] (fX0_tellTop L o v1) := by
  refine Ci.ofW (by decide) (Nat.le_of_ble_eq_true rfl) ?_
  intro μ x hm p e s m args below meth c ls S hr hG hP hS hl
  exact wX0_tellTop_0 S hr hG ho v1 μ hm _ _ ls hP hS hl
-- X0_addName
set_option maxHeartbeats 4000000 in
set_option maxRecDepth 100000 in
theorem wX0_addName_0 (S : CallFix p m c cX0_addName 2 s args TB RX0) (hr : meth.sig.returnType = (some .boolean) ∧ meth.locks = false) (hG : gok D cI cR n K L ad s) {o : Nat} (ho : isk n K o 0) {x : Int32 × Mem} : ∀ (v1 : Int32) (μ : Mem), fX0_addName L o v1 μ = some x → WI p l e (rmL 1) s m args below meth c D cI cR n K L ad 2 x μ 0 [(0, .ref (ad o)), (1, .int v1)] [] := by
  have hx := S.1
  have hb := S.2.1
  intro v1 μ hm H locs ls hP hS hl
  unfold fX0_addName at hm
  refine lv_aload_n hx hb dX0_addName_0 rfl (lv_at hl 0 rfl) ?_
  refine r_geti S hG hP ho clX0 fX0_4 kX0_33 dX0_addName_1 ?_
  refine lv_bipush (v := (6 : Int32)) hx hb dX0_addName_4 (by decide) ?_
  refine b_icmp_ge (tgt := 19) S dX0_addName_6 (by decide) hm (fun hm => ?_) (fun hm => ?_)
  · refine lv_iconst (v := (0 : Int32)) hx hb dX0_addName_19 (by decide) ?_
    exact r_zretC S hr hG hP hS rfl hm dX0_addName_20
  · refine lv_iload_n hx hb dX0_addName_9 rfl (lv_at hl 1 rfl) ?_
    refine lv_iconst (v := (2 : Int32)) hx hb dX0_addName_10 (by decide) ?_
    refine b_icmp_lt (tgt := 19) S dX0_addName_11 (by decide) hm (fun hm => ?_) (fun hm => ?_)
    · refine lv_iconst (v := (0 : Int32)) hx hb dX0_addName_19 (by decide) ?_
      exact r_zretC S hr hG hP hS rfl hm dX0_addName_20
    · refine lv_iload_n hx hb dX0_addName_14 rfl (lv_at hl 1 rfl) ?_
      refine lv_iconst (v := (4 : Int32)) hx hb dX0_addName_15 (by decide) ?_
      refine b_icmp_le (tgt := 21) S dX0_addName_16 (by decide) hm (fun hm => ?_) (fun hm => ?_)
      · refine lv_aload_n hx hb dX0_addName_21 rfl (lv_at hl 0 rfl) ?_
        refine r_getr S hG hP ho clX0 fX0_0 kX0_14 dX0_addName_22 ?_
        refine lv_aload_n hx hb dX0_addName_25 rfl (lv_at hl 0 rfl) ?_
        refine r_geti S hG hP ho clX0 fX0_4 kX0_33 dX0_addName_26 ?_
        refine lv_iload_n hx hb dX0_addName_29 rfl (lv_at hl 1 rfl) ?_
        refine r_vcallv (As := [.int (μ o 4), .int v1]) (rest := []) S hG hP hS mX3_set kX0_46 clX3 (chX0_0 hG ho) (tX3_set _ _ _ _ _ _ _ _ (chX0_0 hG ho) (μ o 4) v1) ⟨rfl, rfl⟩ (rm_ok (by decide) (by decide)) hm hl.1 rfl (Nat.le_of_ble_eq_true rfl) ⟨Nat.zero_le _, Nat.zero_le _⟩ dX0_addName_30 (fun μ1 H locs hm hP hS => ?_)
        refine lv_aload_n hx hb dX0_addName_33 rfl (lv_at hl 0 rfl) ?_
        refine lv_dup hx hb dX0_addName_34 rfl ?_
        refine r_geti S hG hP ho clX0 fX0_4 kX0_33 dX0_addName_35 ?_
        refine lv_iconst (v := (1 : Int32)) hx hb dX0_addName_38 (by decide) ?_
        refine lv_iadd hx hb dX0_addName_39 ?_
        refine r_puti S hG hP hS ho clX0 fX0_4 kX0_33 hm dX0_addName_40 (fun μ2 H locs hm hP hS => ?_)
        refine lv_iconst (v := (1 : Int32)) hx hb dX0_addName_43 (by decide) ?_
        exact r_zretC S hr hG hP hS rfl hm dX0_addName_44
      · refine lv_iconst (v := (0 : Int32)) hx hb dX0_addName_19 (by decide) ?_
        exact r_zretC S hr hG hP hS rfl hm dX0_addName_20
theorem tX0_addName (l : Launch) (D : va_G) (cI cR : ClassId) (n : Nat) (K L ad : Nat → Nat) {o : Nat} (ho : isk n K o 0) (v1 : Int32) : Ci l yX0_addName cX0_addName 2 (some .boolean) (rmL 1) D cI cR n K L ad [.ref (ad o), .int v1] (fX0_addName L o v1) := by
  refine Ci.ofW (by decide) (Nat.le_of_ble_eq_true rfl) ?_
  intro μ x hm p e s m args below meth c ls S hr hG hP hS hl
  exact wX0_addName_0 S hr hG ho v1 μ hm _ _ ls hP hS hl
-- X0_hasValue
set_option maxHeartbeats 4000000 in
set_option maxRecDepth 100000 in
theorem wX0_hasValue_0 (S : CallFix p m c cX0_hasValue 3 s args TB RX0) (hr : meth.sig.returnType = (some .boolean) ∧ meth.locks = false) (hG : gok D cI cR n K L ad s) {o : Nat} (ho : isk n K o 0) {x : Int32 × Mem} : ∀ (v1 v2 : Int32) (μ : Mem), fX0_hasValue L o v1 v2 μ = some x → WI p l e (rmL 1) s m args below meth c D cI cR n K L ad 3 x μ 0 [(0, .ref (ad o)), (1, .int v1), (2, .int v2)] [] := by
  have hx := S.1
  have hb := S.2.1
  intro v1 v2 μ hm H locs ls hP hS hl
  unfold fX0_hasValue at hm
  refine lv_iload_n hx hb dX0_hasValue_0 rfl (lv_at hl 1 rfl) ?_
  refine b_if_lt (tgt := 32) S dX0_hasValue_1 (by decide) hm (fun hm => ?_) (fun hm => ?_)
  · refine lv_iconst (v := (0 : Int32)) hx hb dX0_hasValue_32 (by decide) ?_
    exact r_zretC S hr hG hP hS rfl hm dX0_hasValue_33
  · refine lv_iload_n hx hb dX0_hasValue_4 rfl (lv_at hl 1 rfl) ?_
    refine lv_aload_n hx hb dX0_hasValue_5 rfl (lv_at hl 0 rfl) ?_
    refine r_geti S hG hP ho clX0 fX0_4 kX0_33 dX0_hasValue_6 ?_
    refine b_icmp_ge (tgt := 32) S dX0_hasValue_9 (by decide) hm (fun hm => ?_) (fun hm => ?_)
    · refine lv_iconst (v := (0 : Int32)) hx hb dX0_hasValue_32 (by decide) ?_
      exact r_zretC S hr hG hP hS rfl hm dX0_hasValue_33
    · refine lv_iload_n hx hb dX0_hasValue_12 rfl (lv_at hl 2 rfl) ?_
      refine b_if_lt (tgt := 32) S dX0_hasValue_13 (by decide) hm (fun hm => ?_) (fun hm => ?_)
      · refine lv_iconst (v := (0 : Int32)) hx hb dX0_hasValue_32 (by decide) ?_
        exact r_zretC S hr hG hP hS rfl hm dX0_hasValue_33
      · refine lv_iload_n hx hb dX0_hasValue_16 rfl (lv_at hl 2 rfl) ?_
        refine lv_aload_n hx hb dX0_hasValue_17 rfl (lv_at hl 0 rfl) ?_
        refine r_getr S hG hP ho clX0 fX0_0 kX0_14 dX0_hasValue_18 ?_
        refine lv_iload_n hx hb dX0_hasValue_21 rfl (lv_at hl 1 rfl) ?_
        refine r_vcalli (As := [.int v1]) (rest := [.int v2]) S hG hP hS mX3_get kX0_86 clX3 (chX0_0 hG ho) (tX3_get _ _ _ _ _ _ _ _ (chX0_0 hG ho) v1) ⟨rfl, rfl⟩ (rm_ok (by decide) (by decide)) hm hl.1 rfl (Nat.le_of_ble_eq_true rfl) ⟨Nat.zero_le _, Nat.zero_le _⟩ dX0_hasValue_22 (fun b2 μ1 H locs hm hP hS => ?_)
        refine b_icmp_ge (tgt := 32) S dX0_hasValue_25 (by decide) hm (fun hm => ?_) (fun hm => ?_)
        · refine lv_iconst (v := (0 : Int32)) hx hb dX0_hasValue_32 (by decide) ?_
          exact r_zretC S hr hG hP hS rfl hm dX0_hasValue_33
        · refine lv_iconst (v := (1 : Int32)) hx hb dX0_hasValue_28 (by decide) ?_
          refine lv_goto (tgt := 33) hx hb dX0_hasValue_29 (by decide) ?_
          exact r_zretC S hr hG hP hS rfl hm dX0_hasValue_33
theorem tX0_hasValue (l : Launch) (D : va_G) (cI cR : ClassId) (n : Nat) (K L ad : Nat → Nat) {o : Nat} (ho : isk n K o 0) (v1 : Int32) (v2 : Int32) : Ci l yX0_hasValue cX0_hasValue 3 (some .boolean) (rmL 1) D cI cR n K L ad [.ref (ad o), .int v1, .int v2] (fX0_hasValue L o v1 v2) := by
  refine Ci.ofW (by decide) (Nat.le_of_ble_eq_true rfl) ?_
  intro μ x hm p e s m args below meth c ls S hr hG hP hS hl
  exact wX0_hasValue_0 S hr hG ho v1 v2 μ hm _ _ ls hP hS hl
-- X0_singleAt
set_option maxHeartbeats 4000000 in
set_option maxRecDepth 100000 in
theorem wX0_singleAt_0 (S : CallFix p m c cX0_singleAt 2 s args TB RX0) (hr : meth.sig.returnType = (some .int) ∧ meth.locks = false) (hG : gok D cI cR n K L ad s) {x : Int32 × Mem} : ∀ (v0 v1 : Int32) (μ : Mem), fX0_singleAt L v0 v1 μ = some x → WI p l e (rmL 0) s m args below meth c D cI cR n K L ad 2 x μ 0 [(0, .int v0), (1, .int v1)] [] := by
  have hx := S.1
  have hb := S.2.1
  intro v0 v1 μ hm H locs ls hP hS hl
  unfold fX0_singleAt at hm
  refine lv_iconst (v := (1 : Int32)) hx hb dX0_singleAt_0 (by decide) ?_
  refine lv_iconst (v := (4 : Int32)) hx hb dX0_singleAt_1 (by decide) ?_
  refine lv_iload_n hx hb dX0_singleAt_2 rfl (lv_at hl 0 rfl) ?_
  refine lv_imul hx hb dX0_singleAt_3 ?_
  refine lv_iadd hx hb dX0_singleAt_4 ?_
  refine lv_iload_n hx hb dX0_singleAt_5 rfl (lv_at hl 1 rfl) ?_
  refine lv_iadd hx hb dX0_singleAt_6 ?_
  exact r_iret S hr hG hP hS hm dX0_singleAt_7
theorem tX0_singleAt (l : Launch) (D : va_G) (cI cR : ClassId) (n : Nat) (K L ad : Nat → Nat) (v0 : Int32) (v1 : Int32) : Ci l yX0_singleAt cX0_singleAt 2 (some .int) (rmL 0) D cI cR n K L ad [.int v0, .int v1] (fX0_singleAt L v0 v1) := by
  refine Ci.ofW (by decide) (Nat.le_of_ble_eq_true rfl) ?_
  intro μ x hm p e s m args below meth c ls S hr hG hP hS hl
  exact wX0_singleAt_0 S hr hG v0 v1 μ hm _ _ ls hP hS hl
-- X0_setSingle
set_option maxHeartbeats 4000000 in
set_option maxRecDepth 100000 in
theorem wX0_setSingle_0 (S : CallFix p m c cX0_setSingle 4 s args TB RX0) (hr : meth.sig.returnType = none ∧ meth.locks = false) (hG : gok D cI cR n K L ad s) {o : Nat} (ho : isk n K o 0) {x : Mem} : ∀ (v1 v2 v3 : Int32) (μ : Mem), fX0_setSingle L o v1 v2 v3 μ = some x → WV p l e (rmL 1) s m args below meth c D cI cR n K L ad 4 x μ 0 [(0, .ref (ad o)), (1, .int v1), (2, .int v2), (3, .int v3)] [] := by
  have hx := S.1
  have hb := S.2.1
  intro v1 v2 v3 μ hm H locs ls hP hS hl
  unfold fX0_setSingle at hm
  refine lv_aload_n hx hb dX0_setSingle_0 rfl (lv_at hl 0 rfl) ?_
  refine r_getr S hG hP ho clX0 fX0_3 kX0_26 dX0_setSingle_1 ?_
  refine lv_iload_n hx hb dX0_setSingle_4 rfl (lv_at hl 1 rfl) ?_
  refine lv_iload_n hx hb dX0_setSingle_5 rfl (lv_at hl 2 rfl) ?_
  refine r_scalli (As := [.int v1, .int v2]) (rest := [.ref (ad (o + 7))]) S hG hP hS mX0_singleAt kX0_95 (tX0_singleAt _ _ _ _ _ _ _ _ v1 v2) ⟨rfl, rfl⟩ (rm_ok (by decide) (by decide)) hm hl.1 rfl (Nat.le_of_ble_eq_true rfl) ⟨Nat.zero_le _, Nat.zero_le _⟩ dX0_setSingle_6 (fun b2 μ1 H locs hm hP hS => ?_)
  refine lv_iload_n hx hb dX0_setSingle_9 rfl (lv_at hl 3 rfl) ?_
  refine r_vcallv (As := [.int b2, .int v3]) (rest := []) S hG hP hS mX3_set kX0_46 clX3 (chX0_3 hG ho) (tX3_set _ _ _ _ _ _ _ _ (chX0_3 hG ho) b2 v3) ⟨rfl, rfl⟩ (rm_ok (by decide) (by decide)) hm hl.1 rfl (Nat.le_of_ble_eq_true rfl) ⟨Nat.zero_le _, Nat.zero_le _⟩ dX0_setSingle_10 (fun μ3 H locs hm hP hS => ?_)
  exact r_vret S hr hG hP hS hm dX0_setSingle_13
theorem tX0_setSingle (l : Launch) (D : va_G) (cI cR : ClassId) (n : Nat) (K L ad : Nat → Nat) {o : Nat} (ho : isk n K o 0) (v1 : Int32) (v2 : Int32) (v3 : Int32) : Cv l yX0_setSingle cX0_setSingle 4 none (rmL 1) D cI cR n K L ad [.ref (ad o), .int v1, .int v2, .int v3] (fX0_setSingle L o v1 v2 v3) := by
  refine Cv.ofW (by decide) (Nat.le_of_ble_eq_true rfl) ?_
  intro μ x hm p e s m args below meth c ls S hr hG hP hS hl
  exact wX0_setSingle_0 S hr hG ho v1 v2 v3 μ hm _ _ ls hP hS hl
-- X0_tellSingle
set_option maxHeartbeats 4000000 in
set_option maxRecDepth 100000 in
theorem wX0_tellSingle_0 (S : CallFix p m c cX0_tellSingle 4 s args TB RX0) (hr : meth.sig.returnType = (some .boolean) ∧ meth.locks = false) (hG : gok D cI cR n K L ad s) {o : Nat} (ho : isk n K o 0) {x : Int32 × Mem} : ∀ (v1 v2 v3 : Int32) (μ : Mem), fX0_tellSingle L o v1 v2 v3 μ = some x → WI p l e (rmL 2) s m args below meth c D cI cR n K L ad 4 x μ 0 [(0, .ref (ad o)), (1, .int v1), (2, .int v2), (3, .int v3)] [] := by
  have hx := S.1
  have hb := S.2.1
  intro v1 v2 v3 μ hm H locs ls hP hS hl
  unfold fX0_tellSingle at hm
  refine lv_aload_n hx hb dX0_tellSingle_0 rfl (lv_at hl 0 rfl) ?_
  refine lv_iload_n hx hb dX0_tellSingle_1 rfl (lv_at hl 1 rfl) ?_
  refine lv_iload_n hx hb dX0_tellSingle_2 rfl (lv_at hl 2 rfl) ?_
  refine r_vcalli (As := [.int v1, .int v2]) (rest := []) S hG hP hS mX0_hasValue kX0_50 clX0 ho (tX0_hasValue _ _ _ _ _ _ _ _ ho v1 v2) ⟨rfl, rfl⟩ (rm_ok (by decide) (by decide)) hm hl.1 rfl (Nat.le_of_ble_eq_true rfl) ⟨Nat.zero_le _, Nat.zero_le _⟩ dX0_tellSingle_3 (fun b2 μ1 H locs hm hP hS => ?_)
  refine b_if_ne (tgt := 11) S dX0_tellSingle_6 (by decide) hm (fun hm => ?_) (fun hm => ?_)
  · refine lv_aload_n hx hb dX0_tellSingle_11 rfl (lv_at hl 0 rfl) ?_
    refine lv_iload_n hx hb dX0_tellSingle_12 rfl (lv_at hl 1 rfl) ?_
    refine lv_iload_n hx hb dX0_tellSingle_13 rfl (lv_at hl 2 rfl) ?_
    refine lv_iload_n hx hb dX0_tellSingle_14 rfl (lv_at hl 3 rfl) ?_
    refine r_vcallv (As := [.int v1, .int v2, .int v3]) (rest := []) S hG hP hS mX0_setSingle kX0_54 clX0 ho (tX0_setSingle _ _ _ _ _ _ _ _ ho v1 v2 v3) ⟨rfl, rfl⟩ (rm_ok (by decide) (by decide)) hm hl.1 rfl (Nat.le_of_ble_eq_true rfl) ⟨Nat.zero_le _, Nat.zero_le _⟩ dX0_tellSingle_15 (fun μ3 H locs hm hP hS => ?_)
    refine lv_iconst (v := (1 : Int32)) hx hb dX0_tellSingle_18 (by decide) ?_
    exact r_zretC S hr hG hP hS rfl hm dX0_tellSingle_19
  · refine lv_iconst (v := (0 : Int32)) hx hb dX0_tellSingle_9 (by decide) ?_
    exact r_zretC S hr hG hP hS rfl hm dX0_tellSingle_10
theorem tX0_tellSingle (l : Launch) (D : va_G) (cI cR : ClassId) (n : Nat) (K L ad : Nat → Nat) {o : Nat} (ho : isk n K o 0) (v1 : Int32) (v2 : Int32) (v3 : Int32) : Ci l yX0_tellSingle cX0_tellSingle 4 (some .boolean) (rmL 2) D cI cR n K L ad [.ref (ad o), .int v1, .int v2, .int v3] (fX0_tellSingle L o v1 v2 v3) := by
  refine Ci.ofW (by decide) (Nat.le_of_ble_eq_true rfl) ?_
  intro μ x hm p e s m args below meth c ls S hr hG hP hS hl
  exact wX0_tellSingle_0 S hr hG ho v1 v2 v3 μ hm _ _ ls hP hS hl
-- X0_hasName
set_option maxHeartbeats 4000000 in
set_option maxRecDepth 100000 in
theorem wX0_hasName_0 (S : CallFix p m c cX0_hasName 2 s args TB RX0) (hr : meth.sig.returnType = (some .boolean) ∧ meth.locks = false) (hG : gok D cI cR n K L ad s) {o : Nat} (ho : isk n K o 0) {x : Int32 × Mem} : ∀ (v1 : Int32) (μ : Mem), fX0_hasName L o v1 μ = some x → WI p l e (rmL 0) s m args below meth c D cI cR n K L ad 2 x μ 0 [(0, .ref (ad o)), (1, .int v1)] [] := by
  have hx := S.1
  have hb := S.2.1
  intro v1 μ hm H locs ls hP hS hl
  unfold fX0_hasName at hm
  refine lv_iload_n hx hb dX0_hasName_0 rfl (lv_at hl 1 rfl) ?_
  refine b_if_lt (tgt := 16) S dX0_hasName_1 (by decide) hm (fun hm => ?_) (fun hm => ?_)
  · refine lv_iconst (v := (0 : Int32)) hx hb dX0_hasName_16 (by decide) ?_
    exact r_zretC S hr hG hP hS rfl hm dX0_hasName_17
  · refine lv_iload_n hx hb dX0_hasName_4 rfl (lv_at hl 1 rfl) ?_
    refine lv_aload_n hx hb dX0_hasName_5 rfl (lv_at hl 0 rfl) ?_
    refine r_geti S hG hP ho clX0 fX0_4 kX0_33 dX0_hasName_6 ?_
    refine b_icmp_ge (tgt := 16) S dX0_hasName_9 (by decide) hm (fun hm => ?_) (fun hm => ?_)
    · refine lv_iconst (v := (0 : Int32)) hx hb dX0_hasName_16 (by decide) ?_
      exact r_zretC S hr hG hP hS rfl hm dX0_hasName_17
    · refine lv_iconst (v := (1 : Int32)) hx hb dX0_hasName_12 (by decide) ?_
      refine lv_goto (tgt := 17) hx hb dX0_hasName_13 (by decide) ?_
      exact r_zretC S hr hG hP hS rfl hm dX0_hasName_17
theorem tX0_hasName (l : Launch) (D : va_G) (cI cR : ClassId) (n : Nat) (K L ad : Nat → Nat) {o : Nat} (ho : isk n K o 0) (v1 : Int32) : Ci l yX0_hasName cX0_hasName 2 (some .boolean) (rmL 0) D cI cR n K L ad [.ref (ad o), .int v1] (fX0_hasName L o v1) := by
  refine Ci.ofW (by decide) (Nat.le_of_ble_eq_true rfl) ?_
  intro μ x hm p e s m args below meth c ls S hr hG hP hS hl
  exact wX0_hasName_0 S hr hG ho v1 μ hm _ _ ls hP hS hl
-- X0_nameOn
set_option maxHeartbeats 4000000 in
set_option maxRecDepth 100000 in
theorem wX0_nameOn_0 (S : CallFix p m c cX0_nameOn 3 s args TB RX0) (hr : meth.sig.returnType = (some .int) ∧ meth.locks = false) (hG : gok D cI cR n K L ad s) {o : Nat} (ho : isk n K o 0) {x : Int32 × Mem} : ∀ (v1 v2 : Int32) (μ : Mem), fX0_nameOn L o v1 v2 μ = some x → WI p l e (rmL 1) s m args below meth c D cI cR n K L ad 3 x μ 0 [(0, .ref (ad o)), (1, .int v1), (2, .int v2)] [] := by
  have hx := S.1
  have hb := S.2.1
  intro v1 v2 μ hm H locs ls hP hS hl
  unfold fX0_nameOn at hm
  refine lv_iload_n hx hb dX0_nameOn_0 rfl (lv_at hl 2 rfl) ?_
  refine b_if_ne (tgt := 15) S dX0_nameOn_1 (by decide) hm (fun hm => ?_) (fun hm => ?_)
  · refine lv_aload_n hx hb dX0_nameOn_15 rfl (lv_at hl 0 rfl) ?_
    refine r_getr S hG hP ho clX0 fX0_2 kX0_23 dX0_nameOn_16 ?_
    refine lv_iload_n hx hb dX0_nameOn_19 rfl (lv_at hl 1 rfl) ?_
    refine r_vcalli (As := [.int v1]) (rest := []) S hG hP hS mX3_get kX0_86 clX3 (chX0_2 hG ho) (tX3_get _ _ _ _ _ _ _ _ (chX0_2 hG ho) v1) ⟨rfl, rfl⟩ (rm_ok (by decide) (by decide)) hm hl.1 rfl (Nat.le_of_ble_eq_true rfl) ⟨Nat.zero_le _, Nat.zero_le _⟩ dX0_nameOn_20 (fun b2 μ1 H locs hm hP hS => ?_)
    exact r_iret S hr hG hP hS hm dX0_nameOn_23
  · refine lv_aload_n hx hb dX0_nameOn_4 rfl (lv_at hl 0 rfl) ?_
    refine r_getr S hG hP ho clX0 fX0_1 kX0_20 dX0_nameOn_5 ?_
    refine lv_iload_n hx hb dX0_nameOn_8 rfl (lv_at hl 1 rfl) ?_
    refine r_vcalli (As := [.int v1]) (rest := []) S hG hP hS mX3_get kX0_86 clX3 (chX0_1 hG ho) (tX3_get _ _ _ _ _ _ _ _ (chX0_1 hG ho) v1) ⟨rfl, rfl⟩ (rm_ok (by decide) (by decide)) hm hl.1 rfl (Nat.le_of_ble_eq_true rfl) ⟨Nat.zero_le _, Nat.zero_le _⟩ dX0_nameOn_9 (fun b4 μ3 H locs hm hP hS => ?_)
    refine lv_goto (tgt := 23) hx hb dX0_nameOn_12 (by decide) ?_
    exact r_iret S hr hG hP hS hm dX0_nameOn_23
theorem tX0_nameOn (l : Launch) (D : va_G) (cI cR : ClassId) (n : Nat) (K L ad : Nat → Nat) {o : Nat} (ho : isk n K o 0) (v1 : Int32) (v2 : Int32) : Ci l yX0_nameOn cX0_nameOn 3 (some .int) (rmL 1) D cI cR n K L ad [.ref (ad o), .int v1, .int v2] (fX0_nameOn L o v1 v2) := by
  refine Ci.ofW (by decide) (Nat.le_of_ble_eq_true rfl) ?_
  intro μ x hm p e s m args below meth c ls S hr hG hP hS hl
  exact wX0_nameOn_0 S hr hG ho v1 v2 μ hm _ _ ls hP hS hl
-- X0_isJoined
set_option maxHeartbeats 4000000 in
set_option maxRecDepth 100000 in
theorem wX0_isJoined_32 (S : CallFix p m c cX0_isJoined 4 s args TB RX0) (hr : meth.sig.returnType = (some .boolean) ∧ meth.locks = false) (hG : gok D cI cR n K L ad s) {o : Nat} (ho : isk n K o 0) {x : Int32 × Mem} {self2 : Int32 → Int32 → Int32 → Mem → Option (Int32 × Mem)} (hs2 : ∀ (v1 v2 v3 : Int32) (μ : Mem), self2 v1 v2 v3 μ = some x → WI p l e (rmL 2) s m args below meth c D cI cR n K L ad 4 x μ 2 [(0, .ref (ad o)), (1, .int v1), (2, .int v2), (3, .int v3)] []) : ∀ (v1 v2 v3 : Int32) (μ : Mem), fX0_isJoined_32 L o self2 v1 v2 v3 μ = some x → WI p l e (rmL 2) s m args below meth c D cI cR n K L ad 4 x μ 32 [(0, .ref (ad o)), (1, .int v1), (2, .int v2), (3, .int v3)] [] := by
  have hx := S.1
  have hb := S.2.1
  intro v1 v2 v3 μ hm H locs ls hP hS hl
  unfold fX0_isJoined_32 at hm
  refine r_iinc (b := (1 : Int32)) (k := 3) S hm dX0_isJoined_32 hl rfl (by decide) (by decide) (fun a1 ls hm hl => ?_)
  have hl : lv_has ls 4 [(3, .int a1), (0, .ref (ad o)), (1, .int v1), (2, .int v2)] := hl
  refine lv_goto (tgt := 2) hx hb dX0_isJoined_35 (by decide) ?_
  exact hs2 v1 v2 a1 μ hm H locs ls hP hS (lv_sub hl [1, 2, 3, 0] rfl)
set_option maxHeartbeats 4000000 in
set_option maxRecDepth 100000 in
theorem wX0_isJoined_2 (S : CallFix p m c cX0_isJoined 4 s args TB RX0) (hr : meth.sig.returnType = (some .boolean) ∧ meth.locks = false) (hG : gok D cI cR n K L ad s) {o : Nat} (ho : isk n K o 0) {x : Int32 × Mem} : ∀ (k : Nat) (v1 v2 v3 : Int32) (μ : Mem), fX0_isJoined_2 L o k v1 v2 v3 μ = some x → WI p l e (rmL 2) s m args below meth c D cI cR n K L ad 4 x μ 2 [(0, .ref (ad o)), (1, .int v1), (2, .int v2), (3, .int v3)] [] := by
  have hx := S.1
  have hb := S.2.1
  intro k
  induction k with
  | zero => intro v1 v2 v3 μ hm; exact absurd (show none = some x from hm) (fun h => by cases h)
  | succ k ih =>
    intro v1 v2 v3 μ hm H locs ls hP hS hl
    have hm : fX0_isJoined_2_b L o (fX0_isJoined_2 L o k) v1 v2 v3 μ = some x := hm
    unfold fX0_isJoined_2_b at hm
    refine lv_iload_n hx hb dX0_isJoined_2 rfl (lv_at hl 3 rfl) ?_
    refine lv_aload_n hx hb dX0_isJoined_3 rfl (lv_at hl 0 rfl) ?_
    refine r_geti S hG hP ho clX0 fX0_5 kX0_36 dX0_isJoined_4 ?_
    refine b_icmp_ge (tgt := 38) S dX0_isJoined_7 (by decide) hm (fun hm => ?_) (fun hm => ?_)
    · refine lv_iconst (v := (0 : Int32)) hx hb dX0_isJoined_38 (by decide) ?_
      exact r_zretC S hr hG hP hS rfl hm dX0_isJoined_39
    · refine lv_aload_n hx hb dX0_isJoined_10 rfl (lv_at hl 0 rfl) ?_
      refine lv_iload_n hx hb dX0_isJoined_11 rfl (lv_at hl 3 rfl) ?_
      refine lv_iconst (v := (0 : Int32)) hx hb dX0_isJoined_12 (by decide) ?_
      refine r_vcalli (As := [.int v3, .int (0 : Int32)]) (rest := []) S hG hP hS mX0_nameOn kX0_79 clX0 ho (tX0_nameOn _ _ _ _ _ _ _ _ ho v3 (0 : Int32)) ⟨rfl, rfl⟩ (rm_ok (by decide) (by decide)) hm hl.1 rfl (Nat.le_of_ble_eq_true rfl) ⟨Nat.zero_le _, Nat.zero_le _⟩ dX0_isJoined_13 (fun b3 μ2 H locs hm hP hS => ?_)
      refine lv_iload_n hx hb dX0_isJoined_16 rfl (lv_at hl 1 rfl) ?_
      refine b_icmp_ne (tgt := 32) S dX0_isJoined_17 (by decide) hm (fun hm => ?_) (fun hm => ?_)
      · exact wX0_isJoined_32 S hr hG ho ih v1 v2 v3 μ2 hm H locs ls hP hS (lv_sub hl [0, 1, 2, 3] rfl)
      · refine lv_aload_n hx hb dX0_isJoined_20 rfl (lv_at hl 0 rfl) ?_
        refine lv_iload_n hx hb dX0_isJoined_21 rfl (lv_at hl 3 rfl) ?_
        refine lv_iconst (v := (1 : Int32)) hx hb dX0_isJoined_22 (by decide) ?_
        refine r_vcalli (As := [.int v3, .int (1 : Int32)]) (rest := []) S hG hP hS mX0_nameOn kX0_79 clX0 ho (tX0_nameOn _ _ _ _ _ _ _ _ ho v3 (1 : Int32)) ⟨rfl, rfl⟩ (rm_ok (by decide) (by decide)) hm hl.1 rfl (Nat.le_of_ble_eq_true rfl) ⟨Nat.zero_le _, Nat.zero_le _⟩ dX0_isJoined_23 (fun b5 μ4 H locs hm hP hS => ?_)
        refine lv_iload_n hx hb dX0_isJoined_26 rfl (lv_at hl 2 rfl) ?_
        refine b_icmp_ne (tgt := 32) S dX0_isJoined_27 (by decide) hm (fun hm => ?_) (fun hm => ?_)
        · exact wX0_isJoined_32 S hr hG ho ih v1 v2 v3 μ4 hm H locs ls hP hS (lv_sub hl [0, 1, 2, 3] rfl)
        · refine lv_iconst (v := (1 : Int32)) hx hb dX0_isJoined_30 (by decide) ?_
          exact r_zretC S hr hG hP hS rfl hm dX0_isJoined_31
set_option maxHeartbeats 4000000 in
set_option maxRecDepth 100000 in
theorem wX0_isJoined_0 (S : CallFix p m c cX0_isJoined 4 s args TB RX0) (hr : meth.sig.returnType = (some .boolean) ∧ meth.locks = false) (hG : gok D cI cR n K L ad s) {o : Nat} (ho : isk n K o 0) {x : Int32 × Mem} : ∀ (v1 v2 : Int32) (μ : Mem), fX0_isJoined L o v1 v2 μ = some x → WI p l e (rmL 2) s m args below meth c D cI cR n K L ad 4 x μ 0 [(0, .ref (ad o)), (1, .int v1), (2, .int v2)] [] := by
  have hx := S.1
  have hb := S.2.1
  intro v1 v2 μ hm H locs ls hP hS hl
  unfold fX0_isJoined at hm
  refine lv_iconst (v := (0 : Int32)) hx hb dX0_isJoined_0 (by decide) ?_
  refine lv_istore_n (lv' := [(3, .int (0 : Int32)), (0, .ref (ad o)), (1, .int v1), (2, .int v2)]) hx hb dX0_isJoined_1 rfl hl (by decide) rfl (fun ls hl => ?_)
  exact wX0_isJoined_2 S hr hG ho FU v1 v2 (0 : Int32) μ hm H locs ls hP hS (lv_sub hl [1, 2, 3, 0] rfl)
theorem tX0_isJoined (l : Launch) (D : va_G) (cI cR : ClassId) (n : Nat) (K L ad : Nat → Nat) {o : Nat} (ho : isk n K o 0) (v1 : Int32) (v2 : Int32) : Ci l yX0_isJoined cX0_isJoined 4 (some .boolean) (rmL 2) D cI cR n K L ad [.ref (ad o), .int v1, .int v2] (fX0_isJoined L o v1 v2) := by
  refine Ci.ofW (by decide) (Nat.le_of_ble_eq_true rfl) ?_
  intro μ x hm p e s m args below meth c ls S hr hG hP hS hl
  exact wX0_isJoined_0 S hr hG ho v1 v2 μ hm _ _ ls hP hS hl
-- X0_valuesOf
set_option maxHeartbeats 4000000 in
set_option maxRecDepth 100000 in
theorem wX0_valuesOf_0 (S : CallFix p m c cX0_valuesOf 2 s args TB RX0) (hr : meth.sig.returnType = (some .int) ∧ meth.locks = false) (hG : gok D cI cR n K L ad s) {o : Nat} (ho : isk n K o 0) {x : Int32 × Mem} : ∀ (v1 : Int32) (μ : Mem), fX0_valuesOf L o v1 μ = some x → WI p l e (rmL 1) s m args below meth c D cI cR n K L ad 2 x μ 0 [(0, .ref (ad o)), (1, .int v1)] [] := by
  have hx := S.1
  have hb := S.2.1
  intro v1 μ hm H locs ls hP hS hl
  unfold fX0_valuesOf at hm
  refine lv_aload_n hx hb dX0_valuesOf_0 rfl (lv_at hl 0 rfl) ?_
  refine r_getr S hG hP ho clX0 fX0_0 kX0_14 dX0_valuesOf_1 ?_
  refine lv_iload_n hx hb dX0_valuesOf_4 rfl (lv_at hl 1 rfl) ?_
  refine r_vcalli (As := [.int v1]) (rest := []) S hG hP hS mX3_get kX0_86 clX3 (chX0_0 hG ho) (tX3_get _ _ _ _ _ _ _ _ (chX0_0 hG ho) v1) ⟨rfl, rfl⟩ (rm_ok (by decide) (by decide)) hm hl.1 rfl (Nat.le_of_ble_eq_true rfl) ⟨Nat.zero_le _, Nat.zero_le _⟩ dX0_valuesOf_5 (fun b2 μ1 H locs hm hP hS => ?_)
  exact r_iret S hr hG hP hS hm dX0_valuesOf_8
theorem tX0_valuesOf (l : Launch) (D : va_G) (cI cR : ClassId) (n : Nat) (K L ad : Nat → Nat) {o : Nat} (ho : isk n K o 0) (v1 : Int32) : Ci l yX0_valuesOf cX0_valuesOf 2 (some .int) (rmL 1) D cI cR n K L ad [.ref (ad o), .int v1] (fX0_valuesOf L o v1) := by
  refine Ci.ofW (by decide) (Nat.le_of_ble_eq_true rfl) ?_
  intro μ x hm p e s m args below meth c ls S hr hG hP hS hl
  exact wX0_valuesOf_0 S hr hG ho v1 μ hm _ _ ls hP hS hl
-- X0_pairAt
set_option maxHeartbeats 4000000 in
set_option maxRecDepth 100000 in
theorem wX0_pairAt_0 (S : CallFix p m c cX0_pairAt 3 s args TB RX0) (hr : meth.sig.returnType = (some .int) ∧ meth.locks = false) (hG : gok D cI cR n K L ad s) {x : Int32 × Mem} : ∀ (v0 v1 v2 : Int32) (μ : Mem), fX0_pairAt L v0 v1 v2 μ = some x → WI p l e (rmL 0) s m args below meth c D cI cR n K L ad 3 x μ 0 [(0, .int v0), (1, .int v1), (2, .int v2)] [] := by
  have hx := S.1
  have hb := S.2.1
  intro v0 v1 v2 μ hm H locs ls hP hS hl
  unfold fX0_pairAt at hm
  refine lv_bipush (v := (25 : Int32)) hx hb dX0_pairAt_0 (by decide) ?_
  refine lv_bipush (v := (16 : Int32)) hx hb dX0_pairAt_2 (by decide) ?_
  refine lv_iload_n hx hb dX0_pairAt_4 rfl (lv_at hl 0 rfl) ?_
  refine lv_imul hx hb dX0_pairAt_5 ?_
  refine lv_iadd hx hb dX0_pairAt_6 ?_
  refine lv_iconst (v := (4 : Int32)) hx hb dX0_pairAt_7 (by decide) ?_
  refine lv_iload_n hx hb dX0_pairAt_8 rfl (lv_at hl 1 rfl) ?_
  refine lv_imul hx hb dX0_pairAt_9 ?_
  refine lv_iadd hx hb dX0_pairAt_10 ?_
  refine lv_iload_n hx hb dX0_pairAt_11 rfl (lv_at hl 2 rfl) ?_
  refine lv_iadd hx hb dX0_pairAt_12 ?_
  exact r_iret S hr hG hP hS hm dX0_pairAt_13
theorem tX0_pairAt (l : Launch) (D : va_G) (cI cR : ClassId) (n : Nat) (K L ad : Nat → Nat) (v0 : Int32) (v1 : Int32) (v2 : Int32) : Ci l yX0_pairAt cX0_pairAt 3 (some .int) (rmL 0) D cI cR n K L ad [.int v0, .int v1, .int v2] (fX0_pairAt L v0 v1 v2) := by
  refine Ci.ofW (by decide) (Nat.le_of_ble_eq_true rfl) ?_
  intro μ x hm p e s m args below meth c ls S hr hG hP hS hl
  exact wX0_pairAt_0 S hr hG v0 v1 v2 μ hm _ _ ls hP hS hl
-- X0_setPair
set_option maxHeartbeats 4000000 in
set_option maxRecDepth 100000 in
theorem wX0_setPair_0 (S : CallFix p m c cX0_setPair 5 s args TB RX0) (hr : meth.sig.returnType = none ∧ meth.locks = false) (hG : gok D cI cR n K L ad s) {o : Nat} (ho : isk n K o 0) {x : Mem} : ∀ (v1 v2 v3 v4 : Int32) (μ : Mem), fX0_setPair L o v1 v2 v3 v4 μ = some x → WV p l e (rmL 1) s m args below meth c D cI cR n K L ad 5 x μ 0 [(0, .ref (ad o)), (1, .int v1), (2, .int v2), (3, .int v3), (4, .int v4)] [] := by
  have hx := S.1
  have hb := S.2.1
  intro v1 v2 v3 v4 μ hm H locs ls hP hS hl
  unfold fX0_setPair at hm
  refine lv_aload_n hx hb dX0_setPair_0 rfl (lv_at hl 0 rfl) ?_
  refine r_getr S hG hP ho clX0 fX0_3 kX0_26 dX0_setPair_1 ?_
  refine lv_iload_n hx hb dX0_setPair_4 rfl (lv_at hl 1 rfl) ?_
  refine lv_iload_n hx hb dX0_setPair_5 rfl (lv_at hl 2 rfl) ?_
  refine lv_iload_n hx hb dX0_setPair_6 rfl (lv_at hl 3 rfl) ?_
  refine r_scalli (As := [.int v1, .int v2, .int v3]) (rest := [.ref (ad (o + 7))]) S hG hP hS mX0_pairAt kX0_98 (tX0_pairAt _ _ _ _ _ _ _ _ v1 v2 v3) ⟨rfl, rfl⟩ (rm_ok (by decide) (by decide)) hm hl.1 rfl (Nat.le_of_ble_eq_true rfl) ⟨Nat.zero_le _, Nat.zero_le _⟩ dX0_setPair_7 (fun b2 μ1 H locs hm hP hS => ?_)
  refine lv_iload hx hb dX0_setPair_10 (lv_at hl 4 rfl) ?_
  refine r_vcallv (As := [.int b2, .int v4]) (rest := []) S hG hP hS mX3_set kX0_46 clX3 (chX0_3 hG ho) (tX3_set _ _ _ _ _ _ _ _ (chX0_3 hG ho) b2 v4) ⟨rfl, rfl⟩ (rm_ok (by decide) (by decide)) hm hl.1 rfl (Nat.le_of_ble_eq_true rfl) ⟨Nat.zero_le _, Nat.zero_le _⟩ dX0_setPair_12 (fun μ3 H locs hm hP hS => ?_)
  exact r_vret S hr hG hP hS hm dX0_setPair_15
theorem tX0_setPair (l : Launch) (D : va_G) (cI cR : ClassId) (n : Nat) (K L ad : Nat → Nat) {o : Nat} (ho : isk n K o 0) (v1 : Int32) (v2 : Int32) (v3 : Int32) (v4 : Int32) : Cv l yX0_setPair cX0_setPair 5 none (rmL 1) D cI cR n K L ad [.ref (ad o), .int v1, .int v2, .int v3, .int v4] (fX0_setPair L o v1 v2 v3 v4) := by
  refine Cv.ofW (by decide) (Nat.le_of_ble_eq_true rfl) ?_
  intro μ x hm p e s m args below meth c ls S hr hG hP hS hl
  exact wX0_setPair_0 S hr hG ho v1 v2 v3 v4 μ hm _ _ ls hP hS hl
-- X0_addTable
set_option maxHeartbeats 4000000 in
set_option maxRecDepth 100000 in
theorem wX0_addTable_80 (S : CallFix p m c cX0_addTable 6 s args TB RX0) (hr : meth.sig.returnType = (some .boolean) ∧ meth.locks = false) (hG : gok D cI cR n K L ad s) {o : Nat} (ho : isk n K o 0) {x : Int32 × Mem} : ∀ (k : Nat) (v1 v2 v3 v4 v5 : Int32) (μ : Mem), fX0_addTable_80 L o k v1 v2 v3 v4 v5 μ = some x → WI p l e (rmL 3) s m args below meth c D cI cR n K L ad 6 x μ 80 [(0, .ref (ad o)), (1, .int v1), (2, .int v2), (3, .int v3), (4, .int v4), (5, .int v5)] [] := by
  have hx := S.1
  have hb := S.2.1
  intro k
  induction k with
  | zero => intro v1 v2 v3 v4 v5 μ hm; exact absurd (show none = some x from hm) (fun h => by cases h)
  | succ k ih =>
    intro v1 v2 v3 v4 v5 μ hm H locs ls hP hS hl
    have hm : fX0_addTable_80_b L o (fX0_addTable_80 L o k) v1 v2 v3 v4 v5 μ = some x := hm
    unfold fX0_addTable_80_b at hm
    refine lv_iload hx hb dX0_addTable_80 (lv_at hl 5 rfl) ?_
    refine lv_aload_n hx hb dX0_addTable_82 rfl (lv_at hl 0 rfl) ?_
    refine lv_iload_n hx hb dX0_addTable_83 rfl (lv_at hl 1 rfl) ?_
    refine r_vcalli (As := [.int v1]) (rest := [.int v5]) S hG hP hS mX0_valuesOf kX0_65 clX0 ho (tX0_valuesOf _ _ _ _ _ _ _ _ ho v1) ⟨rfl, rfl⟩ (rm_ok (by decide) (by decide)) hm hl.1 rfl (Nat.le_of_ble_eq_true rfl) ⟨Nat.zero_le _, Nat.zero_le _⟩ dX0_addTable_84 (fun b2 μ1 H locs hm hP hS => ?_)
    refine lv_aload_n hx hb dX0_addTable_87 rfl (lv_at hl 0 rfl) ?_
    refine lv_iload_n hx hb dX0_addTable_88 rfl (lv_at hl 2 rfl) ?_
    refine r_vcalli (As := [.int v2]) (rest := [.int b2, .int v5]) S hG hP hS mX0_valuesOf kX0_65 clX0 ho (tX0_valuesOf _ _ _ _ _ _ _ _ ho v2) ⟨rfl, rfl⟩ (rm_ok (by decide) (by decide)) hm hl.1 rfl (Nat.le_of_ble_eq_true rfl) ⟨Nat.zero_le _, Nat.zero_le _⟩ dX0_addTable_89 (fun b4 μ3 H locs hm hP hS => ?_)
    refine r_min S hl.1 kX0_69 ⟨Nat.le_of_ble_eq_true rfl, Nat.le_of_ble_eq_true rfl⟩ ⟨Nat.zero_le _, Nat.zero_le _⟩ dX0_addTable_92 ?_
    refine r_top hm (fun a5 hm => ?_)
    refine b_icmp_ge (tgt := 115) S dX0_addTable_95 (by decide) hm (fun hm => ?_) (fun hm => ?_)
    · refine lv_iconst (v := (1 : Int32)) hx hb dX0_addTable_115 (by decide) ?_
      exact r_zretC S hr hG hP hS rfl hm dX0_addTable_116
    · refine lv_aload_n hx hb dX0_addTable_98 rfl (lv_at hl 0 rfl) ?_
      refine lv_iload hx hb dX0_addTable_99 (lv_at hl 4 rfl) ?_
      refine lv_iload hx hb dX0_addTable_101 (lv_at hl 5 rfl) ?_
      refine lv_iload hx hb dX0_addTable_103 (lv_at hl 5 rfl) ?_
      refine lv_iload_n hx hb dX0_addTable_105 rfl (lv_at hl 3 rfl) ?_
      refine r_vcallv (As := [.int v4, .int v5, .int v5, .int v3]) (rest := []) S hG hP hS mX0_setPair kX0_75 clX0 ho (tX0_setPair _ _ _ _ _ _ _ _ ho v4 v5 v5 v3) ⟨rfl, rfl⟩ (rm_ok (by decide) (by decide)) hm hl.1 rfl (Nat.le_of_ble_eq_true rfl) ⟨Nat.zero_le _, Nat.zero_le _⟩ dX0_addTable_106 (fun μ6 H locs hm hP hS => ?_)
      refine r_iinc (b := (1 : Int32)) (k := 5) S hm dX0_addTable_109 hl rfl (by decide) (by decide) (fun a7 ls hm hl => ?_)
      have hl : lv_has ls 6 [(5, .int a7), (0, .ref (ad o)), (1, .int v1), (2, .int v2), (3, .int v3), (4, .int v4)] := hl
      refine lv_goto (tgt := 80) hx hb dX0_addTable_112 (by decide) ?_
      exact ih v1 v2 v3 v4 a7 μ6 hm H locs ls hP hS (lv_sub hl [1, 2, 3, 4, 5, 0] rfl)
set_option maxHeartbeats 4000000 in
set_option maxRecDepth 100000 in
theorem wX0_addTable_0 (S : CallFix p m c cX0_addTable 6 s args TB RX0) (hr : meth.sig.returnType = (some .boolean) ∧ meth.locks = false) (hG : gok D cI cR n K L ad s) {o : Nat} (ho : isk n K o 0) {x : Int32 × Mem} : ∀ (v1 v2 v3 : Int32) (μ : Mem), fX0_addTable L o v1 v2 v3 μ = some x → WI p l e (rmL 3) s m args below meth c D cI cR n K L ad 6 x μ 0 [(0, .ref (ad o)), (1, .int v1), (2, .int v2), (3, .int v3)] [] := by
  have hx := S.1
  have hb := S.2.1
  intro v1 v2 v3 μ hm H locs ls hP hS hl
  unfold fX0_addTable at hm
  refine lv_aload_n hx hb dX0_addTable_0 rfl (lv_at hl 0 rfl) ?_
  refine r_geti S hG hP ho clX0 fX0_5 kX0_36 dX0_addTable_1 ?_
  refine lv_bipush (v := (9 : Int32)) hx hb dX0_addTable_4 (by decide) ?_
  refine b_icmp_ge (tgt := 39) S dX0_addTable_6 (by decide) hm (fun hm => ?_) (fun hm => ?_)
  · refine lv_iconst (v := (0 : Int32)) hx hb dX0_addTable_39 (by decide) ?_
    exact r_zretC S hr hG hP hS rfl hm dX0_addTable_40
  · refine lv_aload_n hx hb dX0_addTable_9 rfl (lv_at hl 0 rfl) ?_
    refine lv_iload_n hx hb dX0_addTable_10 rfl (lv_at hl 1 rfl) ?_
    refine r_vcalli (As := [.int v1]) (rest := []) S hG hP hS mX0_hasName kX0_58 clX0 ho (tX0_hasName _ _ _ _ _ _ _ _ ho v1) ⟨rfl, rfl⟩ (rm_ok (by decide) (by decide)) hm hl.1 rfl (Nat.le_of_ble_eq_true rfl) ⟨Nat.zero_le _, Nat.zero_le _⟩ dX0_addTable_11 (fun b9 μ8 H locs hm hP hS => ?_)
    refine b_if_eq (tgt := 39) S dX0_addTable_14 (by decide) hm (fun hm => ?_) (fun hm => ?_)
    · refine lv_iconst (v := (0 : Int32)) hx hb dX0_addTable_39 (by decide) ?_
      exact r_zretC S hr hG hP hS rfl hm dX0_addTable_40
    · refine lv_aload_n hx hb dX0_addTable_17 rfl (lv_at hl 0 rfl) ?_
      refine lv_iload_n hx hb dX0_addTable_18 rfl (lv_at hl 2 rfl) ?_
      refine r_vcalli (As := [.int v2]) (rest := []) S hG hP hS mX0_hasName kX0_58 clX0 ho (tX0_hasName _ _ _ _ _ _ _ _ ho v2) ⟨rfl, rfl⟩ (rm_ok (by decide) (by decide)) hm hl.1 rfl (Nat.le_of_ble_eq_true rfl) ⟨Nat.zero_le _, Nat.zero_le _⟩ dX0_addTable_19 (fun b11 μ10 H locs hm hP hS => ?_)
      refine b_if_eq (tgt := 39) S dX0_addTable_22 (by decide) hm (fun hm => ?_) (fun hm => ?_)
      · refine lv_iconst (v := (0 : Int32)) hx hb dX0_addTable_39 (by decide) ?_
        exact r_zretC S hr hG hP hS rfl hm dX0_addTable_40
      · refine lv_iload_n hx hb dX0_addTable_25 rfl (lv_at hl 1 rfl) ?_
        refine lv_iload_n hx hb dX0_addTable_26 rfl (lv_at hl 2 rfl) ?_
        refine b_icmp_ge (tgt := 39) S dX0_addTable_27 (by decide) hm (fun hm => ?_) (fun hm => ?_)
        · refine lv_iconst (v := (0 : Int32)) hx hb dX0_addTable_39 (by decide) ?_
          exact r_zretC S hr hG hP hS rfl hm dX0_addTable_40
        · refine lv_aload_n hx hb dX0_addTable_30 rfl (lv_at hl 0 rfl) ?_
          refine lv_iload_n hx hb dX0_addTable_31 rfl (lv_at hl 1 rfl) ?_
          refine lv_iload_n hx hb dX0_addTable_32 rfl (lv_at hl 2 rfl) ?_
          refine r_vcalli (As := [.int v1, .int v2]) (rest := []) S hG hP hS mX0_isJoined kX0_62 clX0 ho (tX0_isJoined _ _ _ _ _ _ _ _ ho v1 v2) ⟨rfl, rfl⟩ (rm_ok (by decide) (by decide)) hm hl.1 rfl (Nat.le_of_ble_eq_true rfl) ⟨Nat.zero_le _, Nat.zero_le _⟩ dX0_addTable_33 (fun b13 μ12 H locs hm hP hS => ?_)
          refine b_if_eq (tgt := 41) S dX0_addTable_36 (by decide) hm (fun hm => ?_) (fun hm => ?_)
          · refine lv_aload_n hx hb dX0_addTable_41 rfl (lv_at hl 0 rfl) ?_
            refine r_geti S hG hP ho clX0 fX0_5 kX0_36 dX0_addTable_42 ?_
            refine r_top hm (fun a14 hm => ?_)
            refine lv_istore (lv' := [(4, .int a14), (0, .ref (ad o)), (1, .int v1), (2, .int v2), (3, .int v3)]) hx hb dX0_addTable_45 hl (by decide) rfl (fun ls hl => ?_)
            refine lv_aload_n hx hb dX0_addTable_47 rfl (lv_at hl 1 rfl) ?_
            refine r_getr S hG hP ho clX0 fX0_1 kX0_20 dX0_addTable_48 ?_
            refine lv_iload hx hb dX0_addTable_51 (lv_at hl 0 rfl) ?_
            refine lv_iload_n hx hb dX0_addTable_53 rfl (lv_at hl 2 rfl) ?_
            refine r_vcallv (As := [.int a14, .int v1]) (rest := []) S hG hP hS mX3_set kX0_46 clX3 (chX0_1 hG ho) (tX3_set _ _ _ _ _ _ _ _ (chX0_1 hG ho) a14 v1) ⟨rfl, rfl⟩ (rm_ok (by decide) (by decide)) hm hl.1 rfl (Nat.le_of_ble_eq_true rfl) ⟨Nat.zero_le _, Nat.zero_le _⟩ dX0_addTable_54 (fun μ15 H locs hm hP hS => ?_)
            refine lv_aload_n hx hb dX0_addTable_57 rfl (lv_at hl 1 rfl) ?_
            refine r_getr S hG hP ho clX0 fX0_2 kX0_23 dX0_addTable_58 ?_
            refine lv_iload hx hb dX0_addTable_61 (lv_at hl 0 rfl) ?_
            refine lv_iload_n hx hb dX0_addTable_63 rfl (lv_at hl 3 rfl) ?_
            refine r_vcallv (As := [.int a14, .int v2]) (rest := []) S hG hP hS mX3_set kX0_46 clX3 (chX0_2 hG ho) (tX3_set _ _ _ _ _ _ _ _ (chX0_2 hG ho) a14 v2) ⟨rfl, rfl⟩ (rm_ok (by decide) (by decide)) hm hl.1 rfl (Nat.le_of_ble_eq_true rfl) ⟨Nat.zero_le _, Nat.zero_le _⟩ dX0_addTable_64 (fun μ16 H locs hm hP hS => ?_)
            refine lv_aload_n hx hb dX0_addTable_67 rfl (lv_at hl 1 rfl) ?_
            refine lv_dup hx hb dX0_addTable_68 rfl ?_
            refine r_geti S hG hP ho clX0 fX0_5 kX0_36 dX0_addTable_69 ?_
            refine lv_iconst (v := (1 : Int32)) hx hb dX0_addTable_72 (by decide) ?_
            refine lv_iadd hx hb dX0_addTable_73 ?_
            refine r_puti S hG hP hS ho clX0 fX0_5 kX0_36 hm dX0_addTable_74 (fun μ17 H locs hm hP hS => ?_)
            refine lv_iconst (v := (0 : Int32)) hx hb dX0_addTable_77 (by decide) ?_
            refine lv_istore (lv' := [(5, .int (0 : Int32)), (4, .int a14), (0, .ref (ad o)), (1, .int v1), (2, .int v2), (3, .int v3)]) hx hb dX0_addTable_78 hl (by decide) rfl (fun ls hl => ?_)
            exact wX0_addTable_80 S hr hG ho FU v1 v2 v3 a14 (0 : Int32) μ17 hm H locs ls hP hS (lv_sub hl [2, 3, 4, 5, 1, 0] rfl)
          · refine lv_iconst (v := (0 : Int32)) hx hb dX0_addTable_39 (by decide) ?_
            exact r_zretC S hr hG hP hS rfl hm dX0_addTable_40
theorem tX0_addTable (l : Launch) (D : va_G) (cI cR : ClassId) (n : Nat) (K L ad : Nat → Nat) {o : Nat} (ho : isk n K o 0) (v1 : Int32) (v2 : Int32) (v3 : Int32) : Ci l yX0_addTable cX0_addTable 6 (some .boolean) (rmL 3) D cI cR n K L ad [.ref (ad o), .int v1, .int v2, .int v3] (fX0_addTable L o v1 v2 v3) := by
  refine Ci.ofW (by decide) (Nat.le_of_ble_eq_true rfl) ?_
  intro μ x hm p e s m args below meth c ls S hr hG hP hS hl
  exact wX0_addTable_0 S hr hG ho v1 v2 v3 μ hm _ _ ls hP hS hl
-- X0_hasTable
set_option maxHeartbeats 4000000 in
set_option maxRecDepth 100000 in
theorem wX0_hasTable_0 (S : CallFix p m c cX0_hasTable 2 s args TB RX0) (hr : meth.sig.returnType = (some .boolean) ∧ meth.locks = false) (hG : gok D cI cR n K L ad s) {o : Nat} (ho : isk n K o 0) {x : Int32 × Mem} : ∀ (v1 : Int32) (μ : Mem), fX0_hasTable L o v1 μ = some x → WI p l e (rmL 0) s m args below meth c D cI cR n K L ad 2 x μ 0 [(0, .ref (ad o)), (1, .int v1)] [] := by
  have hx := S.1
  have hb := S.2.1
  intro v1 μ hm H locs ls hP hS hl
  unfold fX0_hasTable at hm
  refine lv_iload_n hx hb dX0_hasTable_0 rfl (lv_at hl 1 rfl) ?_
  refine b_if_lt (tgt := 16) S dX0_hasTable_1 (by decide) hm (fun hm => ?_) (fun hm => ?_)
  · refine lv_iconst (v := (0 : Int32)) hx hb dX0_hasTable_16 (by decide) ?_
    exact r_zretC S hr hG hP hS rfl hm dX0_hasTable_17
  · refine lv_iload_n hx hb dX0_hasTable_4 rfl (lv_at hl 1 rfl) ?_
    refine lv_aload_n hx hb dX0_hasTable_5 rfl (lv_at hl 0 rfl) ?_
    refine r_geti S hG hP ho clX0 fX0_5 kX0_36 dX0_hasTable_6 ?_
    refine b_icmp_ge (tgt := 16) S dX0_hasTable_9 (by decide) hm (fun hm => ?_) (fun hm => ?_)
    · refine lv_iconst (v := (0 : Int32)) hx hb dX0_hasTable_16 (by decide) ?_
      exact r_zretC S hr hG hP hS rfl hm dX0_hasTable_17
    · refine lv_iconst (v := (1 : Int32)) hx hb dX0_hasTable_12 (by decide) ?_
      refine lv_goto (tgt := 17) hx hb dX0_hasTable_13 (by decide) ?_
      exact r_zretC S hr hG hP hS rfl hm dX0_hasTable_17
theorem tX0_hasTable (l : Launch) (D : va_G) (cI cR : ClassId) (n : Nat) (K L ad : Nat → Nat) {o : Nat} (ho : isk n K o 0) (v1 : Int32) : Ci l yX0_hasTable cX0_hasTable 2 (some .boolean) (rmL 0) D cI cR n K L ad [.ref (ad o), .int v1] (fX0_hasTable L o v1) := by
  refine Ci.ofW (by decide) (Nat.le_of_ble_eq_true rfl) ?_
  intro μ x hm p e s m args below meth c ls S hr hG hP hS hl
  exact wX0_hasTable_0 S hr hG ho v1 μ hm _ _ ls hP hS hl
-- X0_valuesOn
set_option maxHeartbeats 4000000 in
set_option maxRecDepth 100000 in
theorem wX0_valuesOn_27 (S : CallFix p m c cX0_valuesOn 3 s args TB RX0) (hr : meth.sig.returnType = (some .int) ∧ meth.locks = false) (hG : gok D cI cR n K L ad s) {o : Nat} (ho : isk n K o 0) {x : Int32 × Mem} : ∀ (s0 : Int32) (μ : Mem), fX0_valuesOn_27 L o s0 μ = some x → WI p l e (rmL 1) s m args below meth c D cI cR n K L ad 3 x μ 27 [] [.int s0, .ref (ad (o + 1))] := by
  have hx := S.1
  have hb := S.2.1
  intro s0 μ hm H locs ls hP hS hl
  unfold fX0_valuesOn_27 at hm
  refine r_vcalli (As := [.int s0]) (rest := []) S hG hP hS mX3_get kX0_86 clX3 (chX0_0 hG ho) (tX3_get _ _ _ _ _ _ _ _ (chX0_0 hG ho) s0) ⟨rfl, rfl⟩ (rm_ok (by decide) (by decide)) hm hl.1 rfl (Nat.le_of_ble_eq_true rfl) ⟨Nat.zero_le _, Nat.zero_le _⟩ dX0_valuesOn_27 (fun b2 μ1 H locs hm hP hS => ?_)
  exact r_iret S hr hG hP hS hm dX0_valuesOn_30
set_option maxHeartbeats 4000000 in
set_option maxRecDepth 100000 in
theorem wX0_valuesOn_0 (S : CallFix p m c cX0_valuesOn 3 s args TB RX0) (hr : meth.sig.returnType = (some .int) ∧ meth.locks = false) (hG : gok D cI cR n K L ad s) {o : Nat} (ho : isk n K o 0) {x : Int32 × Mem} : ∀ (v1 v2 : Int32) (μ : Mem), fX0_valuesOn L o v1 v2 μ = some x → WI p l e (rmL 1) s m args below meth c D cI cR n K L ad 3 x μ 0 [(0, .ref (ad o)), (1, .int v1), (2, .int v2)] [] := by
  have hx := S.1
  have hb := S.2.1
  intro v1 v2 μ hm H locs ls hP hS hl
  unfold fX0_valuesOn at hm
  refine lv_aload_n hx hb dX0_valuesOn_0 rfl (lv_at hl 0 rfl) ?_
  refine r_getr S hG hP ho clX0 fX0_0 kX0_14 dX0_valuesOn_1 ?_
  refine lv_iload_n hx hb dX0_valuesOn_4 rfl (lv_at hl 2 rfl) ?_
  refine b_if_ne (tgt := 19) S dX0_valuesOn_5 (by decide) hm (fun hm => ?_) (fun hm => ?_)
  · refine lv_aload_n hx hb dX0_valuesOn_19 rfl (lv_at hl 0 rfl) ?_
    refine r_getr S hG hP ho clX0 fX0_2 kX0_23 dX0_valuesOn_20 ?_
    refine lv_iload_n hx hb dX0_valuesOn_23 rfl (lv_at hl 1 rfl) ?_
    refine r_vcalli (As := [.int v1]) (rest := [.ref (ad (o + 1))]) S hG hP hS mX3_get kX0_86 clX3 (chX0_2 hG ho) (tX3_get _ _ _ _ _ _ _ _ (chX0_2 hG ho) v1) ⟨rfl, rfl⟩ (rm_ok (by decide) (by decide)) hm hl.1 rfl (Nat.le_of_ble_eq_true rfl) ⟨Nat.zero_le _, Nat.zero_le _⟩ dX0_valuesOn_24 (fun b4 μ3 H locs hm hP hS => ?_)
    exact wX0_valuesOn_27 S hr hG ho b4 μ3 hm H locs ls hP hS (lv_sub hl [] rfl)
  · refine lv_aload_n hx hb dX0_valuesOn_8 rfl (lv_at hl 0 rfl) ?_
    refine r_getr S hG hP ho clX0 fX0_1 kX0_20 dX0_valuesOn_9 ?_
    refine lv_iload_n hx hb dX0_valuesOn_12 rfl (lv_at hl 1 rfl) ?_
    refine r_vcalli (As := [.int v1]) (rest := [.ref (ad (o + 1))]) S hG hP hS mX3_get kX0_86 clX3 (chX0_1 hG ho) (tX3_get _ _ _ _ _ _ _ _ (chX0_1 hG ho) v1) ⟨rfl, rfl⟩ (rm_ok (by decide) (by decide)) hm hl.1 rfl (Nat.le_of_ble_eq_true rfl) ⟨Nat.zero_le _, Nat.zero_le _⟩ dX0_valuesOn_13 (fun b6 μ5 H locs hm hP hS => ?_)
    refine lv_goto (tgt := 27) hx hb dX0_valuesOn_16 (by decide) ?_
    exact wX0_valuesOn_27 S hr hG ho b6 μ5 hm H locs ls hP hS (lv_sub hl [] rfl)
theorem tX0_valuesOn (l : Launch) (D : va_G) (cI cR : ClassId) (n : Nat) (K L ad : Nat → Nat) {o : Nat} (ho : isk n K o 0) (v1 : Int32) (v2 : Int32) : Ci l yX0_valuesOn cX0_valuesOn 3 (some .int) (rmL 1) D cI cR n K L ad [.ref (ad o), .int v1, .int v2] (fX0_valuesOn L o v1 v2) := by
  refine Ci.ofW (by decide) (Nat.le_of_ble_eq_true rfl) ?_
  intro μ x hm p e s m args below meth c ls S hr hG hP hS hl
  exact wX0_valuesOn_0 S hr hG ho v1 v2 μ hm _ _ ls hP hS hl
-- X0_hasPair
set_option maxHeartbeats 4000000 in
set_option maxRecDepth 100000 in
theorem wX0_hasPair_0 (S : CallFix p m c cX0_hasPair 4 s args TB RX0) (hr : meth.sig.returnType = (some .boolean) ∧ meth.locks = false) (hG : gok D cI cR n K L ad s) {o : Nat} (ho : isk n K o 0) {x : Int32 × Mem} : ∀ (v1 v2 v3 : Int32) (μ : Mem), fX0_hasPair L o v1 v2 v3 μ = some x → WI p l e (rmL 2) s m args below meth c D cI cR n K L ad 4 x μ 0 [(0, .ref (ad o)), (1, .int v1), (2, .int v2), (3, .int v3)] [] := by
  have hx := S.1
  have hb := S.2.1
  intro v1 v2 v3 μ hm H locs ls hP hS hl
  unfold fX0_hasPair at hm
  refine lv_aload_n hx hb dX0_hasPair_0 rfl (lv_at hl 0 rfl) ?_
  refine lv_iload_n hx hb dX0_hasPair_1 rfl (lv_at hl 1 rfl) ?_
  refine r_vcalli (As := [.int v1]) (rest := []) S hG hP hS mX0_hasTable kX0_89 clX0 ho (tX0_hasTable _ _ _ _ _ _ _ _ ho v1) ⟨rfl, rfl⟩ (rm_ok (by decide) (by decide)) hm hl.1 rfl (Nat.le_of_ble_eq_true rfl) ⟨Nat.zero_le _, Nat.zero_le _⟩ dX0_hasPair_2 (fun b2 μ1 H locs hm hP hS => ?_)
  refine b_if_eq (tgt := 40) S dX0_hasPair_5 (by decide) hm (fun hm => ?_) (fun hm => ?_)
  · refine lv_iconst (v := (0 : Int32)) hx hb dX0_hasPair_40 (by decide) ?_
    exact r_zretC S hr hG hP hS rfl hm dX0_hasPair_41
  · refine lv_iload_n hx hb dX0_hasPair_8 rfl (lv_at hl 2 rfl) ?_
    refine b_if_lt (tgt := 40) S dX0_hasPair_9 (by decide) hm (fun hm => ?_) (fun hm => ?_)
    · refine lv_iconst (v := (0 : Int32)) hx hb dX0_hasPair_40 (by decide) ?_
      exact r_zretC S hr hG hP hS rfl hm dX0_hasPair_41
    · refine lv_iload_n hx hb dX0_hasPair_12 rfl (lv_at hl 2 rfl) ?_
      refine lv_aload_n hx hb dX0_hasPair_13 rfl (lv_at hl 0 rfl) ?_
      refine lv_iload_n hx hb dX0_hasPair_14 rfl (lv_at hl 1 rfl) ?_
      refine lv_iconst (v := (0 : Int32)) hx hb dX0_hasPair_15 (by decide) ?_
      refine r_vcalli (As := [.int v1, .int (0 : Int32)]) (rest := [.int v2]) S hG hP hS mX0_valuesOn kX0_92 clX0 ho (tX0_valuesOn _ _ _ _ _ _ _ _ ho v1 (0 : Int32)) ⟨rfl, rfl⟩ (rm_ok (by decide) (by decide)) hm hl.1 rfl (Nat.le_of_ble_eq_true rfl) ⟨Nat.zero_le _, Nat.zero_le _⟩ dX0_hasPair_16 (fun b4 μ3 H locs hm hP hS => ?_)
      refine b_icmp_ge (tgt := 40) S dX0_hasPair_19 (by decide) hm (fun hm => ?_) (fun hm => ?_)
      · refine lv_iconst (v := (0 : Int32)) hx hb dX0_hasPair_40 (by decide) ?_
        exact r_zretC S hr hG hP hS rfl hm dX0_hasPair_41
      · refine lv_iload_n hx hb dX0_hasPair_22 rfl (lv_at hl 3 rfl) ?_
        refine b_if_lt (tgt := 40) S dX0_hasPair_23 (by decide) hm (fun hm => ?_) (fun hm => ?_)
        · refine lv_iconst (v := (0 : Int32)) hx hb dX0_hasPair_40 (by decide) ?_
          exact r_zretC S hr hG hP hS rfl hm dX0_hasPair_41
        · refine lv_iload_n hx hb dX0_hasPair_26 rfl (lv_at hl 3 rfl) ?_
          refine lv_aload_n hx hb dX0_hasPair_27 rfl (lv_at hl 0 rfl) ?_
          refine lv_iload_n hx hb dX0_hasPair_28 rfl (lv_at hl 1 rfl) ?_
          refine lv_iconst (v := (1 : Int32)) hx hb dX0_hasPair_29 (by decide) ?_
          refine r_vcalli (As := [.int v1, .int (1 : Int32)]) (rest := [.int v3]) S hG hP hS mX0_valuesOn kX0_92 clX0 ho (tX0_valuesOn _ _ _ _ _ _ _ _ ho v1 (1 : Int32)) ⟨rfl, rfl⟩ (rm_ok (by decide) (by decide)) hm hl.1 rfl (Nat.le_of_ble_eq_true rfl) ⟨Nat.zero_le _, Nat.zero_le _⟩ dX0_hasPair_30 (fun b6 μ5 H locs hm hP hS => ?_)
          refine b_icmp_ge (tgt := 40) S dX0_hasPair_33 (by decide) hm (fun hm => ?_) (fun hm => ?_)
          · refine lv_iconst (v := (0 : Int32)) hx hb dX0_hasPair_40 (by decide) ?_
            exact r_zretC S hr hG hP hS rfl hm dX0_hasPair_41
          · refine lv_iconst (v := (1 : Int32)) hx hb dX0_hasPair_36 (by decide) ?_
            refine lv_goto (tgt := 41) hx hb dX0_hasPair_37 (by decide) ?_
            exact r_zretC S hr hG hP hS rfl hm dX0_hasPair_41
theorem tX0_hasPair (l : Launch) (D : va_G) (cI cR : ClassId) (n : Nat) (K L ad : Nat → Nat) {o : Nat} (ho : isk n K o 0) (v1 : Int32) (v2 : Int32) (v3 : Int32) : Ci l yX0_hasPair cX0_hasPair 4 (some .boolean) (rmL 2) D cI cR n K L ad [.ref (ad o), .int v1, .int v2, .int v3] (fX0_hasPair L o v1 v2 v3) := by
  refine Ci.ofW (by decide) (Nat.le_of_ble_eq_true rfl) ?_
  intro μ x hm p e s m args below meth c ls S hr hG hP hS hl
  exact wX0_hasPair_0 S hr hG ho v1 v2 v3 μ hm _ _ ls hP hS hl
-- X0_tellPair
set_option maxHeartbeats 4000000 in
set_option maxRecDepth 100000 in
theorem wX0_tellPair_0 (S : CallFix p m c cX0_tellPair 5 s args TB RX0) (hr : meth.sig.returnType = (some .boolean) ∧ meth.locks = false) (hG : gok D cI cR n K L ad s) {o : Nat} (ho : isk n K o 0) {x : Int32 × Mem} : ∀ (v1 v2 v3 v4 : Int32) (μ : Mem), fX0_tellPair L o v1 v2 v3 v4 μ = some x → WI p l e (rmL 3) s m args below meth c D cI cR n K L ad 5 x μ 0 [(0, .ref (ad o)), (1, .int v1), (2, .int v2), (3, .int v3), (4, .int v4)] [] := by
  have hx := S.1
  have hb := S.2.1
  intro v1 v2 v3 v4 μ hm H locs ls hP hS hl
  unfold fX0_tellPair at hm
  refine lv_aload_n hx hb dX0_tellPair_0 rfl (lv_at hl 0 rfl) ?_
  refine lv_iload_n hx hb dX0_tellPair_1 rfl (lv_at hl 1 rfl) ?_
  refine lv_iload_n hx hb dX0_tellPair_2 rfl (lv_at hl 2 rfl) ?_
  refine lv_iload_n hx hb dX0_tellPair_3 rfl (lv_at hl 3 rfl) ?_
  refine r_vcalli (As := [.int v1, .int v2, .int v3]) (rest := []) S hG hP hS mX0_hasPair kX0_82 clX0 ho (tX0_hasPair _ _ _ _ _ _ _ _ ho v1 v2 v3) ⟨rfl, rfl⟩ (rm_ok (by decide) (by decide)) hm hl.1 rfl (Nat.le_of_ble_eq_true rfl) ⟨Nat.zero_le _, Nat.zero_le _⟩ dX0_tellPair_4 (fun b2 μ1 H locs hm hP hS => ?_)
  refine b_if_ne (tgt := 12) S dX0_tellPair_7 (by decide) hm (fun hm => ?_) (fun hm => ?_)
  · refine lv_aload_n hx hb dX0_tellPair_12 rfl (lv_at hl 0 rfl) ?_
    refine lv_iload_n hx hb dX0_tellPair_13 rfl (lv_at hl 1 rfl) ?_
    refine lv_iload_n hx hb dX0_tellPair_14 rfl (lv_at hl 2 rfl) ?_
    refine lv_iload_n hx hb dX0_tellPair_15 rfl (lv_at hl 3 rfl) ?_
    refine lv_iload hx hb dX0_tellPair_16 (lv_at hl 4 rfl) ?_
    refine r_vcallv (As := [.int v1, .int v2, .int v3, .int v4]) (rest := []) S hG hP hS mX0_setPair kX0_75 clX0 ho (tX0_setPair _ _ _ _ _ _ _ _ ho v1 v2 v3 v4) ⟨rfl, rfl⟩ (rm_ok (by decide) (by decide)) hm hl.1 rfl (Nat.le_of_ble_eq_true rfl) ⟨Nat.zero_le _, Nat.zero_le _⟩ dX0_tellPair_18 (fun μ3 H locs hm hP hS => ?_)
    refine lv_iconst (v := (1 : Int32)) hx hb dX0_tellPair_21 (by decide) ?_
    exact r_zretC S hr hG hP hS rfl hm dX0_tellPair_22
  · refine lv_iconst (v := (0 : Int32)) hx hb dX0_tellPair_10 (by decide) ?_
    exact r_zretC S hr hG hP hS rfl hm dX0_tellPair_11
theorem tX0_tellPair (l : Launch) (D : va_G) (cI cR : ClassId) (n : Nat) (K L ad : Nat → Nat) {o : Nat} (ho : isk n K o 0) (v1 : Int32) (v2 : Int32) (v3 : Int32) (v4 : Int32) : Ci l yX0_tellPair cX0_tellPair 5 (some .boolean) (rmL 3) D cI cR n K L ad [.ref (ad o), .int v1, .int v2, .int v3, .int v4] (fX0_tellPair L o v1 v2 v3 v4) := by
  refine Ci.ofW (by decide) (Nat.le_of_ble_eq_true rfl) ?_
  intro μ x hm p e s m args below meth c ls S hr hG hP hS hl
  exact wX0_tellPair_0 S hr hG ho v1 v2 v3 v4 μ hm _ _ ls hP hS hl
-- X0_keepToTop
set_option maxHeartbeats 4000000 in
set_option maxRecDepth 100000 in
theorem wX0_keepToTop_2 (S : CallFix p m c cX0_keepToTop 2 s args TB RX0) (hr : meth.sig.returnType = none ∧ meth.locks = false) (hG : gok D cI cR n K L ad s) {o : Nat} (ho : isk n K o 0) {x : Mem} : ∀ (k : Nat) (v1 : Int32) (μ : Mem), fX0_keepToTop_2 L o k v1 μ = some x → WV p l e (rmL 1) s m args below meth c D cI cR n K L ad 2 x μ 2 [(0, .ref (ad o)), (1, .int v1)] [] := by
  have hx := S.1
  have hb := S.2.1
  intro k
  induction k with
  | zero => intro v1 μ hm; exact absurd (show none = some x from hm) (fun h => by cases h)
  | succ k ih =>
    intro v1 μ hm H locs ls hP hS hl
    have hm : fX0_keepToTop_2_b L o (fX0_keepToTop_2 L o k) v1 μ = some x := hm
    unfold fX0_keepToTop_2_b at hm
    refine lv_iload_n hx hb dX0_keepToTop_2 rfl (lv_at hl 1 rfl) ?_
    refine lv_sipush (v := (169 : Int32)) hx hb dX0_keepToTop_3 (by decide) ?_
    refine b_icmp_ge (tgt := 38) S dX0_keepToTop_6 (by decide) hm (fun hm => ?_) (fun hm => ?_)
    · exact r_vret S hr hG hP hS hm dX0_keepToTop_38
    · refine lv_aload_n hx hb dX0_keepToTop_9 rfl (lv_at hl 0 rfl) ?_
      refine r_getr S hG hP ho clX0 fX0_3 kX0_26 dX0_keepToTop_10 ?_
      refine lv_iload_n hx hb dX0_keepToTop_13 rfl (lv_at hl 1 rfl) ?_
      refine lv_aload_n hx hb dX0_keepToTop_14 rfl (lv_at hl 0 rfl) ?_
      refine r_geti S hG hP ho clX0 fX0_6 kX0_29 dX0_keepToTop_15 ?_
      refine lv_aload_n hx hb dX0_keepToTop_18 rfl (lv_at hl 0 rfl) ?_
      refine r_getr S hG hP ho clX0 fX0_3 kX0_26 dX0_keepToTop_19 ?_
      refine lv_iload_n hx hb dX0_keepToTop_22 rfl (lv_at hl 1 rfl) ?_
      refine r_vcalli (As := [.int v1]) (rest := [.int (μ o 6), .int v1, .ref (ad (o + 7))]) S hG hP hS mX3_get kX0_86 clX3 (chX0_3 hG ho) (tX3_get _ _ _ _ _ _ _ _ (chX0_3 hG ho) v1) ⟨rfl, rfl⟩ (rm_ok (by decide) (by decide)) hm hl.1 rfl (Nat.le_of_ble_eq_true rfl) ⟨Nat.zero_le _, Nat.zero_le _⟩ dX0_keepToTop_23 (fun b2 μ1 H locs hm hP hS => ?_)
      refine r_min S hl.1 kX0_69 ⟨Nat.le_of_ble_eq_true rfl, Nat.le_of_ble_eq_true rfl⟩ ⟨Nat.zero_le _, Nat.zero_le _⟩ dX0_keepToTop_26 ?_
      refine r_top hm (fun a3 hm => ?_)
      refine r_vcallv (As := [.int v1, .int a3]) (rest := []) S hG hP hS mX3_set kX0_46 clX3 (chX0_3 hG ho) (tX3_set _ _ _ _ _ _ _ _ (chX0_3 hG ho) v1 a3) ⟨rfl, rfl⟩ (rm_ok (by decide) (by decide)) hm hl.1 rfl (Nat.le_of_ble_eq_true rfl) ⟨Nat.zero_le _, Nat.zero_le _⟩ dX0_keepToTop_29 (fun μ4 H locs hm hP hS => ?_)
      refine r_iinc (b := (1 : Int32)) (k := 1) S hm dX0_keepToTop_32 hl rfl (by decide) (by decide) (fun a5 ls hm hl => ?_)
      have hl : lv_has ls 2 [(1, .int a5), (0, .ref (ad o))] := hl
      refine lv_goto (tgt := 2) hx hb dX0_keepToTop_35 (by decide) ?_
      exact ih a5 μ4 hm H locs ls hP hS (lv_sub hl [1, 0] rfl)
set_option maxHeartbeats 4000000 in
set_option maxRecDepth 100000 in
theorem wX0_keepToTop_0 (S : CallFix p m c cX0_keepToTop 2 s args TB RX0) (hr : meth.sig.returnType = none ∧ meth.locks = false) (hG : gok D cI cR n K L ad s) {o : Nat} (ho : isk n K o 0) {x : Mem} : ∀ (μ : Mem), fX0_keepToTop L o μ = some x → WV p l e (rmL 1) s m args below meth c D cI cR n K L ad 2 x μ 0 [(0, .ref (ad o))] [] := by
  have hx := S.1
  have hb := S.2.1
  intro μ hm H locs ls hP hS hl
  unfold fX0_keepToTop at hm
  refine lv_iconst (v := (0 : Int32)) hx hb dX0_keepToTop_0 (by decide) ?_
  refine lv_istore_n (lv' := [(1, .int (0 : Int32)), (0, .ref (ad o))]) hx hb dX0_keepToTop_1 rfl hl (by decide) rfl (fun ls hl => ?_)
  exact wX0_keepToTop_2 S hr hG ho FU (0 : Int32) μ hm H locs ls hP hS (lv_sub hl [1, 0] rfl)
theorem tX0_keepToTop (l : Launch) (D : va_G) (cI cR : ClassId) (n : Nat) (K L ad : Nat → Nat) {o : Nat} (ho : isk n K o 0) : Cv l yX0_keepToTop cX0_keepToTop 2 none (rmL 1) D cI cR n K L ad [.ref (ad o)] (fX0_keepToTop L o) := by
  refine Cv.ofW (by decide) (Nat.le_of_ble_eq_true rfl) ?_
  intro μ x hm p e s m args below meth c ls S hr hG hP hS hl
  exact wX0_keepToTop_0 S hr hG ho μ hm _ _ ls hP hS hl
-- X0_names
set_option maxHeartbeats 4000000 in
set_option maxRecDepth 100000 in
theorem wX0_names_0 (S : CallFix p m c cX0_names 1 s args TB RX0) (hr : meth.sig.returnType = (some .int) ∧ meth.locks = false) (hG : gok D cI cR n K L ad s) {o : Nat} (ho : isk n K o 0) {x : Int32 × Mem} : ∀ (μ : Mem), fX0_names L o μ = some x → WI p l e (rmL 0) s m args below meth c D cI cR n K L ad 1 x μ 0 [(0, .ref (ad o))] [] := by
  have hx := S.1
  have hb := S.2.1
  intro μ hm H locs ls hP hS hl
  unfold fX0_names at hm
  refine lv_aload_n hx hb dX0_names_0 rfl (lv_at hl 0 rfl) ?_
  refine r_geti S hG hP ho clX0 fX0_4 kX0_33 dX0_names_1 ?_
  exact r_iret S hr hG hP hS hm dX0_names_4
theorem tX0_names (l : Launch) (D : va_G) (cI cR : ClassId) (n : Nat) (K L ad : Nat → Nat) {o : Nat} (ho : isk n K o 0) : Ci l yX0_names cX0_names 1 (some .int) (rmL 0) D cI cR n K L ad [.ref (ad o)] (fX0_names L o) := by
  refine Ci.ofW (by decide) (Nat.le_of_ble_eq_true rfl) ?_
  intro μ x hm p e s m args below meth c ls S hr hG hP hS hl
  exact wX0_names_0 S hr hG ho μ hm _ _ ls hP hS hl
-- X0_tables
set_option maxHeartbeats 4000000 in
set_option maxRecDepth 100000 in
theorem wX0_tables_0 (S : CallFix p m c cX0_tables 1 s args TB RX0) (hr : meth.sig.returnType = (some .int) ∧ meth.locks = false) (hG : gok D cI cR n K L ad s) {o : Nat} (ho : isk n K o 0) {x : Int32 × Mem} : ∀ (μ : Mem), fX0_tables L o μ = some x → WI p l e (rmL 0) s m args below meth c D cI cR n K L ad 1 x μ 0 [(0, .ref (ad o))] [] := by
  have hx := S.1
  have hb := S.2.1
  intro μ hm H locs ls hP hS hl
  unfold fX0_tables at hm
  refine lv_aload_n hx hb dX0_tables_0 rfl (lv_at hl 0 rfl) ?_
  refine r_geti S hG hP ho clX0 fX0_5 kX0_36 dX0_tables_1 ?_
  exact r_iret S hr hG hP hS hm dX0_tables_4
theorem tX0_tables (l : Launch) (D : va_G) (cI cR : ClassId) (n : Nat) (K L ad : Nat → Nat) {o : Nat} (ho : isk n K o 0) : Ci l yX0_tables cX0_tables 1 (some .int) (rmL 0) D cI cR n K L ad [.ref (ad o)] (fX0_tables L o) := by
  refine Ci.ofW (by decide) (Nat.le_of_ble_eq_true rfl) ?_
  intro μ x hm p e s m args below meth c ls S hr hG hP hS hl
  exact wX0_tables_0 S hr hG ho μ hm _ _ ls hP hS hl
-- X0_top
set_option maxHeartbeats 4000000 in
set_option maxRecDepth 100000 in
theorem wX0_top_0 (S : CallFix p m c cX0_top 1 s args TB RX0) (hr : meth.sig.returnType = (some .int) ∧ meth.locks = false) (hG : gok D cI cR n K L ad s) {o : Nat} (ho : isk n K o 0) {x : Int32 × Mem} : ∀ (μ : Mem), fX0_top L o μ = some x → WI p l e (rmL 0) s m args below meth c D cI cR n K L ad 1 x μ 0 [(0, .ref (ad o))] [] := by
  have hx := S.1
  have hb := S.2.1
  intro μ hm H locs ls hP hS hl
  unfold fX0_top at hm
  refine lv_aload_n hx hb dX0_top_0 rfl (lv_at hl 0 rfl) ?_
  refine r_geti S hG hP ho clX0 fX0_6 kX0_29 dX0_top_1 ?_
  exact r_iret S hr hG hP hS hm dX0_top_4
theorem tX0_top (l : Launch) (D : va_G) (cI cR : ClassId) (n : Nat) (K L ad : Nat → Nat) {o : Nat} (ho : isk n K o 0) : Ci l yX0_top cX0_top 1 (some .int) (rmL 0) D cI cR n K L ad [.ref (ad o)] (fX0_top L o) := by
  refine Ci.ofW (by decide) (Nat.le_of_ble_eq_true rfl) ?_
  intro μ x hm p e s m args below meth c ls S hr hG hP hS hl
  exact wX0_top_0 S hr hG ho μ hm _ _ ls hP hS hl
-- X0_hasValueOn
set_option maxHeartbeats 4000000 in
set_option maxRecDepth 100000 in
theorem wX0_hasValueOn_17 (S : CallFix p m c cX0_hasValueOn 4 s args TB RX0) (hr : meth.sig.returnType = (some .boolean) ∧ meth.locks = false) (hG : gok D cI cR n K L ad s) {o : Nat} (ho : isk n K o 0) {x : Int32 × Mem} : ∀ (v1 v2 v3 : Int32) (μ : Mem), fX0_hasValueOn_17 L o v1 v2 v3 μ = some x → WI p l e (rmL 2) s m args below meth c D cI cR n K L ad 4 x μ 17 [(0, .ref (ad o)), (1, .int v1), (2, .int v2), (3, .int v3)] [] := by
  have hx := S.1
  have hb := S.2.1
  intro v1 v2 v3 μ hm H locs ls hP hS hl
  unfold fX0_hasValueOn_17 at hm
  refine lv_iload_n hx hb dX0_hasValueOn_17 rfl (lv_at hl 3 rfl) ?_
  refine b_if_lt (tgt := 35) S dX0_hasValueOn_18 (by decide) hm (fun hm => ?_) (fun hm => ?_)
  · refine lv_iconst (v := (0 : Int32)) hx hb dX0_hasValueOn_35 (by decide) ?_
    exact r_zretC S hr hG hP hS rfl hm dX0_hasValueOn_36
  · refine lv_iload_n hx hb dX0_hasValueOn_21 rfl (lv_at hl 3 rfl) ?_
    refine lv_aload_n hx hb dX0_hasValueOn_22 rfl (lv_at hl 0 rfl) ?_
    refine lv_iload_n hx hb dX0_hasValueOn_23 rfl (lv_at hl 1 rfl) ?_
    refine lv_iload_n hx hb dX0_hasValueOn_24 rfl (lv_at hl 2 rfl) ?_
    refine r_vcalli (As := [.int v1, .int v2]) (rest := [.int v3]) S hG hP hS mX0_valuesOn kX0_92 clX0 ho (tX0_valuesOn _ _ _ _ _ _ _ _ ho v1 v2) ⟨rfl, rfl⟩ (rm_ok (by decide) (by decide)) hm hl.1 rfl (Nat.le_of_ble_eq_true rfl) ⟨Nat.zero_le _, Nat.zero_le _⟩ dX0_hasValueOn_25 (fun b2 μ1 H locs hm hP hS => ?_)
    refine b_icmp_ge (tgt := 35) S dX0_hasValueOn_28 (by decide) hm (fun hm => ?_) (fun hm => ?_)
    · refine lv_iconst (v := (0 : Int32)) hx hb dX0_hasValueOn_35 (by decide) ?_
      exact r_zretC S hr hG hP hS rfl hm dX0_hasValueOn_36
    · refine lv_iconst (v := (1 : Int32)) hx hb dX0_hasValueOn_31 (by decide) ?_
      refine lv_goto (tgt := 36) hx hb dX0_hasValueOn_32 (by decide) ?_
      exact r_zretC S hr hG hP hS rfl hm dX0_hasValueOn_36
set_option maxHeartbeats 4000000 in
set_option maxRecDepth 100000 in
theorem wX0_hasValueOn_0 (S : CallFix p m c cX0_hasValueOn 4 s args TB RX0) (hr : meth.sig.returnType = (some .boolean) ∧ meth.locks = false) (hG : gok D cI cR n K L ad s) {o : Nat} (ho : isk n K o 0) {x : Int32 × Mem} : ∀ (v1 v2 v3 : Int32) (μ : Mem), fX0_hasValueOn L o v1 v2 v3 μ = some x → WI p l e (rmL 2) s m args below meth c D cI cR n K L ad 4 x μ 0 [(0, .ref (ad o)), (1, .int v1), (2, .int v2), (3, .int v3)] [] := by
  have hx := S.1
  have hb := S.2.1
  intro v1 v2 v3 μ hm H locs ls hP hS hl
  unfold fX0_hasValueOn at hm
  refine lv_aload_n hx hb dX0_hasValueOn_0 rfl (lv_at hl 0 rfl) ?_
  refine lv_iload_n hx hb dX0_hasValueOn_1 rfl (lv_at hl 1 rfl) ?_
  refine r_vcalli (As := [.int v1]) (rest := []) S hG hP hS mX0_hasTable kX0_89 clX0 ho (tX0_hasTable _ _ _ _ _ _ _ _ ho v1) ⟨rfl, rfl⟩ (rm_ok (by decide) (by decide)) hm hl.1 rfl (Nat.le_of_ble_eq_true rfl) ⟨Nat.zero_le _, Nat.zero_le _⟩ dX0_hasValueOn_2 (fun b4 μ3 H locs hm hP hS => ?_)
  refine b_if_eq (tgt := 35) S dX0_hasValueOn_5 (by decide) hm (fun hm => ?_) (fun hm => ?_)
  · refine lv_iconst (v := (0 : Int32)) hx hb dX0_hasValueOn_35 (by decide) ?_
    exact r_zretC S hr hG hP hS rfl hm dX0_hasValueOn_36
  · refine lv_iload_n hx hb dX0_hasValueOn_8 rfl (lv_at hl 2 rfl) ?_
    refine b_if_eq (tgt := 17) S dX0_hasValueOn_9 (by decide) hm (fun hm => ?_) (fun hm => ?_)
    · exact wX0_hasValueOn_17 S hr hG ho v1 v2 v3 μ3 hm H locs ls hP hS (lv_sub hl [0, 1, 2, 3] rfl)
    · refine lv_iload_n hx hb dX0_hasValueOn_12 rfl (lv_at hl 2 rfl) ?_
      refine lv_iconst (v := (1 : Int32)) hx hb dX0_hasValueOn_13 (by decide) ?_
      refine b_icmp_ne (tgt := 35) S dX0_hasValueOn_14 (by decide) hm (fun hm => ?_) (fun hm => ?_)
      · refine lv_iconst (v := (0 : Int32)) hx hb dX0_hasValueOn_35 (by decide) ?_
        exact r_zretC S hr hG hP hS rfl hm dX0_hasValueOn_36
      · exact wX0_hasValueOn_17 S hr hG ho v1 v2 v3 μ3 hm H locs ls hP hS (lv_sub hl [0, 1, 2, 3] rfl)
theorem tX0_hasValueOn (l : Launch) (D : va_G) (cI cR : ClassId) (n : Nat) (K L ad : Nat → Nat) {o : Nat} (ho : isk n K o 0) (v1 : Int32) (v2 : Int32) (v3 : Int32) : Ci l yX0_hasValueOn cX0_hasValueOn 4 (some .boolean) (rmL 2) D cI cR n K L ad [.ref (ad o), .int v1, .int v2, .int v3] (fX0_hasValueOn L o v1 v2 v3) := by
  refine Ci.ofW (by decide) (Nat.le_of_ble_eq_true rfl) ?_
  intro μ x hm p e s m args below meth c ls S hr hG hP hS hl
  exact wX0_hasValueOn_0 S hr hG ho v1 v2 v3 μ hm _ _ ls hP hS hl
-- X0_tablesOf
set_option maxHeartbeats 4000000 in
set_option maxRecDepth 100000 in
theorem wX0_tablesOf_38 (S : CallFix p m c cX0_tablesOf 4 s args TB RX0) (hr : meth.sig.returnType = (some .int) ∧ meth.locks = false) (hG : gok D cI cR n K L ad s) {o : Nat} (ho : isk n K o 0) {x : Int32 × Mem} {self4 : Int32 → Int32 → Int32 → Mem → Option (Int32 × Mem)} (hs4 : ∀ (v1 v2 v3 : Int32) (μ : Mem), self4 v1 v2 v3 μ = some x → WI p l e (rmL 2) s m args below meth c D cI cR n K L ad 4 x μ 4 [(0, .ref (ad o)), (1, .int v1), (2, .int v2), (3, .int v3)] []) : ∀ (v1 v2 v3 : Int32) (μ : Mem), fX0_tablesOf_38 L o self4 v1 v2 v3 μ = some x → WI p l e (rmL 2) s m args below meth c D cI cR n K L ad 4 x μ 38 [(0, .ref (ad o)), (1, .int v1), (2, .int v2), (3, .int v3)] [] := by
  have hx := S.1
  have hb := S.2.1
  intro v1 v2 v3 μ hm H locs ls hP hS hl
  unfold fX0_tablesOf_38 at hm
  refine r_iinc (b := (1 : Int32)) (k := 3) S hm dX0_tablesOf_38 hl rfl (by decide) (by decide) (fun a1 ls hm hl => ?_)
  have hl : lv_has ls 4 [(3, .int a1), (0, .ref (ad o)), (1, .int v1), (2, .int v2)] := hl
  refine lv_goto (tgt := 4) hx hb dX0_tablesOf_41 (by decide) ?_
  exact hs4 v1 v2 a1 μ hm H locs ls hP hS (lv_sub hl [1, 2, 3, 0] rfl)
set_option maxHeartbeats 4000000 in
set_option maxRecDepth 100000 in
theorem wX0_tablesOf_32 (S : CallFix p m c cX0_tablesOf 4 s args TB RX0) (hr : meth.sig.returnType = (some .int) ∧ meth.locks = false) (hG : gok D cI cR n K L ad s) {o : Nat} (ho : isk n K o 0) {x : Int32 × Mem} {self4 : Int32 → Int32 → Int32 → Mem → Option (Int32 × Mem)} (hs4 : ∀ (v1 v2 v3 : Int32) (μ : Mem), self4 v1 v2 v3 μ = some x → WI p l e (rmL 2) s m args below meth c D cI cR n K L ad 4 x μ 4 [(0, .ref (ad o)), (1, .int v1), (2, .int v2), (3, .int v3)] []) : ∀ (v1 v2 v3 : Int32) (μ : Mem), fX0_tablesOf_32 L o self4 v1 v2 v3 μ = some x → WI p l e (rmL 2) s m args below meth c D cI cR n K L ad 4 x μ 32 [(0, .ref (ad o)), (1, .int v1), (2, .int v2), (3, .int v3)] [] := by
  have hx := S.1
  have hb := S.2.1
  intro v1 v2 v3 μ hm H locs ls hP hS hl
  unfold fX0_tablesOf_32 at hm
  refine lv_iload_n hx hb dX0_tablesOf_32 rfl (lv_at hl 2 rfl) ?_
  refine lv_iconst (v := (1 : Int32)) hx hb dX0_tablesOf_33 (by decide) ?_
  refine lv_iload_n hx hb dX0_tablesOf_34 rfl (lv_at hl 3 rfl) ?_
  refine lv_ishl hx hb dX0_tablesOf_35 ?_
  refine lv_ior hx hb dX0_tablesOf_36 ?_
  refine r_top hm (fun a2 hm => ?_)
  refine lv_istore_n (lv' := [(2, .int a2), (0, .ref (ad o)), (1, .int v1), (3, .int v3)]) hx hb dX0_tablesOf_37 rfl hl (by decide) rfl (fun ls hl => ?_)
  exact wX0_tablesOf_38 S hr hG ho hs4 v1 a2 v3 μ hm H locs ls hP hS (lv_sub hl [1, 2, 0, 3] rfl)
set_option maxHeartbeats 4000000 in
set_option maxRecDepth 100000 in
theorem wX0_tablesOf_4 (S : CallFix p m c cX0_tablesOf 4 s args TB RX0) (hr : meth.sig.returnType = (some .int) ∧ meth.locks = false) (hG : gok D cI cR n K L ad s) {o : Nat} (ho : isk n K o 0) {x : Int32 × Mem} : ∀ (k : Nat) (v1 v2 v3 : Int32) (μ : Mem), fX0_tablesOf_4 L o k v1 v2 v3 μ = some x → WI p l e (rmL 2) s m args below meth c D cI cR n K L ad 4 x μ 4 [(0, .ref (ad o)), (1, .int v1), (2, .int v2), (3, .int v3)] [] := by
  have hx := S.1
  have hb := S.2.1
  intro k
  induction k with
  | zero => intro v1 v2 v3 μ hm; exact absurd (show none = some x from hm) (fun h => by cases h)
  | succ k ih =>
    intro v1 v2 v3 μ hm H locs ls hP hS hl
    have hm : fX0_tablesOf_4_b L o (fX0_tablesOf_4 L o k) v1 v2 v3 μ = some x := hm
    unfold fX0_tablesOf_4_b at hm
    refine lv_iload_n hx hb dX0_tablesOf_4 rfl (lv_at hl 3 rfl) ?_
    refine lv_aload_n hx hb dX0_tablesOf_5 rfl (lv_at hl 0 rfl) ?_
    refine r_geti S hG hP ho clX0 fX0_5 kX0_36 dX0_tablesOf_6 ?_
    refine b_icmp_ge (tgt := 44) S dX0_tablesOf_9 (by decide) hm (fun hm => ?_) (fun hm => ?_)
    · refine lv_iload_n hx hb dX0_tablesOf_44 rfl (lv_at hl 2 rfl) ?_
      exact r_iret S hr hG hP hS hm dX0_tablesOf_45
    · refine lv_aload_n hx hb dX0_tablesOf_12 rfl (lv_at hl 0 rfl) ?_
      refine lv_iload_n hx hb dX0_tablesOf_13 rfl (lv_at hl 3 rfl) ?_
      refine lv_iconst (v := (0 : Int32)) hx hb dX0_tablesOf_14 (by decide) ?_
      refine r_vcalli (As := [.int v3, .int (0 : Int32)]) (rest := []) S hG hP hS mX0_nameOn kX0_79 clX0 ho (tX0_nameOn _ _ _ _ _ _ _ _ ho v3 (0 : Int32)) ⟨rfl, rfl⟩ (rm_ok (by decide) (by decide)) hm hl.1 rfl (Nat.le_of_ble_eq_true rfl) ⟨Nat.zero_le _, Nat.zero_le _⟩ dX0_tablesOf_15 (fun b4 μ3 H locs hm hP hS => ?_)
      refine lv_iload_n hx hb dX0_tablesOf_18 rfl (lv_at hl 1 rfl) ?_
      refine b_icmp_eq (tgt := 32) S dX0_tablesOf_19 (by decide) hm (fun hm => ?_) (fun hm => ?_)
      · exact wX0_tablesOf_32 S hr hG ho ih v1 v2 v3 μ3 hm H locs ls hP hS (lv_sub hl [0, 1, 2, 3] rfl)
      · refine lv_aload_n hx hb dX0_tablesOf_22 rfl (lv_at hl 0 rfl) ?_
        refine lv_iload_n hx hb dX0_tablesOf_23 rfl (lv_at hl 3 rfl) ?_
        refine lv_iconst (v := (1 : Int32)) hx hb dX0_tablesOf_24 (by decide) ?_
        refine r_vcalli (As := [.int v3, .int (1 : Int32)]) (rest := []) S hG hP hS mX0_nameOn kX0_79 clX0 ho (tX0_nameOn _ _ _ _ _ _ _ _ ho v3 (1 : Int32)) ⟨rfl, rfl⟩ (rm_ok (by decide) (by decide)) hm hl.1 rfl (Nat.le_of_ble_eq_true rfl) ⟨Nat.zero_le _, Nat.zero_le _⟩ dX0_tablesOf_25 (fun b6 μ5 H locs hm hP hS => ?_)
        refine lv_iload_n hx hb dX0_tablesOf_28 rfl (lv_at hl 1 rfl) ?_
        refine b_icmp_ne (tgt := 38) S dX0_tablesOf_29 (by decide) hm (fun hm => ?_) (fun hm => ?_)
        · exact wX0_tablesOf_38 S hr hG ho ih v1 v2 v3 μ5 hm H locs ls hP hS (lv_sub hl [0, 1, 2, 3] rfl)
        · exact wX0_tablesOf_32 S hr hG ho ih v1 v2 v3 μ5 hm H locs ls hP hS (lv_sub hl [0, 1, 2, 3] rfl)
set_option maxHeartbeats 4000000 in
set_option maxRecDepth 100000 in
theorem wX0_tablesOf_0 (S : CallFix p m c cX0_tablesOf 4 s args TB RX0) (hr : meth.sig.returnType = (some .int) ∧ meth.locks = false) (hG : gok D cI cR n K L ad s) {o : Nat} (ho : isk n K o 0) {x : Int32 × Mem} : ∀ (v1 : Int32) (μ : Mem), fX0_tablesOf L o v1 μ = some x → WI p l e (rmL 2) s m args below meth c D cI cR n K L ad 4 x μ 0 [(0, .ref (ad o)), (1, .int v1)] [] := by
  have hx := S.1
  have hb := S.2.1
  intro v1 μ hm H locs ls hP hS hl
  unfold fX0_tablesOf at hm
  refine lv_iconst (v := (0 : Int32)) hx hb dX0_tablesOf_0 (by decide) ?_
  refine lv_istore_n (lv' := [(2, .int (0 : Int32)), (0, .ref (ad o)), (1, .int v1)]) hx hb dX0_tablesOf_1 rfl hl (by decide) rfl (fun ls hl => ?_)
  refine lv_iconst (v := (0 : Int32)) hx hb dX0_tablesOf_2 (by decide) ?_
  refine lv_istore_n (lv' := [(3, .int (0 : Int32)), (2, .int (0 : Int32)), (0, .ref (ad o)), (1, .int v1)]) hx hb dX0_tablesOf_3 rfl hl (by decide) rfl (fun ls hl => ?_)
  exact wX0_tablesOf_4 S hr hG ho FU v1 (0 : Int32) (0 : Int32) μ hm H locs ls hP hS (lv_sub hl [2, 3, 1, 0] rfl)
theorem tX0_tablesOf (l : Launch) (D : va_G) (cI cR : ClassId) (n : Nat) (K L ad : Nat → Nat) {o : Nat} (ho : isk n K o 0) (v1 : Int32) : Ci l yX0_tablesOf cX0_tablesOf 4 (some .int) (rmL 2) D cI cR n K L ad [.ref (ad o), .int v1] (fX0_tablesOf L o v1) := by
  refine Ci.ofW (by decide) (Nat.le_of_ble_eq_true rfl) ?_
  intro μ x hm p e s m args below meth c ls S hr hG hP hS hl
  exact wX0_tablesOf_0 S hr hG ho v1 μ hm _ _ ls hP hS hl
-- X0_constant
set_option maxHeartbeats 4000000 in
set_option maxRecDepth 100000 in
theorem wX0_constant_0 (S : CallFix p m c cX0_constant 1 s args TB RX0) (hr : meth.sig.returnType = (some .int) ∧ meth.locks = false) (hG : gok D cI cR n K L ad s) {o : Nat} (ho : isk n K o 0) {x : Int32 × Mem} : ∀ (μ : Mem), fX0_constant L o μ = some x → WI p l e (rmL 1) s m args below meth c D cI cR n K L ad 1 x μ 0 [(0, .ref (ad o))] [] := by
  have hx := S.1
  have hb := S.2.1
  intro μ hm H locs ls hP hS hl
  unfold fX0_constant at hm
  refine lv_aload_n hx hb dX0_constant_0 rfl (lv_at hl 0 rfl) ?_
  refine r_getr S hG hP ho clX0 fX0_3 kX0_26 dX0_constant_1 ?_
  refine lv_iconst (v := (0 : Int32)) hx hb dX0_constant_4 (by decide) ?_
  refine r_vcalli (As := [.int (0 : Int32)]) (rest := []) S hG hP hS mX3_get kX0_86 clX3 (chX0_3 hG ho) (tX3_get _ _ _ _ _ _ _ _ (chX0_3 hG ho) (0 : Int32)) ⟨rfl, rfl⟩ (rm_ok (by decide) (by decide)) hm hl.1 rfl (Nat.le_of_ble_eq_true rfl) ⟨Nat.zero_le _, Nat.zero_le _⟩ dX0_constant_5 (fun b2 μ1 H locs hm hP hS => ?_)
  exact r_iret S hr hG hP hS hm dX0_constant_8
theorem tX0_constant (l : Launch) (D : va_G) (cI cR : ClassId) (n : Nat) (K L ad : Nat → Nat) {o : Nat} (ho : isk n K o 0) : Ci l yX0_constant cX0_constant 1 (some .int) (rmL 1) D cI cR n K L ad [.ref (ad o)] (fX0_constant L o) := by
  refine Ci.ofW (by decide) (Nat.le_of_ble_eq_true rfl) ?_
  intro μ x hm p e s m args below meth c ls S hr hG hP hS hl
  exact wX0_constant_0 S hr hG ho μ hm _ _ ls hP hS hl
-- X0_singleCost
set_option maxHeartbeats 4000000 in
set_option maxRecDepth 100000 in
theorem wX0_singleCost_0 (S : CallFix p m c cX0_singleCost 3 s args TB RX0) (hr : meth.sig.returnType = (some .int) ∧ meth.locks = false) (hG : gok D cI cR n K L ad s) {o : Nat} (ho : isk n K o 0) {x : Int32 × Mem} : ∀ (v1 v2 : Int32) (μ : Mem), fX0_singleCost L o v1 v2 μ = some x → WI p l e (rmL 1) s m args below meth c D cI cR n K L ad 3 x μ 0 [(0, .ref (ad o)), (1, .int v1), (2, .int v2)] [] := by
  have hx := S.1
  have hb := S.2.1
  intro v1 v2 μ hm H locs ls hP hS hl
  unfold fX0_singleCost at hm
  refine lv_aload_n hx hb dX0_singleCost_0 rfl (lv_at hl 0 rfl) ?_
  refine r_getr S hG hP ho clX0 fX0_3 kX0_26 dX0_singleCost_1 ?_
  refine lv_iload_n hx hb dX0_singleCost_4 rfl (lv_at hl 1 rfl) ?_
  refine lv_iload_n hx hb dX0_singleCost_5 rfl (lv_at hl 2 rfl) ?_
  refine r_scalli (As := [.int v1, .int v2]) (rest := [.ref (ad (o + 7))]) S hG hP hS mX0_singleAt kX0_95 (tX0_singleAt _ _ _ _ _ _ _ _ v1 v2) ⟨rfl, rfl⟩ (rm_ok (by decide) (by decide)) hm hl.1 rfl (Nat.le_of_ble_eq_true rfl) ⟨Nat.zero_le _, Nat.zero_le _⟩ dX0_singleCost_6 (fun b2 μ1 H locs hm hP hS => ?_)
  refine r_vcalli (As := [.int b2]) (rest := []) S hG hP hS mX3_get kX0_86 clX3 (chX0_3 hG ho) (tX3_get _ _ _ _ _ _ _ _ (chX0_3 hG ho) b2) ⟨rfl, rfl⟩ (rm_ok (by decide) (by decide)) hm hl.1 rfl (Nat.le_of_ble_eq_true rfl) ⟨Nat.zero_le _, Nat.zero_le _⟩ dX0_singleCost_9 (fun b4 μ3 H locs hm hP hS => ?_)
  exact r_iret S hr hG hP hS hm dX0_singleCost_12
theorem tX0_singleCost (l : Launch) (D : va_G) (cI cR : ClassId) (n : Nat) (K L ad : Nat → Nat) {o : Nat} (ho : isk n K o 0) (v1 : Int32) (v2 : Int32) : Ci l yX0_singleCost cX0_singleCost 3 (some .int) (rmL 1) D cI cR n K L ad [.ref (ad o), .int v1, .int v2] (fX0_singleCost L o v1 v2) := by
  refine Ci.ofW (by decide) (Nat.le_of_ble_eq_true rfl) ?_
  intro μ x hm p e s m args below meth c ls S hr hG hP hS hl
  exact wX0_singleCost_0 S hr hG ho v1 v2 μ hm _ _ ls hP hS hl
-- X0_pairCost
set_option maxHeartbeats 4000000 in
set_option maxRecDepth 100000 in
theorem wX0_pairCost_0 (S : CallFix p m c cX0_pairCost 4 s args TB RX0) (hr : meth.sig.returnType = (some .int) ∧ meth.locks = false) (hG : gok D cI cR n K L ad s) {o : Nat} (ho : isk n K o 0) {x : Int32 × Mem} : ∀ (v1 v2 v3 : Int32) (μ : Mem), fX0_pairCost L o v1 v2 v3 μ = some x → WI p l e (rmL 1) s m args below meth c D cI cR n K L ad 4 x μ 0 [(0, .ref (ad o)), (1, .int v1), (2, .int v2), (3, .int v3)] [] := by
  have hx := S.1
  have hb := S.2.1
  intro v1 v2 v3 μ hm H locs ls hP hS hl
  unfold fX0_pairCost at hm
  refine lv_aload_n hx hb dX0_pairCost_0 rfl (lv_at hl 0 rfl) ?_
  refine r_getr S hG hP ho clX0 fX0_3 kX0_26 dX0_pairCost_1 ?_
  refine lv_iload_n hx hb dX0_pairCost_4 rfl (lv_at hl 1 rfl) ?_
  refine lv_iload_n hx hb dX0_pairCost_5 rfl (lv_at hl 2 rfl) ?_
  refine lv_iload_n hx hb dX0_pairCost_6 rfl (lv_at hl 3 rfl) ?_
  refine r_scalli (As := [.int v1, .int v2, .int v3]) (rest := [.ref (ad (o + 7))]) S hG hP hS mX0_pairAt kX0_98 (tX0_pairAt _ _ _ _ _ _ _ _ v1 v2 v3) ⟨rfl, rfl⟩ (rm_ok (by decide) (by decide)) hm hl.1 rfl (Nat.le_of_ble_eq_true rfl) ⟨Nat.zero_le _, Nat.zero_le _⟩ dX0_pairCost_7 (fun b2 μ1 H locs hm hP hS => ?_)
  refine r_vcalli (As := [.int b2]) (rest := []) S hG hP hS mX3_get kX0_86 clX3 (chX0_3 hG ho) (tX3_get _ _ _ _ _ _ _ _ (chX0_3 hG ho) b2) ⟨rfl, rfl⟩ (rm_ok (by decide) (by decide)) hm hl.1 rfl (Nat.le_of_ble_eq_true rfl) ⟨Nat.zero_le _, Nat.zero_le _⟩ dX0_pairCost_10 (fun b4 μ3 H locs hm hP hS => ?_)
  exact r_iret S hr hG hP hS hm dX0_pairCost_13
theorem tX0_pairCost (l : Launch) (D : va_G) (cI cR : ClassId) (n : Nat) (K L ad : Nat → Nat) {o : Nat} (ho : isk n K o 0) (v1 : Int32) (v2 : Int32) (v3 : Int32) : Ci l yX0_pairCost cX0_pairCost 4 (some .int) (rmL 1) D cI cR n K L ad [.ref (ad o), .int v1, .int v2, .int v3] (fX0_pairCost L o v1 v2 v3) := by
  refine Ci.ofW (by decide) (Nat.le_of_ble_eq_true rfl) ?_
  intro μ x hm p e s m args below meth c ls S hr hG hP hS hl
  exact wX0_pairCost_0 S hr hG ho v1 v2 v3 μ hm _ _ ls hP hS hl
-- X0_pairFrom
set_option maxHeartbeats 4000000 in
set_option maxRecDepth 100000 in
theorem wX0_pairFrom_0 (S : CallFix p m c cX0_pairFrom 4 s args TB RX0) (hr : meth.sig.returnType = (some .int) ∧ meth.locks = false) (hG : gok D cI cR n K L ad s) {x : Int32 × Mem} : ∀ (v0 v1 v2 v3 : Int32) (μ : Mem), fX0_pairFrom L v0 v1 v2 v3 μ = some x → WI p l e (rmL 1) s m args below meth c D cI cR n K L ad 4 x μ 0 [(0, .int v0), (1, .int v1), (2, .int v2), (3, .int v3)] [] := by
  have hx := S.1
  have hb := S.2.1
  intro v0 v1 v2 v3 μ hm H locs ls hP hS hl
  unfold fX0_pairFrom at hm
  refine lv_iload_n hx hb dX0_pairFrom_0 rfl (lv_at hl 1 rfl) ?_
  refine b_if_ne (tgt := 13) S dX0_pairFrom_1 (by decide) hm (fun hm => ?_) (fun hm => ?_)
  · refine lv_iload_n hx hb dX0_pairFrom_13 rfl (lv_at hl 0 rfl) ?_
    refine lv_iload_n hx hb dX0_pairFrom_14 rfl (lv_at hl 3 rfl) ?_
    refine lv_iload_n hx hb dX0_pairFrom_15 rfl (lv_at hl 2 rfl) ?_
    refine r_scalli (As := [.int v0, .int v3, .int v2]) (rest := []) S hG hP hS mX0_pairAt kX0_98 (tX0_pairAt _ _ _ _ _ _ _ _ v0 v3 v2) ⟨rfl, rfl⟩ (rm_ok (by decide) (by decide)) hm hl.1 rfl (Nat.le_of_ble_eq_true rfl) ⟨Nat.zero_le _, Nat.zero_le _⟩ dX0_pairFrom_16 (fun b2 μ1 H locs hm hP hS => ?_)
    exact r_iret S hr hG hP hS hm dX0_pairFrom_19
  · refine lv_iload_n hx hb dX0_pairFrom_4 rfl (lv_at hl 0 rfl) ?_
    refine lv_iload_n hx hb dX0_pairFrom_5 rfl (lv_at hl 2 rfl) ?_
    refine lv_iload_n hx hb dX0_pairFrom_6 rfl (lv_at hl 3 rfl) ?_
    refine r_scalli (As := [.int v0, .int v2, .int v3]) (rest := []) S hG hP hS mX0_pairAt kX0_98 (tX0_pairAt _ _ _ _ _ _ _ _ v0 v2 v3) ⟨rfl, rfl⟩ (rm_ok (by decide) (by decide)) hm hl.1 rfl (Nat.le_of_ble_eq_true rfl) ⟨Nat.zero_le _, Nat.zero_le _⟩ dX0_pairFrom_7 (fun b4 μ3 H locs hm hP hS => ?_)
    refine lv_goto (tgt := 19) hx hb dX0_pairFrom_10 (by decide) ?_
    exact r_iret S hr hG hP hS hm dX0_pairFrom_19
theorem tX0_pairFrom (l : Launch) (D : va_G) (cI cR : ClassId) (n : Nat) (K L ad : Nat → Nat) (v0 : Int32) (v1 : Int32) (v2 : Int32) (v3 : Int32) : Ci l yX0_pairFrom cX0_pairFrom 4 (some .int) (rmL 1) D cI cR n K L ad [.int v0, .int v1, .int v2, .int v3] (fX0_pairFrom L v0 v1 v2 v3) := by
  refine Ci.ofW (by decide) (Nat.le_of_ble_eq_true rfl) ?_
  intro μ x hm p e s m args below meth c ls S hr hG hP hS hl
  exact wX0_pairFrom_0 S hr hG v0 v1 v2 v3 μ hm _ _ ls hP hS hl
-- X0_acrossFrom
set_option maxHeartbeats 4000000 in
set_option maxRecDepth 100000 in
theorem wX0_acrossFrom_0 (S : CallFix p m c cX0_acrossFrom 1 s args TB RX0) (hr : meth.sig.returnType = (some .int) ∧ meth.locks = false) (hG : gok D cI cR n K L ad s) {x : Int32 × Mem} : ∀ (v0 : Int32) (μ : Mem), fX0_acrossFrom L v0 μ = some x → WI p l e (rmL 0) s m args below meth c D cI cR n K L ad 1 x μ 0 [(0, .int v0)] [] := by
  have hx := S.1
  have hb := S.2.1
  intro v0 μ hm H locs ls hP hS hl
  unfold fX0_acrossFrom at hm
  refine lv_iload_n hx hb dX0_acrossFrom_0 rfl (lv_at hl 0 rfl) ?_
  refine b_if_ne (tgt := 8) S dX0_acrossFrom_1 (by decide) hm (fun hm => ?_) (fun hm => ?_)
  · refine lv_iconst (v := (0 : Int32)) hx hb dX0_acrossFrom_8 (by decide) ?_
    exact r_iret S hr hG hP hS hm dX0_acrossFrom_9
  · refine lv_iconst (v := (1 : Int32)) hx hb dX0_acrossFrom_4 (by decide) ?_
    refine lv_goto (tgt := 9) hx hb dX0_acrossFrom_5 (by decide) ?_
    exact r_iret S hr hG hP hS hm dX0_acrossFrom_9
theorem tX0_acrossFrom (l : Launch) (D : va_G) (cI cR : ClassId) (n : Nat) (K L ad : Nat → Nat) (v0 : Int32) : Ci l yX0_acrossFrom cX0_acrossFrom 1 (some .int) (rmL 0) D cI cR n K L ad [.int v0] (fX0_acrossFrom L v0) := by
  refine Ci.ofW (by decide) (Nat.le_of_ble_eq_true rfl) ?_
  intro μ x hm p e s m args below meth c ls S hr hG hP hS hl
  exact wX0_acrossFrom_0 S hr hG v0 μ hm _ _ ls hP hS hl
-- X0_leastSingle
set_option maxHeartbeats 4000000 in
set_option maxRecDepth 100000 in
theorem wX0_leastSingle_7 (S : CallFix p m c cX0_leastSingle 4 s args TB RX0) (hr : meth.sig.returnType = (some .int) ∧ meth.locks = false) (hG : gok D cI cR n K L ad s) {o : Nat} (ho : isk n K o 0) {x : Int32 × Mem} : ∀ (k : Nat) (v1 v2 v3 : Int32) (μ : Mem), fX0_leastSingle_7 L o k v1 v2 v3 μ = some x → WI p l e (rmL 2) s m args below meth c D cI cR n K L ad 4 x μ 7 [(0, .ref (ad o)), (1, .int v1), (2, .int v2), (3, .int v3)] [] := by
  have hx := S.1
  have hb := S.2.1
  intro k
  induction k with
  | zero => intro v1 v2 v3 μ hm; exact absurd (show none = some x from hm) (fun h => by cases h)
  | succ k ih =>
    intro v1 v2 v3 μ hm H locs ls hP hS hl
    have hm : fX0_leastSingle_7_b L o (fX0_leastSingle_7 L o k) v1 v2 v3 μ = some x := hm
    unfold fX0_leastSingle_7_b at hm
    refine lv_iload_n hx hb dX0_leastSingle_7 rfl (lv_at hl 3 rfl) ?_
    refine lv_aload_n hx hb dX0_leastSingle_8 rfl (lv_at hl 0 rfl) ?_
    refine lv_iload_n hx hb dX0_leastSingle_9 rfl (lv_at hl 1 rfl) ?_
    refine r_vcalli (As := [.int v1]) (rest := [.int v3]) S hG hP hS mX0_valuesOf kX0_65 clX0 ho (tX0_valuesOf _ _ _ _ _ _ _ _ ho v1) ⟨rfl, rfl⟩ (rm_ok (by decide) (by decide)) hm hl.1 rfl (Nat.le_of_ble_eq_true rfl) ⟨Nat.zero_le _, Nat.zero_le _⟩ dX0_leastSingle_10 (fun b2 μ1 H locs hm hP hS => ?_)
    refine b_icmp_ge (tgt := 33) S dX0_leastSingle_13 (by decide) hm (fun hm => ?_) (fun hm => ?_)
    · refine lv_iload_n hx hb dX0_leastSingle_33 rfl (lv_at hl 2 rfl) ?_
      exact r_iret S hr hG hP hS hm dX0_leastSingle_34
    · refine lv_iload_n hx hb dX0_leastSingle_16 rfl (lv_at hl 2 rfl) ?_
      refine lv_aload_n hx hb dX0_leastSingle_17 rfl (lv_at hl 0 rfl) ?_
      refine lv_iload_n hx hb dX0_leastSingle_18 rfl (lv_at hl 1 rfl) ?_
      refine lv_iload_n hx hb dX0_leastSingle_19 rfl (lv_at hl 3 rfl) ?_
      refine r_vcalli (As := [.int v1, .int v3]) (rest := [.int v2]) S hG hP hS mX0_singleCost kX0_102 clX0 ho (tX0_singleCost _ _ _ _ _ _ _ _ ho v1 v3) ⟨rfl, rfl⟩ (rm_ok (by decide) (by decide)) hm hl.1 rfl (Nat.le_of_ble_eq_true rfl) ⟨Nat.zero_le _, Nat.zero_le _⟩ dX0_leastSingle_20 (fun b4 μ3 H locs hm hP hS => ?_)
      refine r_min S hl.1 kX0_69 ⟨Nat.le_of_ble_eq_true rfl, Nat.le_of_ble_eq_true rfl⟩ ⟨Nat.zero_le _, Nat.zero_le _⟩ dX0_leastSingle_23 ?_
      refine r_top hm (fun a5 hm => ?_)
      refine lv_istore_n (lv' := [(2, .int a5), (0, .ref (ad o)), (1, .int v1), (3, .int v3)]) hx hb dX0_leastSingle_26 rfl hl (by decide) rfl (fun ls hl => ?_)
      refine r_iinc (b := (1 : Int32)) (k := 3) S hm dX0_leastSingle_27 hl rfl (by decide) (by decide) (fun a6 ls hm hl => ?_)
      have hl : lv_has ls 4 [(3, .int a6), (2, .int a5), (0, .ref (ad o)), (1, .int v1)] := hl
      refine lv_goto (tgt := 7) hx hb dX0_leastSingle_30 (by decide) ?_
      exact ih v1 a5 a6 μ3 hm H locs ls hP hS (lv_sub hl [2, 3, 1, 0] rfl)
set_option maxHeartbeats 4000000 in
set_option maxRecDepth 100000 in
theorem wX0_leastSingle_0 (S : CallFix p m c cX0_leastSingle 4 s args TB RX0) (hr : meth.sig.returnType = (some .int) ∧ meth.locks = false) (hG : gok D cI cR n K L ad s) {o : Nat} (ho : isk n K o 0) {x : Int32 × Mem} : ∀ (v1 : Int32) (μ : Mem), fX0_leastSingle L o v1 μ = some x → WI p l e (rmL 2) s m args below meth c D cI cR n K L ad 4 x μ 0 [(0, .ref (ad o)), (1, .int v1)] [] := by
  have hx := S.1
  have hb := S.2.1
  intro v1 μ hm H locs ls hP hS hl
  unfold fX0_leastSingle at hm
  refine lv_aload_n hx hb dX0_leastSingle_0 rfl (lv_at hl 0 rfl) ?_
  refine r_geti S hG hP ho clX0 fX0_6 kX0_29 dX0_leastSingle_1 ?_
  refine r_top hm (fun a7 hm => ?_)
  refine lv_istore_n (lv' := [(2, .int a7), (0, .ref (ad o)), (1, .int v1)]) hx hb dX0_leastSingle_4 rfl hl (by decide) rfl (fun ls hl => ?_)
  refine lv_iconst (v := (0 : Int32)) hx hb dX0_leastSingle_5 (by decide) ?_
  refine lv_istore_n (lv' := [(3, .int (0 : Int32)), (2, .int a7), (0, .ref (ad o)), (1, .int v1)]) hx hb dX0_leastSingle_6 rfl hl (by decide) rfl (fun ls hl => ?_)
  exact wX0_leastSingle_7 S hr hG ho FU v1 a7 (0 : Int32) μ hm H locs ls hP hS (lv_sub hl [2, 3, 1, 0] rfl)
theorem tX0_leastSingle (l : Launch) (D : va_G) (cI cR : ClassId) (n : Nat) (K L ad : Nat → Nat) {o : Nat} (ho : isk n K o 0) (v1 : Int32) : Ci l yX0_leastSingle cX0_leastSingle 4 (some .int) (rmL 2) D cI cR n K L ad [.ref (ad o), .int v1] (fX0_leastSingle L o v1) := by
  refine Ci.ofW (by decide) (Nat.le_of_ble_eq_true rfl) ?_
  intro μ x hm p e s m args below meth c ls S hr hG hP hS hl
  exact wX0_leastSingle_0 S hr hG ho v1 μ hm _ _ ls hP hS hl
-- X0_leastPairOf
set_option maxHeartbeats 4000000 in
set_option maxRecDepth 100000 in
theorem wX0_leastPairOf_20 (S : CallFix p m c cX0_leastPairOf 7 s args TB RX0) (hr : meth.sig.returnType = (some .int) ∧ meth.locks = false) (hG : gok D cI cR n K L ad s) {o : Nat} (ho : isk n K o 0) {x : Int32 × Mem} : ∀ (k : Nat) (v1 v2 v3 v4 v5 v6 : Int32) (μ : Mem), fX0_leastPairOf_20 L o k v1 v2 v3 v4 v5 v6 μ = some x → WI p l e (rmL 2) s m args below meth c D cI cR n K L ad 7 x μ 20 [(0, .ref (ad o)), (1, .int v1), (2, .int v2), (3, .int v3), (4, .int v4), (5, .int v5), (6, .int v6)] [] := by
  have hx := S.1
  have hb := S.2.1
  intro k
  induction k with
  | zero => intro v1 v2 v3 v4 v5 v6 μ hm; exact absurd (show none = some x from hm) (fun h => by cases h)
  | succ k ih =>
    intro v1 v2 v3 v4 v5 v6 μ hm H locs ls hP hS hl
    have hm : fX0_leastPairOf_20_b L o (fX0_leastPairOf_20 L o k) v1 v2 v3 v4 v5 v6 μ = some x := hm
    unfold fX0_leastPairOf_20_b at hm
    refine lv_iload hx hb dX0_leastPairOf_20 (lv_at hl 6 rfl) ?_
    refine lv_iload hx hb dX0_leastPairOf_22 (lv_at hl 5 rfl) ?_
    refine b_icmp_ge (tgt := 55) S dX0_leastPairOf_24 (by decide) hm (fun hm => ?_) (fun hm => ?_)
    · refine lv_iload hx hb dX0_leastPairOf_55 (lv_at hl 4 rfl) ?_
      exact r_iret S hr hG hP hS hm dX0_leastPairOf_57
    · refine lv_iload hx hb dX0_leastPairOf_27 (lv_at hl 4 rfl) ?_
      refine lv_aload_n hx hb dX0_leastPairOf_29 rfl (lv_at hl 0 rfl) ?_
      refine r_getr S hG hP ho clX0 fX0_3 kX0_26 dX0_leastPairOf_30 ?_
      refine lv_iload_n hx hb dX0_leastPairOf_33 rfl (lv_at hl 1 rfl) ?_
      refine lv_iload_n hx hb dX0_leastPairOf_34 rfl (lv_at hl 2 rfl) ?_
      refine lv_iload_n hx hb dX0_leastPairOf_35 rfl (lv_at hl 3 rfl) ?_
      refine lv_iload hx hb dX0_leastPairOf_36 (lv_at hl 6 rfl) ?_
      refine r_scalli (As := [.int v1, .int v2, .int v3, .int v6]) (rest := [.ref (ad (o + 7)), .int v4]) S hG hP hS mX0_pairFrom kX0_108 (tX0_pairFrom _ _ _ _ _ _ _ _ v1 v2 v3 v6) ⟨rfl, rfl⟩ (rm_ok (by decide) (by decide)) hm hl.1 rfl (Nat.le_of_ble_eq_true rfl) ⟨Nat.zero_le _, Nat.zero_le _⟩ dX0_leastPairOf_38 (fun b2 μ1 H locs hm hP hS => ?_)
      refine r_vcalli (As := [.int b2]) (rest := [.int v4]) S hG hP hS mX3_get kX0_86 clX3 (chX0_3 hG ho) (tX3_get _ _ _ _ _ _ _ _ (chX0_3 hG ho) b2) ⟨rfl, rfl⟩ (rm_ok (by decide) (by decide)) hm hl.1 rfl (Nat.le_of_ble_eq_true rfl) ⟨Nat.zero_le _, Nat.zero_le _⟩ dX0_leastPairOf_41 (fun b4 μ3 H locs hm hP hS => ?_)
      refine r_min S hl.1 kX0_69 ⟨Nat.le_of_ble_eq_true rfl, Nat.le_of_ble_eq_true rfl⟩ ⟨Nat.zero_le _, Nat.zero_le _⟩ dX0_leastPairOf_44 ?_
      refine r_top hm (fun a5 hm => ?_)
      refine lv_istore (lv' := [(4, .int a5), (0, .ref (ad o)), (1, .int v1), (2, .int v2), (3, .int v3), (5, .int v5), (6, .int v6)]) hx hb dX0_leastPairOf_47 hl (by decide) rfl (fun ls hl => ?_)
      refine r_iinc (b := (1 : Int32)) (k := 6) S hm dX0_leastPairOf_49 hl rfl (by decide) (by decide) (fun a6 ls hm hl => ?_)
      have hl : lv_has ls 7 [(6, .int a6), (4, .int a5), (0, .ref (ad o)), (1, .int v1), (2, .int v2), (3, .int v3), (5, .int v5)] := hl
      refine lv_goto (tgt := 20) hx hb dX0_leastPairOf_52 (by decide) ?_
      exact ih v1 v2 v3 a5 v5 a6 μ3 hm H locs ls hP hS (lv_sub hl [2, 3, 4, 5, 1, 6, 0] rfl)
set_option maxHeartbeats 4000000 in
set_option maxRecDepth 100000 in
theorem wX0_leastPairOf_0 (S : CallFix p m c cX0_leastPairOf 7 s args TB RX0) (hr : meth.sig.returnType = (some .int) ∧ meth.locks = false) (hG : gok D cI cR n K L ad s) {o : Nat} (ho : isk n K o 0) {x : Int32 × Mem} : ∀ (v1 v2 v3 : Int32) (μ : Mem), fX0_leastPairOf L o v1 v2 v3 μ = some x → WI p l e (rmL 2) s m args below meth c D cI cR n K L ad 7 x μ 0 [(0, .ref (ad o)), (1, .int v1), (2, .int v2), (3, .int v3)] [] := by
  have hx := S.1
  have hb := S.2.1
  intro v1 v2 v3 μ hm H locs ls hP hS hl
  unfold fX0_leastPairOf at hm
  refine lv_aload_n hx hb dX0_leastPairOf_0 rfl (lv_at hl 0 rfl) ?_
  refine r_geti S hG hP ho clX0 fX0_6 kX0_29 dX0_leastPairOf_1 ?_
  refine r_top hm (fun a7 hm => ?_)
  refine lv_istore (lv' := [(4, .int a7), (0, .ref (ad o)), (1, .int v1), (2, .int v2), (3, .int v3)]) hx hb dX0_leastPairOf_4 hl (by decide) rfl (fun ls hl => ?_)
  refine lv_aload_n hx hb dX0_leastPairOf_6 rfl (lv_at hl 1 rfl) ?_
  refine lv_iload_n hx hb dX0_leastPairOf_7 rfl (lv_at hl 2 rfl) ?_
  refine lv_iload_n hx hb dX0_leastPairOf_8 rfl (lv_at hl 3 rfl) ?_
  refine r_scalli (As := [.int v2]) (rest := [.int v1, .ref (ad o)]) S hG hP hS mX0_acrossFrom kX0_105 (tX0_acrossFrom _ _ _ _ _ _ _ _ v2) ⟨rfl, rfl⟩ (rm_ok (by decide) (by decide)) hm hl.1 rfl (Nat.le_of_ble_eq_true rfl) ⟨Nat.zero_le _, Nat.zero_le _⟩ dX0_leastPairOf_9 (fun b9 μ8 H locs hm hP hS => ?_)
  refine r_vcalli (As := [.int v1, .int b9]) (rest := []) S hG hP hS mX0_valuesOn kX0_92 clX0 ho (tX0_valuesOn _ _ _ _ _ _ _ _ ho v1 b9) ⟨rfl, rfl⟩ (rm_ok (by decide) (by decide)) hm hl.1 rfl (Nat.le_of_ble_eq_true rfl) ⟨Nat.zero_le _, Nat.zero_le _⟩ dX0_leastPairOf_12 (fun b11 μ10 H locs hm hP hS => ?_)
  refine lv_istore (lv' := [(5, .int b11), (4, .int a7), (0, .ref (ad o)), (1, .int v1), (2, .int v2), (3, .int v3)]) hx hb dX0_leastPairOf_15 hl (by decide) rfl (fun ls hl => ?_)
  refine lv_iconst (v := (0 : Int32)) hx hb dX0_leastPairOf_17 (by decide) ?_
  refine lv_istore (lv' := [(6, .int (0 : Int32)), (5, .int b11), (4, .int a7), (0, .ref (ad o)), (1, .int v1), (2, .int v2), (3, .int v3)]) hx hb dX0_leastPairOf_18 hl (by decide) rfl (fun ls hl => ?_)
  exact wX0_leastPairOf_20 S hr hG ho FU v1 v2 v3 a7 b11 (0 : Int32) μ10 hm H locs ls hP hS (lv_sub hl [3, 4, 5, 6, 2, 1, 0] rfl)
theorem tX0_leastPairOf (l : Launch) (D : va_G) (cI cR : ClassId) (n : Nat) (K L ad : Nat → Nat) {o : Nat} (ho : isk n K o 0) (v1 : Int32) (v2 : Int32) (v3 : Int32) : Ci l yX0_leastPairOf cX0_leastPairOf 7 (some .int) (rmL 2) D cI cR n K L ad [.ref (ad o), .int v1, .int v2, .int v3] (fX0_leastPairOf L o v1 v2 v3) := by
  refine Ci.ofW (by decide) (Nat.le_of_ble_eq_true rfl) ?_
  intro μ x hm p e s m args below meth c ls S hr hG hP hS hl
  exact wX0_leastPairOf_0 S hr hG ho v1 v2 v3 μ hm _ _ ls hP hS hl
-- X0_leastOfTable
set_option maxHeartbeats 4000000 in
set_option maxRecDepth 100000 in
theorem wX0_leastOfTable_7 (S : CallFix p m c cX0_leastOfTable 4 s args TB RX0) (hr : meth.sig.returnType = (some .int) ∧ meth.locks = false) (hG : gok D cI cR n K L ad s) {o : Nat} (ho : isk n K o 0) {x : Int32 × Mem} : ∀ (k : Nat) (v1 v2 v3 : Int32) (μ : Mem), fX0_leastOfTable_7 L o k v1 v2 v3 μ = some x → WI p l e (rmL 3) s m args below meth c D cI cR n K L ad 4 x μ 7 [(0, .ref (ad o)), (1, .int v1), (2, .int v2), (3, .int v3)] [] := by
  have hx := S.1
  have hb := S.2.1
  intro k
  induction k with
  | zero => intro v1 v2 v3 μ hm; exact absurd (show none = some x from hm) (fun h => by cases h)
  | succ k ih =>
    intro v1 v2 v3 μ hm H locs ls hP hS hl
    have hm : fX0_leastOfTable_7_b L o (fX0_leastOfTable_7 L o k) v1 v2 v3 μ = some x := hm
    unfold fX0_leastOfTable_7_b at hm
    refine lv_iload_n hx hb dX0_leastOfTable_7 rfl (lv_at hl 3 rfl) ?_
    refine lv_aload_n hx hb dX0_leastOfTable_8 rfl (lv_at hl 0 rfl) ?_
    refine lv_iload_n hx hb dX0_leastOfTable_9 rfl (lv_at hl 1 rfl) ?_
    refine lv_iconst (v := (0 : Int32)) hx hb dX0_leastOfTable_10 (by decide) ?_
    refine r_vcalli (As := [.int v1, .int (0 : Int32)]) (rest := [.int v3]) S hG hP hS mX0_valuesOn kX0_92 clX0 ho (tX0_valuesOn _ _ _ _ _ _ _ _ ho v1 (0 : Int32)) ⟨rfl, rfl⟩ (rm_ok (by decide) (by decide)) hm hl.1 rfl (Nat.le_of_ble_eq_true rfl) ⟨Nat.zero_le _, Nat.zero_le _⟩ dX0_leastOfTable_11 (fun b2 μ1 H locs hm hP hS => ?_)
    refine b_icmp_ge (tgt := 35) S dX0_leastOfTable_14 (by decide) hm (fun hm => ?_) (fun hm => ?_)
    · refine lv_iload_n hx hb dX0_leastOfTable_35 rfl (lv_at hl 2 rfl) ?_
      exact r_iret S hr hG hP hS hm dX0_leastOfTable_36
    · refine lv_iload_n hx hb dX0_leastOfTable_17 rfl (lv_at hl 2 rfl) ?_
      refine lv_aload_n hx hb dX0_leastOfTable_18 rfl (lv_at hl 0 rfl) ?_
      refine lv_iload_n hx hb dX0_leastOfTable_19 rfl (lv_at hl 1 rfl) ?_
      refine lv_iconst (v := (0 : Int32)) hx hb dX0_leastOfTable_20 (by decide) ?_
      refine lv_iload_n hx hb dX0_leastOfTable_21 rfl (lv_at hl 3 rfl) ?_
      refine r_vcalli (As := [.int v1, .int (0 : Int32), .int v3]) (rest := [.int v2]) S hG hP hS mX0_leastPairOf kX0_112 clX0 ho (tX0_leastPairOf _ _ _ _ _ _ _ _ ho v1 (0 : Int32) v3) ⟨rfl, rfl⟩ (rm_ok (by decide) (by decide)) hm hl.1 rfl (Nat.le_of_ble_eq_true rfl) ⟨Nat.zero_le _, Nat.zero_le _⟩ dX0_leastOfTable_22 (fun b4 μ3 H locs hm hP hS => ?_)
      refine r_min S hl.1 kX0_69 ⟨Nat.le_of_ble_eq_true rfl, Nat.le_of_ble_eq_true rfl⟩ ⟨Nat.zero_le _, Nat.zero_le _⟩ dX0_leastOfTable_25 ?_
      refine r_top hm (fun a5 hm => ?_)
      refine lv_istore_n (lv' := [(2, .int a5), (0, .ref (ad o)), (1, .int v1), (3, .int v3)]) hx hb dX0_leastOfTable_28 rfl hl (by decide) rfl (fun ls hl => ?_)
      refine r_iinc (b := (1 : Int32)) (k := 3) S hm dX0_leastOfTable_29 hl rfl (by decide) (by decide) (fun a6 ls hm hl => ?_)
      have hl : lv_has ls 4 [(3, .int a6), (2, .int a5), (0, .ref (ad o)), (1, .int v1)] := hl
      refine lv_goto (tgt := 7) hx hb dX0_leastOfTable_32 (by decide) ?_
      exact ih v1 a5 a6 μ3 hm H locs ls hP hS (lv_sub hl [2, 3, 1, 0] rfl)
set_option maxHeartbeats 4000000 in
set_option maxRecDepth 100000 in
theorem wX0_leastOfTable_0 (S : CallFix p m c cX0_leastOfTable 4 s args TB RX0) (hr : meth.sig.returnType = (some .int) ∧ meth.locks = false) (hG : gok D cI cR n K L ad s) {o : Nat} (ho : isk n K o 0) {x : Int32 × Mem} : ∀ (v1 : Int32) (μ : Mem), fX0_leastOfTable L o v1 μ = some x → WI p l e (rmL 3) s m args below meth c D cI cR n K L ad 4 x μ 0 [(0, .ref (ad o)), (1, .int v1)] [] := by
  have hx := S.1
  have hb := S.2.1
  intro v1 μ hm H locs ls hP hS hl
  unfold fX0_leastOfTable at hm
  refine lv_aload_n hx hb dX0_leastOfTable_0 rfl (lv_at hl 0 rfl) ?_
  refine r_geti S hG hP ho clX0 fX0_6 kX0_29 dX0_leastOfTable_1 ?_
  refine r_top hm (fun a7 hm => ?_)
  refine lv_istore_n (lv' := [(2, .int a7), (0, .ref (ad o)), (1, .int v1)]) hx hb dX0_leastOfTable_4 rfl hl (by decide) rfl (fun ls hl => ?_)
  refine lv_iconst (v := (0 : Int32)) hx hb dX0_leastOfTable_5 (by decide) ?_
  refine lv_istore_n (lv' := [(3, .int (0 : Int32)), (2, .int a7), (0, .ref (ad o)), (1, .int v1)]) hx hb dX0_leastOfTable_6 rfl hl (by decide) rfl (fun ls hl => ?_)
  exact wX0_leastOfTable_7 S hr hG ho FU v1 a7 (0 : Int32) μ hm H locs ls hP hS (lv_sub hl [2, 3, 1, 0] rfl)
theorem tX0_leastOfTable (l : Launch) (D : va_G) (cI cR : ClassId) (n : Nat) (K L ad : Nat → Nat) {o : Nat} (ho : isk n K o 0) (v1 : Int32) : Ci l yX0_leastOfTable cX0_leastOfTable 4 (some .int) (rmL 3) D cI cR n K L ad [.ref (ad o), .int v1] (fX0_leastOfTable L o v1) := by
  refine Ci.ofW (by decide) (Nat.le_of_ble_eq_true rfl) ?_
  intro μ x hm p e s m args below meth c ls S hr hG hP hS hl
  exact wX0_leastOfTable_0 S hr hG ho v1 μ hm _ _ ls hP hS hl
-- X0_greatestOfTable
set_option maxHeartbeats 4000000 in
set_option maxRecDepth 100000 in
theorem wX0_greatestOfTable_17 (S : CallFix p m c cX0_greatestOfTable 5 s args TB RX0) (hr : meth.sig.returnType = (some .int) ∧ meth.locks = false) (hG : gok D cI cR n K L ad s) {o : Nat} (ho : isk n K o 0) {x : Int32 × Mem} {self4 : Int32 → Int32 → Int32 → Mem → Option (Int32 × Mem)} (hs4 : ∀ (v1 v2 v3 : Int32) (μ : Mem), self4 v1 v2 v3 μ = some x → WI p l e (rmL 2) s m args below meth c D cI cR n K L ad 5 x μ 4 [(0, .ref (ad o)), (1, .int v1), (2, .int v2), (3, .int v3)] []) : ∀ (k : Nat) (v1 v2 v3 v4 : Int32) (μ : Mem), fX0_greatestOfTable_17 L o self4 k v1 v2 v3 v4 μ = some x → WI p l e (rmL 2) s m args below meth c D cI cR n K L ad 5 x μ 17 [(0, .ref (ad o)), (1, .int v1), (2, .int v2), (3, .int v3), (4, .int v4)] [] := by
  have hx := S.1
  have hb := S.2.1
  intro k
  induction k with
  | zero => intro v1 v2 v3 v4 μ hm; exact absurd (show none = some x from hm) (fun h => by cases h)
  | succ k ih =>
    intro v1 v2 v3 v4 μ hm H locs ls hP hS hl
    have hm : fX0_greatestOfTable_17_b L o self4 (fX0_greatestOfTable_17 L o self4 k) v1 v2 v3 v4 μ = some x := hm
    unfold fX0_greatestOfTable_17_b at hm
    refine lv_iload hx hb dX0_greatestOfTable_17 (lv_at hl 4 rfl) ?_
    refine lv_aload_n hx hb dX0_greatestOfTable_19 rfl (lv_at hl 0 rfl) ?_
    refine lv_iload_n hx hb dX0_greatestOfTable_20 rfl (lv_at hl 1 rfl) ?_
    refine lv_iconst (v := (1 : Int32)) hx hb dX0_greatestOfTable_21 (by decide) ?_
    refine r_vcalli (As := [.int v1, .int (1 : Int32)]) (rest := [.int v4]) S hG hP hS mX0_valuesOn kX0_92 clX0 ho (tX0_valuesOn _ _ _ _ _ _ _ _ ho v1 (1 : Int32)) ⟨rfl, rfl⟩ (rm_ok (by decide) (by decide)) hm hl.1 rfl (Nat.le_of_ble_eq_true rfl) ⟨Nat.zero_le _, Nat.zero_le _⟩ dX0_greatestOfTable_22 (fun b2 μ1 H locs hm hP hS => ?_)
    refine b_icmp_ge (tgt := 47) S dX0_greatestOfTable_25 (by decide) hm (fun hm => ?_) (fun hm => ?_)
    · refine r_iinc (b := (1 : Int32)) (k := 3) S hm dX0_greatestOfTable_47 hl rfl (by decide) (by decide) (fun a3 ls hm hl => ?_)
      have hl : lv_has ls 5 [(3, .int a3), (0, .ref (ad o)), (1, .int v1), (2, .int v2), (4, .int v4)] := hl
      refine lv_goto (tgt := 4) hx hb dX0_greatestOfTable_50 (by decide) ?_
      exact hs4 v1 v2 a3 μ1 hm H locs ls hP hS (lv_sub hl [1, 2, 3, 0] rfl)
    · refine lv_iload_n hx hb dX0_greatestOfTable_28 rfl (lv_at hl 2 rfl) ?_
      refine lv_aload_n hx hb dX0_greatestOfTable_29 rfl (lv_at hl 0 rfl) ?_
      refine lv_iload_n hx hb dX0_greatestOfTable_30 rfl (lv_at hl 1 rfl) ?_
      refine lv_iload_n hx hb dX0_greatestOfTable_31 rfl (lv_at hl 3 rfl) ?_
      refine lv_iload hx hb dX0_greatestOfTable_32 (lv_at hl 4 rfl) ?_
      refine r_vcalli (As := [.int v1, .int v3, .int v4]) (rest := [.int v2]) S hG hP hS mX0_pairCost kX0_115 clX0 ho (tX0_pairCost _ _ _ _ _ _ _ _ ho v1 v3 v4) ⟨rfl, rfl⟩ (rm_ok (by decide) (by decide)) hm hl.1 rfl (Nat.le_of_ble_eq_true rfl) ⟨Nat.zero_le _, Nat.zero_le _⟩ dX0_greatestOfTable_34 (fun b5 μ4 H locs hm hP hS => ?_)
      refine r_max S hl.1 kX0_118 ⟨Nat.le_of_ble_eq_true rfl, Nat.le_of_ble_eq_true rfl⟩ ⟨Nat.zero_le _, Nat.zero_le _⟩ dX0_greatestOfTable_37 ?_
      refine r_top hm (fun a6 hm => ?_)
      refine lv_istore_n (lv' := [(2, .int a6), (0, .ref (ad o)), (1, .int v1), (3, .int v3), (4, .int v4)]) hx hb dX0_greatestOfTable_40 rfl hl (by decide) rfl (fun ls hl => ?_)
      refine r_iinc (b := (1 : Int32)) (k := 4) S hm dX0_greatestOfTable_41 hl rfl (by decide) (by decide) (fun a7 ls hm hl => ?_)
      have hl : lv_has ls 5 [(4, .int a7), (2, .int a6), (0, .ref (ad o)), (1, .int v1), (3, .int v3)] := hl
      refine lv_goto (tgt := 17) hx hb dX0_greatestOfTable_44 (by decide) ?_
      exact ih v1 a6 v3 a7 μ4 hm H locs ls hP hS (lv_sub hl [2, 3, 1, 4, 0] rfl)
set_option maxHeartbeats 4000000 in
set_option maxRecDepth 100000 in
theorem wX0_greatestOfTable_4 (S : CallFix p m c cX0_greatestOfTable 5 s args TB RX0) (hr : meth.sig.returnType = (some .int) ∧ meth.locks = false) (hG : gok D cI cR n K L ad s) {o : Nat} (ho : isk n K o 0) {x : Int32 × Mem} : ∀ (k : Nat) (v1 v2 v3 : Int32) (μ : Mem), fX0_greatestOfTable_4 L o k v1 v2 v3 μ = some x → WI p l e (rmL 2) s m args below meth c D cI cR n K L ad 5 x μ 4 [(0, .ref (ad o)), (1, .int v1), (2, .int v2), (3, .int v3)] [] := by
  have hx := S.1
  have hb := S.2.1
  intro k
  induction k with
  | zero => intro v1 v2 v3 μ hm; exact absurd (show none = some x from hm) (fun h => by cases h)
  | succ k ih =>
    intro v1 v2 v3 μ hm H locs ls hP hS hl
    have hm : fX0_greatestOfTable_4_b L o (fX0_greatestOfTable_4 L o k) v1 v2 v3 μ = some x := hm
    unfold fX0_greatestOfTable_4_b at hm
    refine lv_iload_n hx hb dX0_greatestOfTable_4 rfl (lv_at hl 3 rfl) ?_
    refine lv_aload_n hx hb dX0_greatestOfTable_5 rfl (lv_at hl 0 rfl) ?_
    refine lv_iload_n hx hb dX0_greatestOfTable_6 rfl (lv_at hl 1 rfl) ?_
    refine lv_iconst (v := (0 : Int32)) hx hb dX0_greatestOfTable_7 (by decide) ?_
    refine r_vcalli (As := [.int v1, .int (0 : Int32)]) (rest := [.int v3]) S hG hP hS mX0_valuesOn kX0_92 clX0 ho (tX0_valuesOn _ _ _ _ _ _ _ _ ho v1 (0 : Int32)) ⟨rfl, rfl⟩ (rm_ok (by decide) (by decide)) hm hl.1 rfl (Nat.le_of_ble_eq_true rfl) ⟨Nat.zero_le _, Nat.zero_le _⟩ dX0_greatestOfTable_8 (fun b9 μ8 H locs hm hP hS => ?_)
    refine b_icmp_ge (tgt := 53) S dX0_greatestOfTable_11 (by decide) hm (fun hm => ?_) (fun hm => ?_)
    · refine lv_iload_n hx hb dX0_greatestOfTable_53 rfl (lv_at hl 2 rfl) ?_
      exact r_iret S hr hG hP hS hm dX0_greatestOfTable_54
    · refine lv_iconst (v := (0 : Int32)) hx hb dX0_greatestOfTable_14 (by decide) ?_
      refine lv_istore (lv' := [(4, .int (0 : Int32)), (0, .ref (ad o)), (1, .int v1), (2, .int v2), (3, .int v3)]) hx hb dX0_greatestOfTable_15 hl (by decide) rfl (fun ls hl => ?_)
      exact wX0_greatestOfTable_17 S hr hG ho ih FU v1 v2 v3 (0 : Int32) μ8 hm H locs ls hP hS (lv_sub hl [1, 2, 3, 4, 0] rfl)
set_option maxHeartbeats 4000000 in
set_option maxRecDepth 100000 in
theorem wX0_greatestOfTable_0 (S : CallFix p m c cX0_greatestOfTable 5 s args TB RX0) (hr : meth.sig.returnType = (some .int) ∧ meth.locks = false) (hG : gok D cI cR n K L ad s) {o : Nat} (ho : isk n K o 0) {x : Int32 × Mem} : ∀ (v1 : Int32) (μ : Mem), fX0_greatestOfTable L o v1 μ = some x → WI p l e (rmL 2) s m args below meth c D cI cR n K L ad 5 x μ 0 [(0, .ref (ad o)), (1, .int v1)] [] := by
  have hx := S.1
  have hb := S.2.1
  intro v1 μ hm H locs ls hP hS hl
  unfold fX0_greatestOfTable at hm
  refine lv_iconst (v := (0 : Int32)) hx hb dX0_greatestOfTable_0 (by decide) ?_
  refine lv_istore_n (lv' := [(2, .int (0 : Int32)), (0, .ref (ad o)), (1, .int v1)]) hx hb dX0_greatestOfTable_1 rfl hl (by decide) rfl (fun ls hl => ?_)
  refine lv_iconst (v := (0 : Int32)) hx hb dX0_greatestOfTable_2 (by decide) ?_
  refine lv_istore_n (lv' := [(3, .int (0 : Int32)), (2, .int (0 : Int32)), (0, .ref (ad o)), (1, .int v1)]) hx hb dX0_greatestOfTable_3 rfl hl (by decide) rfl (fun ls hl => ?_)
  exact wX0_greatestOfTable_4 S hr hG ho FU v1 (0 : Int32) (0 : Int32) μ hm H locs ls hP hS (lv_sub hl [2, 3, 1, 0] rfl)
theorem tX0_greatestOfTable (l : Launch) (D : va_G) (cI cR : ClassId) (n : Nat) (K L ad : Nat → Nat) {o : Nat} (ho : isk n K o 0) (v1 : Int32) : Ci l yX0_greatestOfTable cX0_greatestOfTable 5 (some .int) (rmL 2) D cI cR n K L ad [.ref (ad o), .int v1] (fX0_greatestOfTable L o v1) := by
  refine Ci.ofW (by decide) (Nat.le_of_ble_eq_true rfl) ?_
  intro μ x hm p e s m args below meth c ls S hr hG hP hS hl
  exact wX0_greatestOfTable_0 S hr hG ho v1 μ hm _ _ ls hP hS hl
-- X0_sum
set_option maxHeartbeats 4000000 in
set_option maxRecDepth 100000 in
theorem wX0_sum_0 (S : CallFix p m c cX0_sum 4 s args TB RX0) (hr : meth.sig.returnType = (some .int) ∧ meth.locks = false) (hG : gok D cI cR n K L ad s) {o : Nat} (ho : isk n K o 0) {x : Int32 × Mem} : ∀ (v1 v2 : Int32) (μ : Mem), fX0_sum L o v1 v2 μ = some x → WI p l e (rmL 0) s m args below meth c D cI cR n K L ad 4 x μ 0 [(0, .ref (ad o)), (1, .int v1), (2, .int v2)] [] := by
  have hx := S.1
  have hb := S.2.1
  intro v1 v2 μ hm H locs ls hP hS hl
  unfold fX0_sum at hm
  refine lv_iload_n hx hb dX0_sum_0 rfl (lv_at hl 1 rfl) ?_
  refine lv_iload_n hx hb dX0_sum_1 rfl (lv_at hl 2 rfl) ?_
  refine lv_iadd hx hb dX0_sum_2 ?_
  refine r_top hm (fun a1 hm => ?_)
  refine lv_istore_n (lv' := [(3, .int a1), (0, .ref (ad o)), (1, .int v1), (2, .int v2)]) hx hb dX0_sum_3 rfl hl (by decide) rfl (fun ls hl => ?_)
  refine lv_iload_n hx hb dX0_sum_4 rfl (lv_at hl 0 rfl) ?_
  refine lv_aload_n hx hb dX0_sum_5 rfl (lv_at hl 1 rfl) ?_
  refine r_geti S hG hP ho clX0 fX0_6 kX0_29 dX0_sum_6 ?_
  refine b_icmp_ge (tgt := 16) S dX0_sum_9 (by decide) hm (fun hm => ?_) (fun hm => ?_)
  · refine lv_aload_n hx hb dX0_sum_16 rfl (lv_at hl 1 rfl) ?_
    refine r_geti S hG hP ho clX0 fX0_6 kX0_29 dX0_sum_17 ?_
    exact r_iret S hr hG hP hS hm dX0_sum_20
  · refine lv_iload_n hx hb dX0_sum_12 rfl (lv_at hl 0 rfl) ?_
    refine lv_goto (tgt := 20) hx hb dX0_sum_13 (by decide) ?_
    exact r_iret S hr hG hP hS hm dX0_sum_20
theorem tX0_sum (l : Launch) (D : va_G) (cI cR : ClassId) (n : Nat) (K L ad : Nat → Nat) {o : Nat} (ho : isk n K o 0) (v1 : Int32) (v2 : Int32) : Ci l yX0_sum cX0_sum 4 (some .int) (rmL 0) D cI cR n K L ad [.ref (ad o), .int v1, .int v2] (fX0_sum L o v1 v2) := by
  refine Ci.ofW (by decide) (Nat.le_of_ble_eq_true rfl) ?_
  intro μ x hm p e s m args below meth c ls S hr hG hP hS hl
  exact wX0_sum_0 S hr hG ho v1 v2 μ hm _ _ ls hP hS hl
-- X0_isShut
set_option maxHeartbeats 4000000 in
set_option maxRecDepth 100000 in
theorem wX0_isShut_0 (S : CallFix p m c cX0_isShut 3 s args TB RX0) (hr : meth.sig.returnType = (some .boolean) ∧ meth.locks = false) (hG : gok D cI cR n K L ad s) {o : Nat} (ho : isk n K o 0) {x : Int32 × Mem} : ∀ (v1 v2 : Int32) (μ : Mem), fX0_isShut L o v1 v2 μ = some x → WI p l e (rmL 2) s m args below meth c D cI cR n K L ad 3 x μ 0 [(0, .ref (ad o)), (1, .int v1), (2, .int v2)] [] := by
  have hx := S.1
  have hb := S.2.1
  intro v1 v2 μ hm H locs ls hP hS hl
  unfold fX0_isShut at hm
  refine lv_aload_n hx hb dX0_isShut_0 rfl (lv_at hl 0 rfl) ?_
  refine lv_aload_n hx hb dX0_isShut_1 rfl (lv_at hl 0 rfl) ?_
  refine r_vcalli (As := []) (rest := [.ref (ad o)]) S hG hP hS mX0_constant kX0_121 clX0 ho (tX0_constant _ _ _ _ _ _ _ _ ho) ⟨rfl, rfl⟩ (rm_ok (by decide) (by decide)) hm hl.1 rfl (Nat.le_of_ble_eq_true rfl) ⟨Nat.zero_le _, Nat.zero_le _⟩ dX0_isShut_2 (fun b2 μ1 H locs hm hP hS => ?_)
  refine lv_aload_n hx hb dX0_isShut_5 rfl (lv_at hl 0 rfl) ?_
  refine lv_iload_n hx hb dX0_isShut_6 rfl (lv_at hl 1 rfl) ?_
  refine lv_iload_n hx hb dX0_isShut_7 rfl (lv_at hl 2 rfl) ?_
  refine r_vcalli (As := [.int v1, .int v2]) (rest := [.int b2, .ref (ad o)]) S hG hP hS mX0_singleCost kX0_102 clX0 ho (tX0_singleCost _ _ _ _ _ _ _ _ ho v1 v2) ⟨rfl, rfl⟩ (rm_ok (by decide) (by decide)) hm hl.1 rfl (Nat.le_of_ble_eq_true rfl) ⟨Nat.zero_le _, Nat.zero_le _⟩ dX0_isShut_8 (fun b4 μ3 H locs hm hP hS => ?_)
  refine r_vcalli (As := [.int b2, .int b4]) (rest := []) S hG hP hS mX0_sum kX0_125 clX0 ho (tX0_sum _ _ _ _ _ _ _ _ ho b2 b4) ⟨rfl, rfl⟩ (rm_ok (by decide) (by decide)) hm hl.1 rfl (Nat.le_of_ble_eq_true rfl) ⟨Nat.zero_le _, Nat.zero_le _⟩ dX0_isShut_11 (fun b6 μ5 H locs hm hP hS => ?_)
  refine lv_aload_n hx hb dX0_isShut_14 rfl (lv_at hl 0 rfl) ?_
  refine r_geti S hG hP ho clX0 fX0_6 kX0_29 dX0_isShut_15 ?_
  refine b_icmp_ne (tgt := 25) S dX0_isShut_18 (by decide) hm (fun hm => ?_) (fun hm => ?_)
  · refine lv_iconst (v := (0 : Int32)) hx hb dX0_isShut_25 (by decide) ?_
    exact r_zretC S hr hG hP hS rfl hm dX0_isShut_26
  · refine lv_iconst (v := (1 : Int32)) hx hb dX0_isShut_21 (by decide) ?_
    refine lv_goto (tgt := 26) hx hb dX0_isShut_22 (by decide) ?_
    exact r_zretC S hr hG hP hS rfl hm dX0_isShut_26
theorem tX0_isShut (l : Launch) (D : va_G) (cI cR : ClassId) (n : Nat) (K L ad : Nat → Nat) {o : Nat} (ho : isk n K o 0) (v1 : Int32) (v2 : Int32) : Ci l yX0_isShut cX0_isShut 3 (some .boolean) (rmL 2) D cI cR n K L ad [.ref (ad o), .int v1, .int v2] (fX0_isShut L o v1 v2) := by
  refine Ci.ofW (by decide) (Nat.le_of_ble_eq_true rfl) ?_
  intro μ x hm p e s m args below meth c ls S hr hG hP hS hl
  exact wX0_isShut_0 S hr hG ho v1 v2 μ hm _ _ ls hP hS hl
-- X0_shutOf
set_option maxHeartbeats 4000000 in
set_option maxRecDepth 100000 in
theorem wX0_shutOf_28 (S : CallFix p m c cX0_shutOf 4 s args TB RX0) (hr : meth.sig.returnType = (some .int) ∧ meth.locks = false) (hG : gok D cI cR n K L ad s) {o : Nat} (ho : isk n K o 0) {x : Int32 × Mem} {self4 : Int32 → Int32 → Int32 → Mem → Option (Int32 × Mem)} (hs4 : ∀ (v1 v2 v3 : Int32) (μ : Mem), self4 v1 v2 v3 μ = some x → WI p l e (rmL 3) s m args below meth c D cI cR n K L ad 4 x μ 4 [(0, .ref (ad o)), (1, .int v1), (2, .int v2), (3, .int v3)] []) : ∀ (v1 v2 v3 : Int32) (μ : Mem), fX0_shutOf_28 L o self4 v1 v2 v3 μ = some x → WI p l e (rmL 3) s m args below meth c D cI cR n K L ad 4 x μ 28 [(0, .ref (ad o)), (1, .int v1), (2, .int v2), (3, .int v3)] [] := by
  have hx := S.1
  have hb := S.2.1
  intro v1 v2 v3 μ hm H locs ls hP hS hl
  unfold fX0_shutOf_28 at hm
  refine r_iinc (b := (1 : Int32)) (k := 3) S hm dX0_shutOf_28 hl rfl (by decide) (by decide) (fun a1 ls hm hl => ?_)
  have hl : lv_has ls 4 [(3, .int a1), (0, .ref (ad o)), (1, .int v1), (2, .int v2)] := hl
  refine lv_goto (tgt := 4) hx hb dX0_shutOf_31 (by decide) ?_
  exact hs4 v1 v2 a1 μ hm H locs ls hP hS (lv_sub hl [1, 2, 3, 0] rfl)
set_option maxHeartbeats 4000000 in
set_option maxRecDepth 100000 in
theorem wX0_shutOf_4 (S : CallFix p m c cX0_shutOf 4 s args TB RX0) (hr : meth.sig.returnType = (some .int) ∧ meth.locks = false) (hG : gok D cI cR n K L ad s) {o : Nat} (ho : isk n K o 0) {x : Int32 × Mem} : ∀ (k : Nat) (v1 v2 v3 : Int32) (μ : Mem), fX0_shutOf_4 L o k v1 v2 v3 μ = some x → WI p l e (rmL 3) s m args below meth c D cI cR n K L ad 4 x μ 4 [(0, .ref (ad o)), (1, .int v1), (2, .int v2), (3, .int v3)] [] := by
  have hx := S.1
  have hb := S.2.1
  intro k
  induction k with
  | zero => intro v1 v2 v3 μ hm; exact absurd (show none = some x from hm) (fun h => by cases h)
  | succ k ih =>
    intro v1 v2 v3 μ hm H locs ls hP hS hl
    have hm : fX0_shutOf_4_b L o (fX0_shutOf_4 L o k) v1 v2 v3 μ = some x := hm
    unfold fX0_shutOf_4_b at hm
    refine lv_iload_n hx hb dX0_shutOf_4 rfl (lv_at hl 3 rfl) ?_
    refine lv_aload_n hx hb dX0_shutOf_5 rfl (lv_at hl 0 rfl) ?_
    refine lv_iload_n hx hb dX0_shutOf_6 rfl (lv_at hl 1 rfl) ?_
    refine r_vcalli (As := [.int v1]) (rest := [.int v3]) S hG hP hS mX0_valuesOf kX0_65 clX0 ho (tX0_valuesOf _ _ _ _ _ _ _ _ ho v1) ⟨rfl, rfl⟩ (rm_ok (by decide) (by decide)) hm hl.1 rfl (Nat.le_of_ble_eq_true rfl) ⟨Nat.zero_le _, Nat.zero_le _⟩ dX0_shutOf_7 (fun b3 μ2 H locs hm hP hS => ?_)
    refine b_icmp_ge (tgt := 34) S dX0_shutOf_10 (by decide) hm (fun hm => ?_) (fun hm => ?_)
    · refine lv_iload_n hx hb dX0_shutOf_34 rfl (lv_at hl 2 rfl) ?_
      exact r_iret S hr hG hP hS hm dX0_shutOf_35
    · refine lv_aload_n hx hb dX0_shutOf_13 rfl (lv_at hl 0 rfl) ?_
      refine lv_iload_n hx hb dX0_shutOf_14 rfl (lv_at hl 1 rfl) ?_
      refine lv_iload_n hx hb dX0_shutOf_15 rfl (lv_at hl 3 rfl) ?_
      refine r_vcalli (As := [.int v1, .int v3]) (rest := []) S hG hP hS mX0_isShut kX0_128 clX0 ho (tX0_isShut _ _ _ _ _ _ _ _ ho v1 v3) ⟨rfl, rfl⟩ (rm_ok (by decide) (by decide)) hm hl.1 rfl (Nat.le_of_ble_eq_true rfl) ⟨Nat.zero_le _, Nat.zero_le _⟩ dX0_shutOf_16 (fun b5 μ4 H locs hm hP hS => ?_)
      refine b_if_eq (tgt := 28) S dX0_shutOf_19 (by decide) hm (fun hm => ?_) (fun hm => ?_)
      · exact wX0_shutOf_28 S hr hG ho ih v1 v2 v3 μ4 hm H locs ls hP hS (lv_sub hl [0, 1, 2, 3] rfl)
      · refine lv_iload_n hx hb dX0_shutOf_22 rfl (lv_at hl 2 rfl) ?_
        refine lv_iconst (v := (1 : Int32)) hx hb dX0_shutOf_23 (by decide) ?_
        refine lv_iload_n hx hb dX0_shutOf_24 rfl (lv_at hl 3 rfl) ?_
        refine lv_ishl hx hb dX0_shutOf_25 ?_
        refine lv_ior hx hb dX0_shutOf_26 ?_
        refine r_top hm (fun a6 hm => ?_)
        refine lv_istore_n (lv' := [(2, .int a6), (0, .ref (ad o)), (1, .int v1), (3, .int v3)]) hx hb dX0_shutOf_27 rfl hl (by decide) rfl (fun ls hl => ?_)
        exact wX0_shutOf_28 S hr hG ho ih v1 a6 v3 μ4 hm H locs ls hP hS (lv_sub hl [1, 2, 0, 3] rfl)
set_option maxHeartbeats 4000000 in
set_option maxRecDepth 100000 in
theorem wX0_shutOf_0 (S : CallFix p m c cX0_shutOf 4 s args TB RX0) (hr : meth.sig.returnType = (some .int) ∧ meth.locks = false) (hG : gok D cI cR n K L ad s) {o : Nat} (ho : isk n K o 0) {x : Int32 × Mem} : ∀ (v1 : Int32) (μ : Mem), fX0_shutOf L o v1 μ = some x → WI p l e (rmL 3) s m args below meth c D cI cR n K L ad 4 x μ 0 [(0, .ref (ad o)), (1, .int v1)] [] := by
  have hx := S.1
  have hb := S.2.1
  intro v1 μ hm H locs ls hP hS hl
  unfold fX0_shutOf at hm
  refine lv_iconst (v := (0 : Int32)) hx hb dX0_shutOf_0 (by decide) ?_
  refine lv_istore_n (lv' := [(2, .int (0 : Int32)), (0, .ref (ad o)), (1, .int v1)]) hx hb dX0_shutOf_1 rfl hl (by decide) rfl (fun ls hl => ?_)
  refine lv_iconst (v := (0 : Int32)) hx hb dX0_shutOf_2 (by decide) ?_
  refine lv_istore_n (lv' := [(3, .int (0 : Int32)), (2, .int (0 : Int32)), (0, .ref (ad o)), (1, .int v1)]) hx hb dX0_shutOf_3 rfl hl (by decide) rfl (fun ls hl => ?_)
  exact wX0_shutOf_4 S hr hG ho FU v1 (0 : Int32) (0 : Int32) μ hm H locs ls hP hS (lv_sub hl [2, 3, 1, 0] rfl)
theorem tX0_shutOf (l : Launch) (D : va_G) (cI cR : ClassId) (n : Nat) (K L ad : Nat → Nat) {o : Nat} (ho : isk n K o 0) (v1 : Int32) : Ci l yX0_shutOf cX0_shutOf 4 (some .int) (rmL 3) D cI cR n K L ad [.ref (ad o), .int v1] (fX0_shutOf L o v1) := by
  refine Ci.ofW (by decide) (Nat.le_of_ble_eq_true rfl) ?_
  intro μ x hm p e s m args below meth c ls S hr hG hP hS hl
  exact wX0_shutOf_0 S hr hG ho v1 μ hm _ _ ls hP hS hl
-- X0_shutInAll
set_option maxHeartbeats 4000000 in
set_option maxRecDepth 100000 in
theorem wX0_shutInAll_4 (S : CallFix p m c cX0_shutInAll 3 s args TB RX0) (hr : meth.sig.returnType = (some .int) ∧ meth.locks = false) (hG : gok D cI cR n K L ad s) {o : Nat} (ho : isk n K o 0) {x : Int32 × Mem} : ∀ (k : Nat) (v1 v2 : Int32) (μ : Mem), fX0_shutInAll_4 L o k v1 v2 μ = some x → WI p l e (rmL 4) s m args below meth c D cI cR n K L ad 3 x μ 4 [(0, .ref (ad o)), (1, .int v1), (2, .int v2)] [] := by
  have hx := S.1
  have hb := S.2.1
  intro k
  induction k with
  | zero => intro v1 v2 μ hm; exact absurd (show none = some x from hm) (fun h => by cases h)
  | succ k ih =>
    intro v1 v2 μ hm H locs ls hP hS hl
    have hm : fX0_shutInAll_4_b L o (fX0_shutInAll_4 L o k) v1 v2 μ = some x := hm
    unfold fX0_shutInAll_4_b at hm
    refine lv_iload_n hx hb dX0_shutInAll_4 rfl (lv_at hl 2 rfl) ?_
    refine lv_aload_n hx hb dX0_shutInAll_5 rfl (lv_at hl 0 rfl) ?_
    refine r_geti S hG hP ho clX0 fX0_4 kX0_33 dX0_shutInAll_6 ?_
    refine b_icmp_ge (tgt := 29) S dX0_shutInAll_9 (by decide) hm (fun hm => ?_) (fun hm => ?_)
    · refine lv_iload_n hx hb dX0_shutInAll_29 rfl (lv_at hl 1 rfl) ?_
      exact r_iret S hr hG hP hS hm dX0_shutInAll_30
    · refine lv_iload_n hx hb dX0_shutInAll_12 rfl (lv_at hl 1 rfl) ?_
      refine lv_aload_n hx hb dX0_shutInAll_13 rfl (lv_at hl 0 rfl) ?_
      refine lv_iload_n hx hb dX0_shutInAll_14 rfl (lv_at hl 2 rfl) ?_
      refine r_vcalli (As := [.int v2]) (rest := [.int v1]) S hG hP hS mX0_shutOf kX0_131 clX0 ho (tX0_shutOf _ _ _ _ _ _ _ _ ho v2) ⟨rfl, rfl⟩ (rm_ok (by decide) (by decide)) hm hl.1 rfl (Nat.le_of_ble_eq_true rfl) ⟨Nat.zero_le _, Nat.zero_le _⟩ dX0_shutInAll_15 (fun b2 μ1 H locs hm hP hS => ?_)
      refine r_scalli (As := [.int b2]) (rest := [.int v1]) S hG hP hS mJ6_bitCount_0f7a4 kX0_134 (tJ6_bitCount_0f7a4 _ _ _ _ _ _ _ _ b2) ⟨rfl, rfl⟩ (rm_ok (by decide) (by decide)) hm hl.1 rfl (Nat.le_of_ble_eq_true rfl) ⟨Nat.zero_le _, Nat.zero_le _⟩ dX0_shutInAll_18 (fun b4 μ3 H locs hm hP hS => ?_)
      refine lv_iadd hx hb dX0_shutInAll_21 ?_
      refine r_top hm (fun a5 hm => ?_)
      refine lv_istore_n (lv' := [(1, .int a5), (0, .ref (ad o)), (2, .int v2)]) hx hb dX0_shutInAll_22 rfl hl (by decide) rfl (fun ls hl => ?_)
      refine r_iinc (b := (1 : Int32)) (k := 2) S hm dX0_shutInAll_23 hl rfl (by decide) (by decide) (fun a6 ls hm hl => ?_)
      have hl : lv_has ls 3 [(2, .int a6), (1, .int a5), (0, .ref (ad o))] := hl
      refine lv_goto (tgt := 4) hx hb dX0_shutInAll_26 (by decide) ?_
      exact ih a5 a6 μ3 hm H locs ls hP hS (lv_sub hl [2, 1, 0] rfl)
set_option maxHeartbeats 4000000 in
set_option maxRecDepth 100000 in
theorem wX0_shutInAll_0 (S : CallFix p m c cX0_shutInAll 3 s args TB RX0) (hr : meth.sig.returnType = (some .int) ∧ meth.locks = false) (hG : gok D cI cR n K L ad s) {o : Nat} (ho : isk n K o 0) {x : Int32 × Mem} : ∀ (μ : Mem), fX0_shutInAll L o μ = some x → WI p l e (rmL 4) s m args below meth c D cI cR n K L ad 3 x μ 0 [(0, .ref (ad o))] [] := by
  have hx := S.1
  have hb := S.2.1
  intro μ hm H locs ls hP hS hl
  unfold fX0_shutInAll at hm
  refine lv_iconst (v := (0 : Int32)) hx hb dX0_shutInAll_0 (by decide) ?_
  refine lv_istore_n (lv' := [(1, .int (0 : Int32)), (0, .ref (ad o))]) hx hb dX0_shutInAll_1 rfl hl (by decide) rfl (fun ls hl => ?_)
  refine lv_iconst (v := (0 : Int32)) hx hb dX0_shutInAll_2 (by decide) ?_
  refine lv_istore_n (lv' := [(2, .int (0 : Int32)), (1, .int (0 : Int32)), (0, .ref (ad o))]) hx hb dX0_shutInAll_3 rfl hl (by decide) rfl (fun ls hl => ?_)
  exact wX0_shutInAll_4 S hr hG ho FU (0 : Int32) (0 : Int32) μ hm H locs ls hP hS (lv_sub hl [2, 1, 0] rfl)
theorem tX0_shutInAll (l : Launch) (D : va_G) (cI cR : ClassId) (n : Nat) (K L ad : Nat → Nat) {o : Nat} (ho : isk n K o 0) : Ci l yX0_shutInAll cX0_shutInAll 3 (some .int) (rmL 4) D cI cR n K L ad [.ref (ad o)] (fX0_shutInAll L o) := by
  refine Ci.ofW (by decide) (Nat.le_of_ble_eq_true rfl) ?_
  intro μ x hm p e s m args below meth c ls S hr hG hP hS hl
  exact wX0_shutInAll_0 S hr hG ho μ hm _ _ ls hP hS hl
-- X0_costBeside
set_option maxHeartbeats 4000000 in
set_option maxRecDepth 100000 in
theorem wX0_costBeside_92 (S : CallFix p m c cX0_costBeside 9 s args TB RX0) (hr : meth.sig.returnType = (some .int) ∧ meth.locks = false) (hG : gok D cI cR n K L ad s) {o : Nat} {r1 : Nat} (ho : isk n K o 0) (h1 : isk n K r1 3) {x : Int32 × Mem} {self18 : Int32 → Int32 → Int32 → Int32 → Int32 → Int32 → Mem → Option (Int32 × Mem)} (hs18 : ∀ (v2 v3 v4 v5 v6 v7 : Int32) (μ : Mem), self18 v2 v3 v4 v5 v6 v7 μ = some x → WI p l e (rmL 1) s m args below meth c D cI cR n K L ad 9 x μ 18 [(0, .ref (ad o)), (1, .ref (ad r1)), (2, .int v2), (3, .int v3), (4, .int v4), (5, .int v5), (6, .int v6), (7, .int v7)] []) : ∀ (v2 v3 v4 v5 v6 v7 : Int32) (μ : Mem), fX0_costBeside_92 L o r1 self18 v2 v3 v4 v5 v6 v7 μ = some x → WI p l e (rmL 1) s m args below meth c D cI cR n K L ad 9 x μ 92 [(0, .ref (ad o)), (1, .ref (ad r1)), (2, .int v2), (3, .int v3), (4, .int v4), (5, .int v5), (6, .int v6), (7, .int v7)] [] := by
  have hx := S.1
  have hb := S.2.1
  intro v2 v3 v4 v5 v6 v7 μ hm H locs ls hP hS hl
  unfold fX0_costBeside_92 at hm
  refine r_iinc (b := (1 : Int32)) (k := 7) S hm dX0_costBeside_92 hl rfl (by decide) (by decide) (fun a1 ls hm hl => ?_)
  have hl : lv_has ls 9 [(7, .int a1), (0, .ref (ad o)), (1, .ref (ad r1)), (2, .int v2), (3, .int v3), (4, .int v4), (5, .int v5), (6, .int v6)] := hl
  refine lv_goto (tgt := 18) hx hb dX0_costBeside_95 (by decide) ?_
  exact hs18 v2 v3 v4 v5 v6 a1 μ hm H locs ls hP hS (lv_sub hl [1, 2, 3, 4, 5, 6, 7, 0] rfl)
set_option maxHeartbeats 4000000 in
set_option maxRecDepth 100000 in
theorem wX0_costBeside_18 (S : CallFix p m c cX0_costBeside 9 s args TB RX0) (hr : meth.sig.returnType = (some .int) ∧ meth.locks = false) (hG : gok D cI cR n K L ad s) {o : Nat} {r1 : Nat} (ho : isk n K o 0) (h1 : isk n K r1 3) {x : Int32 × Mem} : ∀ (k : Nat) (v2 v3 v4 v5 v6 v7 : Int32) (μ : Mem), fX0_costBeside_18 L o r1 k v2 v3 v4 v5 v6 v7 μ = some x → WI p l e (rmL 1) s m args below meth c D cI cR n K L ad 9 x μ 18 [(0, .ref (ad o)), (1, .ref (ad r1)), (2, .int v2), (3, .int v3), (4, .int v4), (5, .int v5), (6, .int v6), (7, .int v7)] [] := by
  have hx := S.1
  have hb := S.2.1
  intro k
  induction k with
  | zero => intro v2 v3 v4 v5 v6 v7 μ hm; exact absurd (show none = some x from hm) (fun h => by cases h)
  | succ k ih =>
    intro v2 v3 v4 v5 v6 v7 μ hm H locs ls hP hS hl
    have hm : fX0_costBeside_18_b L o r1 (fX0_costBeside_18 L o r1 k) v2 v3 v4 v5 v6 v7 μ = some x := hm
    unfold fX0_costBeside_18_b at hm
    refine lv_iload hx hb dX0_costBeside_18 (lv_at hl 7 rfl) ?_
    refine lv_aload_n hx hb dX0_costBeside_20 rfl (lv_at hl 0 rfl) ?_
    refine r_geti S hG hP ho clX0 fX0_5 kX0_36 dX0_costBeside_21 ?_
    refine b_icmp_ge (tgt := 98) S dX0_costBeside_24 (by decide) hm (fun hm => ?_) (fun hm => ?_)
    · refine lv_iload hx hb dX0_costBeside_98 (lv_at hl 6 rfl) ?_
      exact r_iret S hr hG hP hS hm dX0_costBeside_100
    · refine lv_aload_n hx hb dX0_costBeside_27 rfl (lv_at hl 0 rfl) ?_
      refine r_getr S hG hP ho clX0 fX0_1 kX0_20 dX0_costBeside_28 ?_
      refine lv_iload hx hb dX0_costBeside_31 (lv_at hl 7 rfl) ?_
      refine r_vcalli (As := [.int v7]) (rest := []) S hG hP hS mX3_get kX0_86 clX3 (chX0_1 hG ho) (tX3_get _ _ _ _ _ _ _ _ (chX0_1 hG ho) v7) ⟨rfl, rfl⟩ (rm_ok (by decide) (by decide)) hm hl.1 rfl (Nat.le_of_ble_eq_true rfl) ⟨Nat.zero_le _, Nat.zero_le _⟩ dX0_costBeside_33 (fun b3 μ2 H locs hm hP hS => ?_)
      refine lv_istore (lv' := [(8, .int b3), (0, .ref (ad o)), (1, .ref (ad r1)), (2, .int v2), (3, .int v3), (4, .int v4), (5, .int v5), (6, .int v6), (7, .int v7)]) hx hb dX0_costBeside_36 hl (by decide) rfl (fun ls hl => ?_)
      refine lv_aload_n hx hb dX0_costBeside_38 rfl (lv_at hl 1 rfl) ?_
      refine r_getr S hG hP ho clX0 fX0_2 kX0_23 dX0_costBeside_39 ?_
      refine lv_iload hx hb dX0_costBeside_42 (lv_at hl 8 rfl) ?_
      refine r_vcalli (As := [.int v7]) (rest := []) S hG hP hS mX3_get kX0_86 clX3 (chX0_2 hG ho) (tX3_get _ _ _ _ _ _ _ _ (chX0_2 hG ho) v7) ⟨rfl, rfl⟩ (rm_ok (by decide) (by decide)) hm hl.1 rfl (Nat.le_of_ble_eq_true rfl) ⟨Nat.zero_le _, Nat.zero_le _⟩ dX0_costBeside_44 (fun b5 μ4 H locs hm hP hS => ?_)
      refine lv_iload_n hx hb dX0_costBeside_47 rfl (lv_at hl 4 rfl) ?_
      refine b_icmp_ne (tgt := 92) S dX0_costBeside_48 (by decide) hm (fun hm => ?_) (fun hm => ?_)
      · exact wX0_costBeside_92 S hr hG ho h1 ih v2 v3 v4 v5 v6 v7 μ4 hm H locs ls hP hS (lv_sub hl [1, 2, 3, 4, 5, 6, 7, 8] rfl)
      · refine lv_iload hx hb dX0_costBeside_51 (lv_at hl 0 rfl) ?_
        refine lv_iload_n hx hb dX0_costBeside_53 rfl (lv_at hl 3 rfl) ?_
        refine b_icmp_ge (tgt := 92) S dX0_costBeside_54 (by decide) hm (fun hm => ?_) (fun hm => ?_)
        · exact wX0_costBeside_92 S hr hG ho h1 ih v2 v3 v4 v5 v6 v7 μ4 hm H locs ls hP hS (lv_sub hl [1, 2, 3, 4, 5, 6, 7, 8] rfl)
        · refine lv_iload hx hb dX0_costBeside_57 (lv_at hl 8 rfl) ?_
          refine lv_iload hx hb dX0_costBeside_59 (lv_at hl 6 rfl) ?_
          refine b_icmp_eq (tgt := 92) S dX0_costBeside_61 (by decide) hm (fun hm => ?_) (fun hm => ?_)
          · exact wX0_costBeside_92 S hr hG ho h1 ih v2 v3 v4 v5 v6 v7 μ4 hm H locs ls hP hS (lv_sub hl [1, 2, 3, 4, 5, 6, 7, 8] rfl)
          · refine lv_aload_n hx hb dX0_costBeside_64 rfl (lv_at hl 1 rfl) ?_
            refine lv_iload hx hb dX0_costBeside_65 (lv_at hl 7 rfl) ?_
            refine lv_aload_n hx hb dX0_costBeside_67 rfl (lv_at hl 1 rfl) ?_
            refine r_getr S hG hP ho clX0 fX0_3 kX0_26 dX0_costBeside_68 ?_
            refine lv_iload hx hb dX0_costBeside_71 (lv_at hl 8 rfl) ?_
            refine lv_aload_n hx hb dX0_costBeside_73 rfl (lv_at hl 2 rfl) ?_
            refine lv_iload hx hb dX0_costBeside_74 (lv_at hl 0 rfl) ?_
            refine r_vcalli (As := [.int b3]) (rest := [.int v7, .ref (ad (o + 7)), .int v6, .ref (ad o)]) S hG hP hS mX3_get kX0_86 clX3 h1 (tX3_get _ _ _ _ _ _ _ _ h1 b3) ⟨rfl, rfl⟩ (rm_ok (by decide) (by decide)) hm hl.1 rfl (Nat.le_of_ble_eq_true rfl) ⟨Nat.zero_le _, Nat.zero_le _⟩ dX0_costBeside_76 (fun b7 μ6 H locs hm hP hS => ?_)
            refine lv_iload hx hb dX0_costBeside_79 (lv_at hl 5 rfl) ?_
            refine r_scalli (As := [.int v7, .int b7, .int v4]) (rest := [.ref (ad (o + 7)), .int v6, .ref (ad o)]) S hG hP hS mX0_pairAt kX0_98 (tX0_pairAt _ _ _ _ _ _ _ _ v7 b7 v4) ⟨rfl, rfl⟩ (rm_ok (by decide) (by decide)) hm hl.1 rfl (Nat.le_of_ble_eq_true rfl) ⟨Nat.zero_le _, Nat.zero_le _⟩ dX0_costBeside_81 (fun b9 μ8 H locs hm hP hS => ?_)
            refine r_vcalli (As := [.int b9]) (rest := [.int v6, .ref (ad o)]) S hG hP hS mX3_get kX0_86 clX3 (chX0_3 hG ho) (tX3_get _ _ _ _ _ _ _ _ (chX0_3 hG ho) b9) ⟨rfl, rfl⟩ (rm_ok (by decide) (by decide)) hm hl.1 rfl (Nat.le_of_ble_eq_true rfl) ⟨Nat.zero_le _, Nat.zero_le _⟩ dX0_costBeside_84 (fun b11 μ10 H locs hm hP hS => ?_)
            refine r_vcalli (As := [.int v6, .int b11]) (rest := []) S hG hP hS mX0_sum kX0_125 clX0 ho (tX0_sum _ _ _ _ _ _ _ _ ho v6 b11) ⟨rfl, rfl⟩ (rm_ok (by decide) (by decide)) hm hl.1 rfl (Nat.le_of_ble_eq_true rfl) ⟨Nat.zero_le _, Nat.zero_le _⟩ dX0_costBeside_87 (fun b13 μ12 H locs hm hP hS => ?_)
            refine lv_istore (lv' := [(6, .int b13), (8, .int b3), (0, .ref (ad o)), (1, .ref (ad r1)), (2, .int v2), (3, .int v3), (4, .int v4), (5, .int v5), (7, .int v7)]) hx hb dX0_costBeside_90 hl (by decide) rfl (fun ls hl => ?_)
            exact wX0_costBeside_92 S hr hG ho h1 ih v2 v3 v4 v5 b13 v7 μ12 hm H locs ls hP hS (lv_sub hl [2, 3, 4, 5, 6, 7, 0, 8] rfl)
set_option maxHeartbeats 4000000 in
set_option maxRecDepth 100000 in
theorem wX0_costBeside_0 (S : CallFix p m c cX0_costBeside 9 s args TB RX0) (hr : meth.sig.returnType = (some .int) ∧ meth.locks = false) (hG : gok D cI cR n K L ad s) {o : Nat} {r1 : Nat} (ho : isk n K o 0) (h1 : isk n K r1 3) {x : Int32 × Mem} : ∀ (v2 v3 v4 v5 : Int32) (μ : Mem), fX0_costBeside L o r1 v2 v3 v4 v5 μ = some x → WI p l e (rmL 1) s m args below meth c D cI cR n K L ad 9 x μ 0 [(0, .ref (ad o)), (1, .ref (ad r1)), (2, .int v2), (3, .int v3), (4, .int v4), (5, .int v5)] [] := by
  have hx := S.1
  have hb := S.2.1
  intro v2 v3 v4 v5 μ hm H locs ls hP hS hl
  unfold fX0_costBeside at hm
  refine lv_aload_n hx hb dX0_costBeside_0 rfl (lv_at hl 0 rfl) ?_
  refine r_getr S hG hP ho clX0 fX0_3 kX0_26 dX0_costBeside_1 ?_
  refine lv_iload_n hx hb dX0_costBeside_4 rfl (lv_at hl 3 rfl) ?_
  refine lv_iload hx hb dX0_costBeside_5 (lv_at hl 4 rfl) ?_
  refine r_scalli (As := [.int v3, .int v4]) (rest := [.ref (ad (o + 7))]) S hG hP hS mX0_singleAt kX0_95 (tX0_singleAt _ _ _ _ _ _ _ _ v3 v4) ⟨rfl, rfl⟩ (rm_ok (by decide) (by decide)) hm hl.1 rfl (Nat.le_of_ble_eq_true rfl) ⟨Nat.zero_le _, Nat.zero_le _⟩ dX0_costBeside_7 (fun b15 μ14 H locs hm hP hS => ?_)
  refine r_vcalli (As := [.int b15]) (rest := []) S hG hP hS mX3_get kX0_86 clX3 (chX0_3 hG ho) (tX3_get _ _ _ _ _ _ _ _ (chX0_3 hG ho) b15) ⟨rfl, rfl⟩ (rm_ok (by decide) (by decide)) hm hl.1 rfl (Nat.le_of_ble_eq_true rfl) ⟨Nat.zero_le _, Nat.zero_le _⟩ dX0_costBeside_10 (fun b17 μ16 H locs hm hP hS => ?_)
  refine lv_istore (lv' := [(6, .int b17), (0, .ref (ad o)), (1, .ref (ad r1)), (2, .int v2), (3, .int v3), (4, .int v4), (5, .int v5)]) hx hb dX0_costBeside_13 hl (by decide) rfl (fun ls hl => ?_)
  refine lv_iconst (v := (0 : Int32)) hx hb dX0_costBeside_15 (by decide) ?_
  refine lv_istore (lv' := [(7, .int (0 : Int32)), (6, .int b17), (0, .ref (ad o)), (1, .ref (ad r1)), (2, .int v2), (3, .int v3), (4, .int v4), (5, .int v5)]) hx hb dX0_costBeside_16 hl (by decide) rfl (fun ls hl => ?_)
  exact wX0_costBeside_18 S hr hG ho h1 FU v2 v3 v4 v5 b17 (0 : Int32) μ16 hm H locs ls hP hS (lv_sub hl [2, 3, 4, 5, 6, 7, 1, 0] rfl)
theorem tX0_costBeside (l : Launch) (D : va_G) (cI cR : ClassId) (n : Nat) (K L ad : Nat → Nat) {o : Nat} (ho : isk n K o 0) {r1 : Nat} (h1 : isk n K r1 3) (v2 : Int32) (v3 : Int32) (v4 : Int32) (v5 : Int32) : Ci l yX0_costBeside cX0_costBeside 9 (some .int) (rmL 1) D cI cR n K L ad [.ref (ad o), .ref (ad r1), .int v2, .int v3, .int v4, .int v5] (fX0_costBeside L o r1 v2 v3 v4 v5) := by
  refine Ci.ofW (by decide) (Nat.le_of_ble_eq_true rfl) ?_
  intro μ x hm p e s m args below meth c ls S hr hG hP hS hl
  exact wX0_costBeside_0 S hr hG ho h1 v2 v3 v4 v5 μ hm _ _ ls hP hS hl
-- X0_totalOf
set_option maxHeartbeats 4000000 in
set_option maxRecDepth 100000 in
theorem wX0_totalOf_7 (S : CallFix p m c cX0_totalOf 4 s args TB RX0) (hr : meth.sig.returnType = (some .int) ∧ meth.locks = false) (hG : gok D cI cR n K L ad s) {o : Nat} {r1 : Nat} (ho : isk n K o 0) (h1 : isk n K r1 3) {x : Int32 × Mem} : ∀ (k : Nat) (v2 v3 : Int32) (μ : Mem), fX0_totalOf_7 L o r1 k v2 v3 μ = some x → WI p l e (rmL 2) s m args below meth c D cI cR n K L ad 4 x μ 7 [(0, .ref (ad o)), (1, .ref (ad r1)), (2, .int v2), (3, .int v3)] [] := by
  have hx := S.1
  have hb := S.2.1
  intro k
  induction k with
  | zero => intro v2 v3 μ hm; exact absurd (show none = some x from hm) (fun h => by cases h)
  | succ k ih =>
    intro v2 v3 μ hm H locs ls hP hS hl
    have hm : fX0_totalOf_7_b L o r1 (fX0_totalOf_7 L o r1 k) v2 v3 μ = some x := hm
    unfold fX0_totalOf_7_b at hm
    refine lv_iload_n hx hb dX0_totalOf_7 rfl (lv_at hl 3 rfl) ?_
    refine lv_aload_n hx hb dX0_totalOf_8 rfl (lv_at hl 0 rfl) ?_
    refine r_geti S hG hP ho clX0 fX0_4 kX0_33 dX0_totalOf_9 ?_
    refine b_icmp_ge (tgt := 40) S dX0_totalOf_12 (by decide) hm (fun hm => ?_) (fun hm => ?_)
    · refine lv_iload_n hx hb dX0_totalOf_40 rfl (lv_at hl 2 rfl) ?_
      exact r_iret S hr hG hP hS hm dX0_totalOf_41
    · refine lv_aload_n hx hb dX0_totalOf_15 rfl (lv_at hl 0 rfl) ?_
      refine lv_iload_n hx hb dX0_totalOf_16 rfl (lv_at hl 2 rfl) ?_
      refine lv_aload_n hx hb dX0_totalOf_17 rfl (lv_at hl 0 rfl) ?_
      refine lv_aload_n hx hb dX0_totalOf_18 rfl (lv_at hl 1 rfl) ?_
      refine lv_iload_n hx hb dX0_totalOf_19 rfl (lv_at hl 3 rfl) ?_
      refine lv_iload_n hx hb dX0_totalOf_20 rfl (lv_at hl 3 rfl) ?_
      refine lv_aload_n hx hb dX0_totalOf_21 rfl (lv_at hl 1 rfl) ?_
      refine lv_iload_n hx hb dX0_totalOf_22 rfl (lv_at hl 3 rfl) ?_
      refine r_vcalli (As := [.int v3]) (rest := [.int v3, .int v3, .ref (ad r1), .ref (ad o), .int v2, .ref (ad o)]) S hG hP hS mX3_get kX0_86 clX3 h1 (tX3_get _ _ _ _ _ _ _ _ h1 v3) ⟨rfl, rfl⟩ (rm_ok (by decide) (by decide)) hm hl.1 rfl (Nat.le_of_ble_eq_true rfl) ⟨Nat.zero_le _, Nat.zero_le _⟩ dX0_totalOf_23 (fun b2 μ1 H locs hm hP hS => ?_)
      refine lv_iconst (v := (-1 : Int32)) hx hb dX0_totalOf_26 (by decide) ?_
      refine r_vcalli (As := [.ref (ad r1), .int v3, .int v3, .int b2, .int (-1 : Int32)]) (rest := [.int v2, .ref (ad o)]) S hG hP hS mX0_costBeside kX0_139 clX0 ho (tX0_costBeside _ _ _ _ _ _ _ _ ho h1 v3 v3 b2 (-1 : Int32)) ⟨rfl, rfl⟩ (rm_ok (by decide) (by decide)) hm hl.1 rfl (Nat.le_of_ble_eq_true rfl) ⟨Nat.zero_le _, Nat.zero_le _⟩ dX0_totalOf_27 (fun b4 μ3 H locs hm hP hS => ?_)
      refine r_vcalli (As := [.int v2, .int b4]) (rest := []) S hG hP hS mX0_sum kX0_125 clX0 ho (tX0_sum _ _ _ _ _ _ _ _ ho v2 b4) ⟨rfl, rfl⟩ (rm_ok (by decide) (by decide)) hm hl.1 rfl (Nat.le_of_ble_eq_true rfl) ⟨Nat.zero_le _, Nat.zero_le _⟩ dX0_totalOf_30 (fun b6 μ5 H locs hm hP hS => ?_)
      refine lv_istore_n (lv' := [(2, .int b6), (0, .ref (ad o)), (1, .ref (ad r1)), (3, .int v3)]) hx hb dX0_totalOf_33 rfl hl (by decide) rfl (fun ls hl => ?_)
      refine r_iinc (b := (1 : Int32)) (k := 3) S hm dX0_totalOf_34 hl rfl (by decide) (by decide) (fun a7 ls hm hl => ?_)
      have hl : lv_has ls 4 [(3, .int a7), (2, .int b6), (0, .ref (ad o)), (1, .ref (ad r1))] := hl
      refine lv_goto (tgt := 7) hx hb dX0_totalOf_37 (by decide) ?_
      exact ih b6 a7 μ5 hm H locs ls hP hS (lv_sub hl [2, 3, 1, 0] rfl)
set_option maxHeartbeats 4000000 in
set_option maxRecDepth 100000 in
theorem wX0_totalOf_0 (S : CallFix p m c cX0_totalOf 4 s args TB RX0) (hr : meth.sig.returnType = (some .int) ∧ meth.locks = false) (hG : gok D cI cR n K L ad s) {o : Nat} {r1 : Nat} (ho : isk n K o 0) (h1 : isk n K r1 3) {x : Int32 × Mem} : ∀ (μ : Mem), fX0_totalOf L o r1 μ = some x → WI p l e (rmL 2) s m args below meth c D cI cR n K L ad 4 x μ 0 [(0, .ref (ad o)), (1, .ref (ad r1))] [] := by
  have hx := S.1
  have hb := S.2.1
  intro μ hm H locs ls hP hS hl
  unfold fX0_totalOf at hm
  refine lv_aload_n hx hb dX0_totalOf_0 rfl (lv_at hl 0 rfl) ?_
  refine r_vcalli (As := []) (rest := []) S hG hP hS mX0_constant kX0_121 clX0 ho (tX0_constant _ _ _ _ _ _ _ _ ho) ⟨rfl, rfl⟩ (rm_ok (by decide) (by decide)) hm hl.1 rfl (Nat.le_of_ble_eq_true rfl) ⟨Nat.zero_le _, Nat.zero_le _⟩ dX0_totalOf_1 (fun b9 μ8 H locs hm hP hS => ?_)
  refine lv_istore_n (lv' := [(2, .int b9), (0, .ref (ad o)), (1, .ref (ad r1))]) hx hb dX0_totalOf_4 rfl hl (by decide) rfl (fun ls hl => ?_)
  refine lv_iconst (v := (0 : Int32)) hx hb dX0_totalOf_5 (by decide) ?_
  refine lv_istore_n (lv' := [(3, .int (0 : Int32)), (2, .int b9), (0, .ref (ad o)), (1, .ref (ad r1))]) hx hb dX0_totalOf_6 rfl hl (by decide) rfl (fun ls hl => ?_)
  exact wX0_totalOf_7 S hr hG ho h1 FU b9 (0 : Int32) μ8 hm H locs ls hP hS (lv_sub hl [2, 3, 1, 0] rfl)
theorem tX0_totalOf (l : Launch) (D : va_G) (cI cR : ClassId) (n : Nat) (K L ad : Nat → Nat) {o : Nat} (ho : isk n K o 0) {r1 : Nat} (h1 : isk n K r1 3) : Ci l yX0_totalOf cX0_totalOf 4 (some .int) (rmL 2) D cI cR n K L ad [.ref (ad o), .ref (ad r1)] (fX0_totalOf L o r1) := by
  refine Ci.ofW (by decide) (Nat.le_of_ble_eq_true rfl) ?_
  intro μ x hm p e s m args below meth c ls S hr hG hP hS hl
  exact wX0_totalOf_0 S hr hG ho h1 μ hm _ _ ls hP hS hl
-- X0_copyTo
set_option maxHeartbeats 4000000 in
set_option maxRecDepth 100000 in
theorem wX0_copyTo_0 (S : CallFix p m c cX0_copyTo 2 s args TB RX0) (hr : meth.sig.returnType = none ∧ meth.locks = false) (hG : gok D cI cR n K L ad s) {o : Nat} {r1 : Nat} (ho : isk n K o 0) (h1 : isk n K r1 3) {x : Mem} : ∀ (μ : Mem), fX0_copyTo L o r1 μ = some x → WV p l e (rmL 2) s m args below meth c D cI cR n K L ad 2 x μ 0 [(0, .ref (ad o)), (1, .ref (ad r1))] [] := by
  have hx := S.1
  have hb := S.2.1
  intro μ hm H locs ls hP hS hl
  unfold fX0_copyTo at hm
  refine lv_aload_n hx hb dX0_copyTo_0 rfl (lv_at hl 1 rfl) ?_
  refine lv_aload_n hx hb dX0_copyTo_1 rfl (lv_at hl 0 rfl) ?_
  refine r_getr S hG hP ho clX0 fX0_3 kX0_26 dX0_copyTo_2 ?_
  refine r_vcallv (As := [.ref (ad (o + 7))]) (rest := []) S hG hP hS mX3_takeFrom kX0_42 clX3 h1 (tX3_takeFrom _ _ _ _ _ _ _ _ h1 (chX0_3 hG ho)) ⟨rfl, rfl⟩ (rm_ok (by decide) (by decide)) hm hl.1 rfl (Nat.le_of_ble_eq_true rfl) ⟨Nat.zero_le _, Nat.zero_le _⟩ dX0_copyTo_5 (fun μ1 H locs hm hP hS => ?_)
  exact r_vret S hr hG hP hS hm dX0_copyTo_8
theorem tX0_copyTo (l : Launch) (D : va_G) (cI cR : ClassId) (n : Nat) (K L ad : Nat → Nat) {o : Nat} (ho : isk n K o 0) {r1 : Nat} (h1 : isk n K r1 3) : Cv l yX0_copyTo cX0_copyTo 2 none (rmL 2) D cI cR n K L ad [.ref (ad o), .ref (ad r1)] (fX0_copyTo L o r1) := by
  refine Cv.ofW (by decide) (Nat.le_of_ble_eq_true rfl) ?_
  intro μ x hm p e s m args below meth c ls S hr hG hP hS hl
  exact wX0_copyTo_0 S hr hG ho h1 μ hm _ _ ls hP hS hl
-- X0_copyFrom
set_option maxHeartbeats 4000000 in
set_option maxRecDepth 100000 in
theorem wX0_copyFrom_0 (S : CallFix p m c cX0_copyFrom 2 s args TB RX0) (hr : meth.sig.returnType = none ∧ meth.locks = false) (hG : gok D cI cR n K L ad s) {o : Nat} {r1 : Nat} (ho : isk n K o 0) (h1 : isk n K r1 3) {x : Mem} : ∀ (μ : Mem), fX0_copyFrom L o r1 μ = some x → WV p l e (rmL 2) s m args below meth c D cI cR n K L ad 2 x μ 0 [(0, .ref (ad o)), (1, .ref (ad r1))] [] := by
  have hx := S.1
  have hb := S.2.1
  intro μ hm H locs ls hP hS hl
  unfold fX0_copyFrom at hm
  refine lv_aload_n hx hb dX0_copyFrom_0 rfl (lv_at hl 0 rfl) ?_
  refine r_getr S hG hP ho clX0 fX0_3 kX0_26 dX0_copyFrom_1 ?_
  refine lv_aload_n hx hb dX0_copyFrom_4 rfl (lv_at hl 1 rfl) ?_
  refine r_vcallv (As := [.ref (ad r1)]) (rest := []) S hG hP hS mX3_takeFrom kX0_42 clX3 (chX0_3 hG ho) (tX3_takeFrom _ _ _ _ _ _ _ _ (chX0_3 hG ho) h1) ⟨rfl, rfl⟩ (rm_ok (by decide) (by decide)) hm hl.1 rfl (Nat.le_of_ble_eq_true rfl) ⟨Nat.zero_le _, Nat.zero_le _⟩ dX0_copyFrom_5 (fun μ1 H locs hm hP hS => ?_)
  exact r_vret S hr hG hP hS hm dX0_copyFrom_8
theorem tX0_copyFrom (l : Launch) (D : va_G) (cI cR : ClassId) (n : Nat) (K L ad : Nat → Nat) {o : Nat} (ho : isk n K o 0) {r1 : Nat} (h1 : isk n K r1 3) : Cv l yX0_copyFrom cX0_copyFrom 2 none (rmL 2) D cI cR n K L ad [.ref (ad o), .ref (ad r1)] (fX0_copyFrom L o r1) := by
  refine Cv.ofW (by decide) (Nat.le_of_ble_eq_true rfl) ?_
  intro μ x hm p e s m args below meth c ls S hr hG hP hS hl
  exact wX0_copyFrom_0 S hr hG ho h1 μ hm _ _ ls hP hS hl
-- X0_areAs
set_option maxHeartbeats 4000000 in
set_option maxRecDepth 100000 in
theorem wX0_areAs_0 (S : CallFix p m c cX0_areAs 2 s args TB RX0) (hr : meth.sig.returnType = (some .boolean) ∧ meth.locks = false) (hG : gok D cI cR n K L ad s) {o : Nat} {r1 : Nat} (ho : isk n K o 0) (h1 : isk n K r1 3) {x : Int32 × Mem} : ∀ (μ : Mem), fX0_areAs L o r1 μ = some x → WI p l e (rmL 2) s m args below meth c D cI cR n K L ad 2 x μ 0 [(0, .ref (ad o)), (1, .ref (ad r1))] [] := by
  have hx := S.1
  have hb := S.2.1
  intro μ hm H locs ls hP hS hl
  unfold fX0_areAs at hm
  refine lv_aload_n hx hb dX0_areAs_0 rfl (lv_at hl 0 rfl) ?_
  refine r_getr S hG hP ho clX0 fX0_3 kX0_26 dX0_areAs_1 ?_
  refine lv_aload_n hx hb dX0_areAs_4 rfl (lv_at hl 1 rfl) ?_
  refine r_vcalli (As := [.ref (ad r1)]) (rest := []) S hG hP hS mX3_isLike kX0_143 clX3 (chX0_3 hG ho) (tX3_isLike _ _ _ _ _ _ _ _ (chX0_3 hG ho) h1) ⟨rfl, rfl⟩ (rm_ok (by decide) (by decide)) hm hl.1 rfl (Nat.le_of_ble_eq_true rfl) ⟨Nat.zero_le _, Nat.zero_le _⟩ dX0_areAs_5 (fun b2 μ1 H locs hm hP hS => ?_)
  exact r_zret S hr hG hP hS hm dX0_areAs_8
theorem tX0_areAs (l : Launch) (D : va_G) (cI cR : ClassId) (n : Nat) (K L ad : Nat → Nat) {o : Nat} (ho : isk n K o 0) {r1 : Nat} (h1 : isk n K r1 3) : Ci l yX0_areAs cX0_areAs 2 (some .boolean) (rmL 2) D cI cR n K L ad [.ref (ad o), .ref (ad r1)] (fX0_areAs L o r1) := by
  refine Ci.ofW (by decide) (Nat.le_of_ble_eq_true rfl) ?_
  intro μ x hm p e s m args below meth c ls S hr hG hP hS hl
  exact wX0_areAs_0 S hr hG ho h1 μ hm _ _ ls hP hS hl
-- X0_lessen
set_option maxHeartbeats 4000000 in
set_option maxRecDepth 100000 in
theorem wX0_lessen_29 (S : CallFix p m c cX0_lessen 4 s args TB RX0) (hr : meth.sig.returnType = none ∧ meth.locks = false) (hG : gok D cI cR n K L ad s) {o : Nat} (ho : isk n K o 0) {x : Mem} : ∀ (s0 s1 : Int32) (μ : Mem), fX0_lessen_29 L o s0 s1 μ = some x → WV p l e (rmL 1) s m args below meth c D cI cR n K L ad 4 x μ 29 [] [.int s0, .int s1, .ref (ad (o + 7))] := by
  have hx := S.1
  have hb := S.2.1
  intro s0 s1 μ hm H locs ls hP hS hl
  unfold fX0_lessen_29 at hm
  refine r_vcallv (As := [.int s1, .int s0]) (rest := []) S hG hP hS mX3_set kX0_46 clX3 (chX0_3 hG ho) (tX3_set _ _ _ _ _ _ _ _ (chX0_3 hG ho) s1 s0) ⟨rfl, rfl⟩ (rm_ok (by decide) (by decide)) hm hl.1 rfl (Nat.le_of_ble_eq_true rfl) ⟨Nat.zero_le _, Nat.zero_le _⟩ dX0_lessen_29 (fun μ1 H locs hm hP hS => ?_)
  exact r_vret S hr hG hP hS hm dX0_lessen_32
set_option maxHeartbeats 4000000 in
set_option maxRecDepth 100000 in
theorem wX0_lessen_0 (S : CallFix p m c cX0_lessen 4 s args TB RX0) (hr : meth.sig.returnType = none ∧ meth.locks = false) (hG : gok D cI cR n K L ad s) {o : Nat} (ho : isk n K o 0) {x : Mem} : ∀ (v1 v2 : Int32) (μ : Mem), fX0_lessen L o v1 v2 μ = some x → WV p l e (rmL 1) s m args below meth c D cI cR n K L ad 4 x μ 0 [(0, .ref (ad o)), (1, .int v1), (2, .int v2)] [] := by
  have hx := S.1
  have hb := S.2.1
  intro v1 v2 μ hm H locs ls hP hS hl
  unfold fX0_lessen at hm
  refine lv_aload_n hx hb dX0_lessen_0 rfl (lv_at hl 0 rfl) ?_
  refine r_getr S hG hP ho clX0 fX0_3 kX0_26 dX0_lessen_1 ?_
  refine lv_iload_n hx hb dX0_lessen_4 rfl (lv_at hl 1 rfl) ?_
  refine r_vcalli (As := [.int v1]) (rest := []) S hG hP hS mX3_get kX0_86 clX3 (chX0_3 hG ho) (tX3_get _ _ _ _ _ _ _ _ (chX0_3 hG ho) v1) ⟨rfl, rfl⟩ (rm_ok (by decide) (by decide)) hm hl.1 rfl (Nat.le_of_ble_eq_true rfl) ⟨Nat.zero_le _, Nat.zero_le _⟩ dX0_lessen_5 (fun b3 μ2 H locs hm hP hS => ?_)
  refine lv_istore_n (lv' := [(3, .int b3), (0, .ref (ad o)), (1, .int v1), (2, .int v2)]) hx hb dX0_lessen_8 rfl hl (by decide) rfl (fun ls hl => ?_)
  refine lv_aload_n hx hb dX0_lessen_9 rfl (lv_at hl 1 rfl) ?_
  refine r_getr S hG hP ho clX0 fX0_3 kX0_26 dX0_lessen_10 ?_
  refine lv_iload_n hx hb dX0_lessen_13 rfl (lv_at hl 2 rfl) ?_
  refine lv_iload_n hx hb dX0_lessen_14 rfl (lv_at hl 0 rfl) ?_
  refine lv_aload_n hx hb dX0_lessen_15 rfl (lv_at hl 1 rfl) ?_
  refine r_geti S hG hP ho clX0 fX0_6 kX0_29 dX0_lessen_16 ?_
  refine b_icmp_ne (tgt := 26) S dX0_lessen_19 (by decide) hm (fun hm => ?_) (fun hm => ?_)
  · refine lv_iload_n hx hb dX0_lessen_26 rfl (lv_at hl 0 rfl) ?_
    refine lv_iload_n hx hb dX0_lessen_27 rfl (lv_at hl 3 rfl) ?_
    refine lv_isub hx hb dX0_lessen_28 ?_
    exact wX0_lessen_29 S hr hG ho (b3 - v2) v1 μ2 hm H locs ls hP hS (lv_sub hl [] rfl)
  · refine lv_iload_n hx hb dX0_lessen_22 rfl (lv_at hl 0 rfl) ?_
    refine lv_goto (tgt := 29) hx hb dX0_lessen_23 (by decide) ?_
    exact wX0_lessen_29 S hr hG ho b3 v1 μ2 hm H locs ls hP hS (lv_sub hl [] rfl)
theorem tX0_lessen (l : Launch) (D : va_G) (cI cR : ClassId) (n : Nat) (K L ad : Nat → Nat) {o : Nat} (ho : isk n K o 0) (v1 : Int32) (v2 : Int32) : Cv l yX0_lessen cX0_lessen 4 none (rmL 1) D cI cR n K L ad [.ref (ad o), .int v1, .int v2] (fX0_lessen L o v1 v2) := by
  refine Cv.ofW (by decide) (Nat.le_of_ble_eq_true rfl) ?_
  intro μ x hm p e s m args below meth c ls S hr hG hP hS hl
  exact wX0_lessen_0 S hr hG ho v1 v2 μ hm _ _ ls hP hS hl
-- X0_enlarge
set_option maxHeartbeats 4000000 in
set_option maxRecDepth 100000 in
theorem wX0_enlarge_0 (S : CallFix p m c cX0_enlarge 3 s args TB RX0) (hr : meth.sig.returnType = none ∧ meth.locks = false) (hG : gok D cI cR n K L ad s) {o : Nat} (ho : isk n K o 0) {x : Mem} : ∀ (v1 v2 : Int32) (μ : Mem), fX0_enlarge L o v1 v2 μ = some x → WV p l e (rmL 1) s m args below meth c D cI cR n K L ad 3 x μ 0 [(0, .ref (ad o)), (1, .int v1), (2, .int v2)] [] := by
  have hx := S.1
  have hb := S.2.1
  intro v1 v2 μ hm H locs ls hP hS hl
  unfold fX0_enlarge at hm
  refine lv_aload_n hx hb dX0_enlarge_0 rfl (lv_at hl 0 rfl) ?_
  refine r_getr S hG hP ho clX0 fX0_3 kX0_26 dX0_enlarge_1 ?_
  refine lv_iload_n hx hb dX0_enlarge_4 rfl (lv_at hl 1 rfl) ?_
  refine lv_aload_n hx hb dX0_enlarge_5 rfl (lv_at hl 0 rfl) ?_
  refine lv_aload_n hx hb dX0_enlarge_6 rfl (lv_at hl 0 rfl) ?_
  refine r_getr S hG hP ho clX0 fX0_3 kX0_26 dX0_enlarge_7 ?_
  refine lv_iload_n hx hb dX0_enlarge_10 rfl (lv_at hl 1 rfl) ?_
  refine r_vcalli (As := [.int v1]) (rest := [.ref (ad o), .int v1, .ref (ad (o + 7))]) S hG hP hS mX3_get kX0_86 clX3 (chX0_3 hG ho) (tX3_get _ _ _ _ _ _ _ _ (chX0_3 hG ho) v1) ⟨rfl, rfl⟩ (rm_ok (by decide) (by decide)) hm hl.1 rfl (Nat.le_of_ble_eq_true rfl) ⟨Nat.zero_le _, Nat.zero_le _⟩ dX0_enlarge_11 (fun b2 μ1 H locs hm hP hS => ?_)
  refine lv_iload_n hx hb dX0_enlarge_14 rfl (lv_at hl 2 rfl) ?_
  refine r_vcalli (As := [.int b2, .int v2]) (rest := [.int v1, .ref (ad (o + 7))]) S hG hP hS mX0_sum kX0_125 clX0 ho (tX0_sum _ _ _ _ _ _ _ _ ho b2 v2) ⟨rfl, rfl⟩ (rm_ok (by decide) (by decide)) hm hl.1 rfl (Nat.le_of_ble_eq_true rfl) ⟨Nat.zero_le _, Nat.zero_le _⟩ dX0_enlarge_15 (fun b4 μ3 H locs hm hP hS => ?_)
  refine r_vcallv (As := [.int v1, .int b4]) (rest := []) S hG hP hS mX3_set kX0_46 clX3 (chX0_3 hG ho) (tX3_set _ _ _ _ _ _ _ _ (chX0_3 hG ho) v1 b4) ⟨rfl, rfl⟩ (rm_ok (by decide) (by decide)) hm hl.1 rfl (Nat.le_of_ble_eq_true rfl) ⟨Nat.zero_le _, Nat.zero_le _⟩ dX0_enlarge_18 (fun μ5 H locs hm hP hS => ?_)
  exact r_vret S hr hG hP hS hm dX0_enlarge_21
theorem tX0_enlarge (l : Launch) (D : va_G) (cI cR : ClassId) (n : Nat) (K L ad : Nat → Nat) {o : Nat} (ho : isk n K o 0) (v1 : Int32) (v2 : Int32) : Cv l yX0_enlarge cX0_enlarge 3 none (rmL 1) D cI cR n K L ad [.ref (ad o), .int v1, .int v2] (fX0_enlarge L o v1 v2) := by
  refine Cv.ofW (by decide) (Nat.le_of_ble_eq_true rfl) ?_
  intro μ x hm p e s m args below meth c ls S hr hG hP hS hl
  exact wX0_enlarge_0 S hr hG ho v1 v2 μ hm _ _ ls hP hS hl
-- X0_growSingle
set_option maxHeartbeats 4000000 in
set_option maxRecDepth 100000 in
theorem wX0_growSingle_0 (S : CallFix p m c cX0_growSingle 4 s args TB RX0) (hr : meth.sig.returnType = none ∧ meth.locks = false) (hG : gok D cI cR n K L ad s) {o : Nat} (ho : isk n K o 0) {x : Mem} : ∀ (v1 v2 v3 : Int32) (μ : Mem), fX0_growSingle L o v1 v2 v3 μ = some x → WV p l e (rmL 2) s m args below meth c D cI cR n K L ad 4 x μ 0 [(0, .ref (ad o)), (1, .int v1), (2, .int v2), (3, .int v3)] [] := by
  have hx := S.1
  have hb := S.2.1
  intro v1 v2 v3 μ hm H locs ls hP hS hl
  unfold fX0_growSingle at hm
  refine lv_aload_n hx hb dX0_growSingle_0 rfl (lv_at hl 0 rfl) ?_
  refine lv_iload_n hx hb dX0_growSingle_1 rfl (lv_at hl 1 rfl) ?_
  refine lv_iload_n hx hb dX0_growSingle_2 rfl (lv_at hl 2 rfl) ?_
  refine r_scalli (As := [.int v1, .int v2]) (rest := [.ref (ad o)]) S hG hP hS mX0_singleAt kX0_95 (tX0_singleAt _ _ _ _ _ _ _ _ v1 v2) ⟨rfl, rfl⟩ (rm_ok (by decide) (by decide)) hm hl.1 rfl (Nat.le_of_ble_eq_true rfl) ⟨Nat.zero_le _, Nat.zero_le _⟩ dX0_growSingle_3 (fun b2 μ1 H locs hm hP hS => ?_)
  refine lv_iload_n hx hb dX0_growSingle_6 rfl (lv_at hl 3 rfl) ?_
  refine r_vcallv (As := [.int b2, .int v3]) (rest := []) S hG hP hS mX0_enlarge kX0_147 clX0 ho (tX0_enlarge _ _ _ _ _ _ _ _ ho b2 v3) ⟨rfl, rfl⟩ (rm_ok (by decide) (by decide)) hm hl.1 rfl (Nat.le_of_ble_eq_true rfl) ⟨Nat.zero_le _, Nat.zero_le _⟩ dX0_growSingle_7 (fun μ3 H locs hm hP hS => ?_)
  exact r_vret S hr hG hP hS hm dX0_growSingle_10
theorem tX0_growSingle (l : Launch) (D : va_G) (cI cR : ClassId) (n : Nat) (K L ad : Nat → Nat) {o : Nat} (ho : isk n K o 0) (v1 : Int32) (v2 : Int32) (v3 : Int32) : Cv l yX0_growSingle cX0_growSingle 4 none (rmL 2) D cI cR n K L ad [.ref (ad o), .int v1, .int v2, .int v3] (fX0_growSingle L o v1 v2 v3) := by
  refine Cv.ofW (by decide) (Nat.le_of_ble_eq_true rfl) ?_
  intro μ x hm p e s m args below meth c ls S hr hG hP hS hl
  exact wX0_growSingle_0 S hr hG ho v1 v2 v3 μ hm _ _ ls hP hS hl
-- X0_moveToValue
set_option maxHeartbeats 4000000 in
set_option maxRecDepth 100000 in
theorem wX0_moveToValue_14 (S : CallFix p m c cX0_moveToValue 7 s args TB RX0) (hr : meth.sig.returnType = none ∧ meth.locks = false) (hG : gok D cI cR n K L ad s) {o : Nat} (ho : isk n K o 0) {x : Mem} : ∀ (k : Nat) (v1 v2 v3 v4 v5 v6 : Int32) (μ : Mem), fX0_moveToValue_14 L o k v1 v2 v3 v4 v5 v6 μ = some x → WV p l e (rmL 2) s m args below meth c D cI cR n K L ad 7 x μ 14 [(0, .ref (ad o)), (1, .int v1), (2, .int v2), (3, .int v3), (4, .int v4), (5, .int v5), (6, .int v6)] [] := by
  have hx := S.1
  have hb := S.2.1
  intro k
  induction k with
  | zero => intro v1 v2 v3 v4 v5 v6 μ hm; exact absurd (show none = some x from hm) (fun h => by cases h)
  | succ k ih =>
    intro v1 v2 v3 v4 v5 v6 μ hm H locs ls hP hS hl
    have hm : fX0_moveToValue_14_b L o (fX0_moveToValue_14 L o k) v1 v2 v3 v4 v5 v6 μ = some x := hm
    unfold fX0_moveToValue_14_b at hm
    refine lv_iload hx hb dX0_moveToValue_14 (lv_at hl 6 rfl) ?_
    refine lv_iload hx hb dX0_moveToValue_16 (lv_at hl 5 rfl) ?_
    refine b_icmp_ge (tgt := 41) S dX0_moveToValue_18 (by decide) hm (fun hm => ?_) (fun hm => ?_)
    · refine lv_aload_n hx hb dX0_moveToValue_41 rfl (lv_at hl 0 rfl) ?_
      refine lv_aload_n hx hb dX0_moveToValue_42 rfl (lv_at hl 0 rfl) ?_
      refine lv_iload_n hx hb dX0_moveToValue_43 rfl (lv_at hl 1 rfl) ?_
      refine lv_iload_n hx hb dX0_moveToValue_44 rfl (lv_at hl 2 rfl) ?_
      refine r_vcalli (As := [.int v1, .int v2]) (rest := [.ref (ad o)]) S hG hP hS mX0_nameOn kX0_79 clX0 ho (tX0_nameOn _ _ _ _ _ _ _ _ ho v1 v2) ⟨rfl, rfl⟩ (rm_ok (by decide) (by decide)) hm hl.1 rfl (Nat.le_of_ble_eq_true rfl) ⟨Nat.zero_le _, Nat.zero_le _⟩ dX0_moveToValue_45 (fun b2 μ1 H locs hm hP hS => ?_)
      refine lv_iload_n hx hb dX0_moveToValue_48 rfl (lv_at hl 3 rfl) ?_
      refine r_scalli (As := [.int b2, .int v3]) (rest := [.ref (ad o)]) S hG hP hS mX0_singleAt kX0_95 (tX0_singleAt _ _ _ _ _ _ _ _ b2 v3) ⟨rfl, rfl⟩ (rm_ok (by decide) (by decide)) hm hl.1 rfl (Nat.le_of_ble_eq_true rfl) ⟨Nat.zero_le _, Nat.zero_le _⟩ dX0_moveToValue_49 (fun b4 μ3 H locs hm hP hS => ?_)
      refine lv_iload hx hb dX0_moveToValue_52 (lv_at hl 4 rfl) ?_
      refine r_vcallv (As := [.int b4, .int v4]) (rest := []) S hG hP hS mX0_enlarge kX0_147 clX0 ho (tX0_enlarge _ _ _ _ _ _ _ _ ho b4 v4) ⟨rfl, rfl⟩ (rm_ok (by decide) (by decide)) hm hl.1 rfl (Nat.le_of_ble_eq_true rfl) ⟨Nat.zero_le _, Nat.zero_le _⟩ dX0_moveToValue_54 (fun μ5 H locs hm hP hS => ?_)
      exact r_vret S hr hG hP hS hm dX0_moveToValue_57
    · refine lv_aload_n hx hb dX0_moveToValue_21 rfl (lv_at hl 0 rfl) ?_
      refine lv_iload_n hx hb dX0_moveToValue_22 rfl (lv_at hl 1 rfl) ?_
      refine lv_iload_n hx hb dX0_moveToValue_23 rfl (lv_at hl 2 rfl) ?_
      refine lv_iload_n hx hb dX0_moveToValue_24 rfl (lv_at hl 3 rfl) ?_
      refine lv_iload hx hb dX0_moveToValue_25 (lv_at hl 6 rfl) ?_
      refine r_scalli (As := [.int v1, .int v2, .int v3, .int v6]) (rest := [.ref (ad o)]) S hG hP hS mX0_pairFrom kX0_108 (tX0_pairFrom _ _ _ _ _ _ _ _ v1 v2 v3 v6) ⟨rfl, rfl⟩ (rm_ok (by decide) (by decide)) hm hl.1 rfl (Nat.le_of_ble_eq_true rfl) ⟨Nat.zero_le _, Nat.zero_le _⟩ dX0_moveToValue_27 (fun b7 μ6 H locs hm hP hS => ?_)
      refine lv_iload hx hb dX0_moveToValue_30 (lv_at hl 4 rfl) ?_
      refine r_vcallv (As := [.int b7, .int v4]) (rest := []) S hG hP hS mX0_lessen kX0_150 clX0 ho (tX0_lessen _ _ _ _ _ _ _ _ ho b7 v4) ⟨rfl, rfl⟩ (rm_ok (by decide) (by decide)) hm hl.1 rfl (Nat.le_of_ble_eq_true rfl) ⟨Nat.zero_le _, Nat.zero_le _⟩ dX0_moveToValue_32 (fun μ8 H locs hm hP hS => ?_)
      refine r_iinc (b := (1 : Int32)) (k := 6) S hm dX0_moveToValue_35 hl rfl (by decide) (by decide) (fun a9 ls hm hl => ?_)
      have hl : lv_has ls 7 [(6, .int a9), (0, .ref (ad o)), (1, .int v1), (2, .int v2), (3, .int v3), (4, .int v4), (5, .int v5)] := hl
      refine lv_goto (tgt := 14) hx hb dX0_moveToValue_38 (by decide) ?_
      exact ih v1 v2 v3 v4 v5 a9 μ8 hm H locs ls hP hS (lv_sub hl [1, 2, 3, 4, 5, 6, 0] rfl)
set_option maxHeartbeats 4000000 in
set_option maxRecDepth 100000 in
theorem wX0_moveToValue_0 (S : CallFix p m c cX0_moveToValue 7 s args TB RX0) (hr : meth.sig.returnType = none ∧ meth.locks = false) (hG : gok D cI cR n K L ad s) {o : Nat} (ho : isk n K o 0) {x : Mem} : ∀ (v1 v2 v3 v4 : Int32) (μ : Mem), fX0_moveToValue L o v1 v2 v3 v4 μ = some x → WV p l e (rmL 2) s m args below meth c D cI cR n K L ad 7 x μ 0 [(0, .ref (ad o)), (1, .int v1), (2, .int v2), (3, .int v3), (4, .int v4)] [] := by
  have hx := S.1
  have hb := S.2.1
  intro v1 v2 v3 v4 μ hm H locs ls hP hS hl
  unfold fX0_moveToValue at hm
  refine lv_aload_n hx hb dX0_moveToValue_0 rfl (lv_at hl 0 rfl) ?_
  refine lv_iload_n hx hb dX0_moveToValue_1 rfl (lv_at hl 1 rfl) ?_
  refine lv_iload_n hx hb dX0_moveToValue_2 rfl (lv_at hl 2 rfl) ?_
  refine r_scalli (As := [.int v2]) (rest := [.int v1, .ref (ad o)]) S hG hP hS mX0_acrossFrom kX0_105 (tX0_acrossFrom _ _ _ _ _ _ _ _ v2) ⟨rfl, rfl⟩ (rm_ok (by decide) (by decide)) hm hl.1 rfl (Nat.le_of_ble_eq_true rfl) ⟨Nat.zero_le _, Nat.zero_le _⟩ dX0_moveToValue_3 (fun b11 μ10 H locs hm hP hS => ?_)
  refine r_vcalli (As := [.int v1, .int b11]) (rest := []) S hG hP hS mX0_valuesOn kX0_92 clX0 ho (tX0_valuesOn _ _ _ _ _ _ _ _ ho v1 b11) ⟨rfl, rfl⟩ (rm_ok (by decide) (by decide)) hm hl.1 rfl (Nat.le_of_ble_eq_true rfl) ⟨Nat.zero_le _, Nat.zero_le _⟩ dX0_moveToValue_6 (fun b13 μ12 H locs hm hP hS => ?_)
  refine lv_istore (lv' := [(5, .int b13), (0, .ref (ad o)), (1, .int v1), (2, .int v2), (3, .int v3), (4, .int v4)]) hx hb dX0_moveToValue_9 hl (by decide) rfl (fun ls hl => ?_)
  refine lv_iconst (v := (0 : Int32)) hx hb dX0_moveToValue_11 (by decide) ?_
  refine lv_istore (lv' := [(6, .int (0 : Int32)), (5, .int b13), (0, .ref (ad o)), (1, .int v1), (2, .int v2), (3, .int v3), (4, .int v4)]) hx hb dX0_moveToValue_12 hl (by decide) rfl (fun ls hl => ?_)
  exact wX0_moveToValue_14 S hr hG ho FU v1 v2 v3 v4 b13 (0 : Int32) μ12 hm H locs ls hP hS (lv_sub hl [2, 3, 4, 5, 6, 1, 0] rfl)
theorem tX0_moveToValue (l : Launch) (D : va_G) (cI cR : ClassId) (n : Nat) (K L ad : Nat → Nat) {o : Nat} (ho : isk n K o 0) (v1 : Int32) (v2 : Int32) (v3 : Int32) (v4 : Int32) : Cv l yX0_moveToValue cX0_moveToValue 7 none (rmL 2) D cI cR n K L ad [.ref (ad o), .int v1, .int v2, .int v3, .int v4] (fX0_moveToValue L o v1 v2 v3 v4) := by
  refine Cv.ofW (by decide) (Nat.le_of_ble_eq_true rfl) ?_
  intro μ x hm p e s m args below meth c ls S hr hG hP hS hl
  exact wX0_moveToValue_0 S hr hG ho v1 v2 v3 v4 μ hm _ _ ls hP hS hl
-- X0_moveToTable
set_option maxHeartbeats 4000000 in
set_option maxRecDepth 100000 in
theorem wX0_moveToTable_30 (S : CallFix p m c cX0_moveToTable 7 s args TB RX0) (hr : meth.sig.returnType = none ∧ meth.locks = false) (hG : gok D cI cR n K L ad s) {o : Nat} (ho : isk n K o 0) {x : Mem} : ∀ (k : Nat) (v1 v2 v3 v4 v5 v6 : Int32) (μ : Mem), fX0_moveToTable_30 L o k v1 v2 v3 v4 v5 v6 μ = some x → WV p l e (rmL 2) s m args below meth c D cI cR n K L ad 7 x μ 30 [(0, .ref (ad o)), (1, .int v1), (2, .int v2), (3, .int v3), (4, .int v4), (5, .int v5), (6, .int v6)] [] := by
  have hx := S.1
  have hb := S.2.1
  intro k
  induction k with
  | zero => intro v1 v2 v3 v4 v5 v6 μ hm; exact absurd (show none = some x from hm) (fun h => by cases h)
  | succ k ih =>
    intro v1 v2 v3 v4 v5 v6 μ hm H locs ls hP hS hl
    have hm : fX0_moveToTable_30_b L o (fX0_moveToTable_30 L o k) v1 v2 v3 v4 v5 v6 μ = some x := hm
    unfold fX0_moveToTable_30_b at hm
    refine lv_iload hx hb dX0_moveToTable_30 (lv_at hl 6 rfl) ?_
    refine lv_iload hx hb dX0_moveToTable_32 (lv_at hl 5 rfl) ?_
    refine b_icmp_ge (tgt := 57) S dX0_moveToTable_34 (by decide) hm (fun hm => ?_) (fun hm => ?_)
    · exact r_vret S hr hG hP hS hm dX0_moveToTable_57
    · refine lv_aload_n hx hb dX0_moveToTable_37 rfl (lv_at hl 0 rfl) ?_
      refine lv_iload_n hx hb dX0_moveToTable_38 rfl (lv_at hl 1 rfl) ?_
      refine lv_iload_n hx hb dX0_moveToTable_39 rfl (lv_at hl 2 rfl) ?_
      refine lv_iload_n hx hb dX0_moveToTable_40 rfl (lv_at hl 3 rfl) ?_
      refine lv_iload hx hb dX0_moveToTable_41 (lv_at hl 6 rfl) ?_
      refine r_scalli (As := [.int v1, .int v2, .int v3, .int v6]) (rest := [.ref (ad o)]) S hG hP hS mX0_pairFrom kX0_108 (tX0_pairFrom _ _ _ _ _ _ _ _ v1 v2 v3 v6) ⟨rfl, rfl⟩ (rm_ok (by decide) (by decide)) hm hl.1 rfl (Nat.le_of_ble_eq_true rfl) ⟨Nat.zero_le _, Nat.zero_le _⟩ dX0_moveToTable_43 (fun b2 μ1 H locs hm hP hS => ?_)
      refine lv_iload hx hb dX0_moveToTable_46 (lv_at hl 4 rfl) ?_
      refine r_vcallv (As := [.int b2, .int v4]) (rest := []) S hG hP hS mX0_enlarge kX0_147 clX0 ho (tX0_enlarge _ _ _ _ _ _ _ _ ho b2 v4) ⟨rfl, rfl⟩ (rm_ok (by decide) (by decide)) hm hl.1 rfl (Nat.le_of_ble_eq_true rfl) ⟨Nat.zero_le _, Nat.zero_le _⟩ dX0_moveToTable_48 (fun μ3 H locs hm hP hS => ?_)
      refine r_iinc (b := (1 : Int32)) (k := 6) S hm dX0_moveToTable_51 hl rfl (by decide) (by decide) (fun a4 ls hm hl => ?_)
      have hl : lv_has ls 7 [(6, .int a4), (0, .ref (ad o)), (1, .int v1), (2, .int v2), (3, .int v3), (4, .int v4), (5, .int v5)] := hl
      refine lv_goto (tgt := 30) hx hb dX0_moveToTable_54 (by decide) ?_
      exact ih v1 v2 v3 v4 v5 a4 μ3 hm H locs ls hP hS (lv_sub hl [1, 2, 3, 4, 5, 6, 0] rfl)
set_option maxHeartbeats 4000000 in
set_option maxRecDepth 100000 in
theorem wX0_moveToTable_0 (S : CallFix p m c cX0_moveToTable 7 s args TB RX0) (hr : meth.sig.returnType = none ∧ meth.locks = false) (hG : gok D cI cR n K L ad s) {o : Nat} (ho : isk n K o 0) {x : Mem} : ∀ (v1 v2 v3 v4 : Int32) (μ : Mem), fX0_moveToTable L o v1 v2 v3 v4 μ = some x → WV p l e (rmL 2) s m args below meth c D cI cR n K L ad 7 x μ 0 [(0, .ref (ad o)), (1, .int v1), (2, .int v2), (3, .int v3), (4, .int v4)] [] := by
  have hx := S.1
  have hb := S.2.1
  intro v1 v2 v3 v4 μ hm H locs ls hP hS hl
  unfold fX0_moveToTable at hm
  refine lv_aload_n hx hb dX0_moveToTable_0 rfl (lv_at hl 0 rfl) ?_
  refine lv_aload_n hx hb dX0_moveToTable_1 rfl (lv_at hl 0 rfl) ?_
  refine lv_iload_n hx hb dX0_moveToTable_2 rfl (lv_at hl 1 rfl) ?_
  refine lv_iload_n hx hb dX0_moveToTable_3 rfl (lv_at hl 2 rfl) ?_
  refine r_vcalli (As := [.int v1, .int v2]) (rest := [.ref (ad o)]) S hG hP hS mX0_nameOn kX0_79 clX0 ho (tX0_nameOn _ _ _ _ _ _ _ _ ho v1 v2) ⟨rfl, rfl⟩ (rm_ok (by decide) (by decide)) hm hl.1 rfl (Nat.le_of_ble_eq_true rfl) ⟨Nat.zero_le _, Nat.zero_le _⟩ dX0_moveToTable_4 (fun b6 μ5 H locs hm hP hS => ?_)
  refine lv_iload_n hx hb dX0_moveToTable_7 rfl (lv_at hl 3 rfl) ?_
  refine r_scalli (As := [.int b6, .int v3]) (rest := [.ref (ad o)]) S hG hP hS mX0_singleAt kX0_95 (tX0_singleAt _ _ _ _ _ _ _ _ b6 v3) ⟨rfl, rfl⟩ (rm_ok (by decide) (by decide)) hm hl.1 rfl (Nat.le_of_ble_eq_true rfl) ⟨Nat.zero_le _, Nat.zero_le _⟩ dX0_moveToTable_8 (fun b8 μ7 H locs hm hP hS => ?_)
  refine lv_iload hx hb dX0_moveToTable_11 (lv_at hl 4 rfl) ?_
  refine r_vcallv (As := [.int b8, .int v4]) (rest := []) S hG hP hS mX0_lessen kX0_150 clX0 ho (tX0_lessen _ _ _ _ _ _ _ _ ho b8 v4) ⟨rfl, rfl⟩ (rm_ok (by decide) (by decide)) hm hl.1 rfl (Nat.le_of_ble_eq_true rfl) ⟨Nat.zero_le _, Nat.zero_le _⟩ dX0_moveToTable_13 (fun μ9 H locs hm hP hS => ?_)
  refine lv_aload_n hx hb dX0_moveToTable_16 rfl (lv_at hl 0 rfl) ?_
  refine lv_iload_n hx hb dX0_moveToTable_17 rfl (lv_at hl 1 rfl) ?_
  refine lv_iload_n hx hb dX0_moveToTable_18 rfl (lv_at hl 2 rfl) ?_
  refine r_scalli (As := [.int v2]) (rest := [.int v1, .ref (ad o)]) S hG hP hS mX0_acrossFrom kX0_105 (tX0_acrossFrom _ _ _ _ _ _ _ _ v2) ⟨rfl, rfl⟩ (rm_ok (by decide) (by decide)) hm hl.1 rfl (Nat.le_of_ble_eq_true rfl) ⟨Nat.zero_le _, Nat.zero_le _⟩ dX0_moveToTable_19 (fun b11 μ10 H locs hm hP hS => ?_)
  refine r_vcalli (As := [.int v1, .int b11]) (rest := []) S hG hP hS mX0_valuesOn kX0_92 clX0 ho (tX0_valuesOn _ _ _ _ _ _ _ _ ho v1 b11) ⟨rfl, rfl⟩ (rm_ok (by decide) (by decide)) hm hl.1 rfl (Nat.le_of_ble_eq_true rfl) ⟨Nat.zero_le _, Nat.zero_le _⟩ dX0_moveToTable_22 (fun b13 μ12 H locs hm hP hS => ?_)
  refine lv_istore (lv' := [(5, .int b13), (0, .ref (ad o)), (1, .int v1), (2, .int v2), (3, .int v3), (4, .int v4)]) hx hb dX0_moveToTable_25 hl (by decide) rfl (fun ls hl => ?_)
  refine lv_iconst (v := (0 : Int32)) hx hb dX0_moveToTable_27 (by decide) ?_
  refine lv_istore (lv' := [(6, .int (0 : Int32)), (5, .int b13), (0, .ref (ad o)), (1, .int v1), (2, .int v2), (3, .int v3), (4, .int v4)]) hx hb dX0_moveToTable_28 hl (by decide) rfl (fun ls hl => ?_)
  exact wX0_moveToTable_30 S hr hG ho FU v1 v2 v3 v4 b13 (0 : Int32) μ12 hm H locs ls hP hS (lv_sub hl [2, 3, 4, 5, 6, 1, 0] rfl)
theorem tX0_moveToTable (l : Launch) (D : va_G) (cI cR : ClassId) (n : Nat) (K L ad : Nat → Nat) {o : Nat} (ho : isk n K o 0) (v1 : Int32) (v2 : Int32) (v3 : Int32) (v4 : Int32) : Cv l yX0_moveToTable cX0_moveToTable 7 none (rmL 2) D cI cR n K L ad [.ref (ad o), .int v1, .int v2, .int v3, .int v4] (fX0_moveToTable L o v1 v2 v3 v4) := by
  refine Cv.ofW (by decide) (Nat.le_of_ble_eq_true rfl) ?_
  intro μ x hm p e s m args below meth c ls S hr hG hP hS hl
  exact wX0_moveToTable_0 S hr hG ho v1 v2 v3 v4 μ hm _ _ ls hP hS hl
-- X0_moveToConstant
set_option maxHeartbeats 4000000 in
set_option maxRecDepth 100000 in
theorem wX0_moveToConstant_2 (S : CallFix p m c cX0_moveToConstant 4 s args TB RX0) (hr : meth.sig.returnType = none ∧ meth.locks = false) (hG : gok D cI cR n K L ad s) {o : Nat} (ho : isk n K o 0) {x : Mem} : ∀ (k : Nat) (v1 v2 v3 : Int32) (μ : Mem), fX0_moveToConstant_2 L o k v1 v2 v3 μ = some x → WV p l e (rmL 2) s m args below meth c D cI cR n K L ad 4 x μ 2 [(0, .ref (ad o)), (1, .int v1), (2, .int v2), (3, .int v3)] [] := by
  have hx := S.1
  have hb := S.2.1
  intro k
  induction k with
  | zero => intro v1 v2 v3 μ hm; exact absurd (show none = some x from hm) (fun h => by cases h)
  | succ k ih =>
    intro v1 v2 v3 μ hm H locs ls hP hS hl
    have hm : fX0_moveToConstant_2_b L o (fX0_moveToConstant_2 L o k) v1 v2 v3 μ = some x := hm
    unfold fX0_moveToConstant_2_b at hm
    refine lv_iload_n hx hb dX0_moveToConstant_2 rfl (lv_at hl 3 rfl) ?_
    refine lv_aload_n hx hb dX0_moveToConstant_3 rfl (lv_at hl 0 rfl) ?_
    refine lv_iload_n hx hb dX0_moveToConstant_4 rfl (lv_at hl 1 rfl) ?_
    refine r_vcalli (As := [.int v1]) (rest := [.int v3]) S hG hP hS mX0_valuesOf kX0_65 clX0 ho (tX0_valuesOf _ _ _ _ _ _ _ _ ho v1) ⟨rfl, rfl⟩ (rm_ok (by decide) (by decide)) hm hl.1 rfl (Nat.le_of_ble_eq_true rfl) ⟨Nat.zero_le _, Nat.zero_le _⟩ dX0_moveToConstant_5 (fun b2 μ1 H locs hm hP hS => ?_)
    refine b_icmp_ge (tgt := 27) S dX0_moveToConstant_8 (by decide) hm (fun hm => ?_) (fun hm => ?_)
    · refine lv_aload_n hx hb dX0_moveToConstant_27 rfl (lv_at hl 0 rfl) ?_
      refine lv_iconst (v := (0 : Int32)) hx hb dX0_moveToConstant_28 (by decide) ?_
      refine lv_iload_n hx hb dX0_moveToConstant_29 rfl (lv_at hl 2 rfl) ?_
      refine r_vcallv (As := [.int (0 : Int32), .int v2]) (rest := []) S hG hP hS mX0_enlarge kX0_147 clX0 ho (tX0_enlarge _ _ _ _ _ _ _ _ ho (0 : Int32) v2) ⟨rfl, rfl⟩ (rm_ok (by decide) (by decide)) hm hl.1 rfl (Nat.le_of_ble_eq_true rfl) ⟨Nat.zero_le _, Nat.zero_le _⟩ dX0_moveToConstant_30 (fun μ3 H locs hm hP hS => ?_)
      exact r_vret S hr hG hP hS hm dX0_moveToConstant_33
    · refine lv_aload_n hx hb dX0_moveToConstant_11 rfl (lv_at hl 0 rfl) ?_
      refine lv_iload_n hx hb dX0_moveToConstant_12 rfl (lv_at hl 1 rfl) ?_
      refine lv_iload_n hx hb dX0_moveToConstant_13 rfl (lv_at hl 3 rfl) ?_
      refine r_scalli (As := [.int v1, .int v3]) (rest := [.ref (ad o)]) S hG hP hS mX0_singleAt kX0_95 (tX0_singleAt _ _ _ _ _ _ _ _ v1 v3) ⟨rfl, rfl⟩ (rm_ok (by decide) (by decide)) hm hl.1 rfl (Nat.le_of_ble_eq_true rfl) ⟨Nat.zero_le _, Nat.zero_le _⟩ dX0_moveToConstant_14 (fun b5 μ4 H locs hm hP hS => ?_)
      refine lv_iload_n hx hb dX0_moveToConstant_17 rfl (lv_at hl 2 rfl) ?_
      refine r_vcallv (As := [.int b5, .int v2]) (rest := []) S hG hP hS mX0_lessen kX0_150 clX0 ho (tX0_lessen _ _ _ _ _ _ _ _ ho b5 v2) ⟨rfl, rfl⟩ (rm_ok (by decide) (by decide)) hm hl.1 rfl (Nat.le_of_ble_eq_true rfl) ⟨Nat.zero_le _, Nat.zero_le _⟩ dX0_moveToConstant_18 (fun μ6 H locs hm hP hS => ?_)
      refine r_iinc (b := (1 : Int32)) (k := 3) S hm dX0_moveToConstant_21 hl rfl (by decide) (by decide) (fun a7 ls hm hl => ?_)
      have hl : lv_has ls 4 [(3, .int a7), (0, .ref (ad o)), (1, .int v1), (2, .int v2)] := hl
      refine lv_goto (tgt := 2) hx hb dX0_moveToConstant_24 (by decide) ?_
      exact ih v1 v2 a7 μ6 hm H locs ls hP hS (lv_sub hl [1, 2, 3, 0] rfl)
set_option maxHeartbeats 4000000 in
set_option maxRecDepth 100000 in
theorem wX0_moveToConstant_0 (S : CallFix p m c cX0_moveToConstant 4 s args TB RX0) (hr : meth.sig.returnType = none ∧ meth.locks = false) (hG : gok D cI cR n K L ad s) {o : Nat} (ho : isk n K o 0) {x : Mem} : ∀ (v1 v2 : Int32) (μ : Mem), fX0_moveToConstant L o v1 v2 μ = some x → WV p l e (rmL 2) s m args below meth c D cI cR n K L ad 4 x μ 0 [(0, .ref (ad o)), (1, .int v1), (2, .int v2)] [] := by
  have hx := S.1
  have hb := S.2.1
  intro v1 v2 μ hm H locs ls hP hS hl
  unfold fX0_moveToConstant at hm
  refine lv_iconst (v := (0 : Int32)) hx hb dX0_moveToConstant_0 (by decide) ?_
  refine lv_istore_n (lv' := [(3, .int (0 : Int32)), (0, .ref (ad o)), (1, .int v1), (2, .int v2)]) hx hb dX0_moveToConstant_1 rfl hl (by decide) rfl (fun ls hl => ?_)
  exact wX0_moveToConstant_2 S hr hG ho FU v1 v2 (0 : Int32) μ hm H locs ls hP hS (lv_sub hl [1, 2, 3, 0] rfl)
theorem tX0_moveToConstant (l : Launch) (D : va_G) (cI cR : ClassId) (n : Nat) (K L ad : Nat → Nat) {o : Nat} (ho : isk n K o 0) (v1 : Int32) (v2 : Int32) : Cv l yX0_moveToConstant cX0_moveToConstant 4 none (rmL 2) D cI cR n K L ad [.ref (ad o), .int v1, .int v2] (fX0_moveToConstant L o v1 v2) := by
  refine Cv.ofW (by decide) (Nat.le_of_ble_eq_true rfl) ?_
  intro μ x hm p e s m args below meth c ls S hr hG hP hS hl
  exact wX0_moveToConstant_0 S hr hG ho v1 v2 μ hm _ _ ls hP hS hl
-- X0_topShutSingles
set_option maxHeartbeats 4000000 in
set_option maxRecDepth 100000 in
theorem wX0_topShutSingles_30 (S : CallFix p m c cX0_topShutSingles 3 s args TB RX0) (hr : meth.sig.returnType = none ∧ meth.locks = false) (hG : gok D cI cR n K L ad s) {o : Nat} (ho : isk n K o 0) {x : Mem} {self2 : Int32 → Int32 → Mem → Option Mem} (hs2 : ∀ (v1 v2 : Int32) (μ : Mem), self2 v1 v2 μ = some x → WV p l e (rmL 3) s m args below meth c D cI cR n K L ad 3 x μ 2 [(0, .ref (ad o)), (1, .int v1), (2, .int v2)] []) : ∀ (v1 v2 : Int32) (μ : Mem), fX0_topShutSingles_30 L o self2 v1 v2 μ = some x → WV p l e (rmL 3) s m args below meth c D cI cR n K L ad 3 x μ 30 [(0, .ref (ad o)), (1, .int v1), (2, .int v2)] [] := by
  have hx := S.1
  have hb := S.2.1
  intro v1 v2 μ hm H locs ls hP hS hl
  unfold fX0_topShutSingles_30 at hm
  refine r_iinc (b := (1 : Int32)) (k := 2) S hm dX0_topShutSingles_30 hl rfl (by decide) (by decide) (fun a1 ls hm hl => ?_)
  have hl : lv_has ls 3 [(2, .int a1), (0, .ref (ad o)), (1, .int v1)] := hl
  refine lv_goto (tgt := 2) hx hb dX0_topShutSingles_33 (by decide) ?_
  exact hs2 v1 a1 μ hm H locs ls hP hS (lv_sub hl [1, 2, 0] rfl)
set_option maxHeartbeats 4000000 in
set_option maxRecDepth 100000 in
theorem wX0_topShutSingles_2 (S : CallFix p m c cX0_topShutSingles 3 s args TB RX0) (hr : meth.sig.returnType = none ∧ meth.locks = false) (hG : gok D cI cR n K L ad s) {o : Nat} (ho : isk n K o 0) {x : Mem} : ∀ (k : Nat) (v1 v2 : Int32) (μ : Mem), fX0_topShutSingles_2 L o k v1 v2 μ = some x → WV p l e (rmL 3) s m args below meth c D cI cR n K L ad 3 x μ 2 [(0, .ref (ad o)), (1, .int v1), (2, .int v2)] [] := by
  have hx := S.1
  have hb := S.2.1
  intro k
  induction k with
  | zero => intro v1 v2 μ hm; exact absurd (show none = some x from hm) (fun h => by cases h)
  | succ k ih =>
    intro v1 v2 μ hm H locs ls hP hS hl
    have hm : fX0_topShutSingles_2_b L o (fX0_topShutSingles_2 L o k) v1 v2 μ = some x := hm
    unfold fX0_topShutSingles_2_b at hm
    refine lv_iload_n hx hb dX0_topShutSingles_2 rfl (lv_at hl 2 rfl) ?_
    refine lv_aload_n hx hb dX0_topShutSingles_3 rfl (lv_at hl 0 rfl) ?_
    refine lv_iload_n hx hb dX0_topShutSingles_4 rfl (lv_at hl 1 rfl) ?_
    refine r_vcalli (As := [.int v1]) (rest := [.int v2]) S hG hP hS mX0_valuesOf kX0_65 clX0 ho (tX0_valuesOf _ _ _ _ _ _ _ _ ho v1) ⟨rfl, rfl⟩ (rm_ok (by decide) (by decide)) hm hl.1 rfl (Nat.le_of_ble_eq_true rfl) ⟨Nat.zero_le _, Nat.zero_le _⟩ dX0_topShutSingles_5 (fun b3 μ2 H locs hm hP hS => ?_)
    refine b_icmp_ge (tgt := 36) S dX0_topShutSingles_8 (by decide) hm (fun hm => ?_) (fun hm => ?_)
    · exact r_vret S hr hG hP hS hm dX0_topShutSingles_36
    · refine lv_aload_n hx hb dX0_topShutSingles_11 rfl (lv_at hl 0 rfl) ?_
      refine lv_iload_n hx hb dX0_topShutSingles_12 rfl (lv_at hl 1 rfl) ?_
      refine lv_iload_n hx hb dX0_topShutSingles_13 rfl (lv_at hl 2 rfl) ?_
      refine r_vcalli (As := [.int v1, .int v2]) (rest := []) S hG hP hS mX0_isShut kX0_128 clX0 ho (tX0_isShut _ _ _ _ _ _ _ _ ho v1 v2) ⟨rfl, rfl⟩ (rm_ok (by decide) (by decide)) hm hl.1 rfl (Nat.le_of_ble_eq_true rfl) ⟨Nat.zero_le _, Nat.zero_le _⟩ dX0_topShutSingles_14 (fun b5 μ4 H locs hm hP hS => ?_)
      refine b_if_eq (tgt := 30) S dX0_topShutSingles_17 (by decide) hm (fun hm => ?_) (fun hm => ?_)
      · exact wX0_topShutSingles_30 S hr hG ho ih v1 v2 μ4 hm H locs ls hP hS (lv_sub hl [0, 1, 2] rfl)
      · refine lv_aload_n hx hb dX0_topShutSingles_20 rfl (lv_at hl 0 rfl) ?_
        refine lv_iload_n hx hb dX0_topShutSingles_21 rfl (lv_at hl 1 rfl) ?_
        refine lv_iload_n hx hb dX0_topShutSingles_22 rfl (lv_at hl 2 rfl) ?_
        refine lv_aload_n hx hb dX0_topShutSingles_23 rfl (lv_at hl 0 rfl) ?_
        refine r_geti S hG hP ho clX0 fX0_6 kX0_29 dX0_topShutSingles_24 ?_
        refine r_vcallv (As := [.int v1, .int v2, .int (μ4 o 6)]) (rest := []) S hG hP hS mX0_setSingle kX0_54 clX0 ho (tX0_setSingle _ _ _ _ _ _ _ _ ho v1 v2 (μ4 o 6)) ⟨rfl, rfl⟩ (rm_ok (by decide) (by decide)) hm hl.1 rfl (Nat.le_of_ble_eq_true rfl) ⟨Nat.zero_le _, Nat.zero_le _⟩ dX0_topShutSingles_27 (fun μ6 H locs hm hP hS => ?_)
        exact wX0_topShutSingles_30 S hr hG ho ih v1 v2 μ6 hm H locs ls hP hS (lv_sub hl [0, 1, 2] rfl)
set_option maxHeartbeats 4000000 in
set_option maxRecDepth 100000 in
theorem wX0_topShutSingles_0 (S : CallFix p m c cX0_topShutSingles 3 s args TB RX0) (hr : meth.sig.returnType = none ∧ meth.locks = false) (hG : gok D cI cR n K L ad s) {o : Nat} (ho : isk n K o 0) {x : Mem} : ∀ (v1 : Int32) (μ : Mem), fX0_topShutSingles L o v1 μ = some x → WV p l e (rmL 3) s m args below meth c D cI cR n K L ad 3 x μ 0 [(0, .ref (ad o)), (1, .int v1)] [] := by
  have hx := S.1
  have hb := S.2.1
  intro v1 μ hm H locs ls hP hS hl
  unfold fX0_topShutSingles at hm
  refine lv_iconst (v := (0 : Int32)) hx hb dX0_topShutSingles_0 (by decide) ?_
  refine lv_istore_n (lv' := [(2, .int (0 : Int32)), (0, .ref (ad o)), (1, .int v1)]) hx hb dX0_topShutSingles_1 rfl hl (by decide) rfl (fun ls hl => ?_)
  exact wX0_topShutSingles_2 S hr hG ho FU v1 (0 : Int32) μ hm H locs ls hP hS (lv_sub hl [1, 2, 0] rfl)
theorem tX0_topShutSingles (l : Launch) (D : va_G) (cI cR : ClassId) (n : Nat) (K L ad : Nat → Nat) {o : Nat} (ho : isk n K o 0) (v1 : Int32) : Cv l yX0_topShutSingles cX0_topShutSingles 3 none (rmL 3) D cI cR n K L ad [.ref (ad o), .int v1] (fX0_topShutSingles L o v1) := by
  refine Cv.ofW (by decide) (Nat.le_of_ble_eq_true rfl) ?_
  intro μ x hm p e s m args below meth c ls S hr hG hP hS hl
  exact wX0_topShutSingles_0 S hr hG ho v1 μ hm _ _ ls hP hS hl
-- X0_topPairsOfTopSingles
set_option maxHeartbeats 4000000 in
set_option maxRecDepth 100000 in
theorem wX0_topPairsOfTopSingles_81 (S : CallFix p m c cX0_topPairsOfTopSingles 6 s args TB RX0) (hr : meth.sig.returnType = none ∧ meth.locks = false) (hG : gok D cI cR n K L ad s) {o : Nat} (ho : isk n K o 0) {x : Mem} {self30 : Int32 → Int32 → Int32 → Int32 → Int32 → Mem → Option Mem} (hs30 : ∀ (v1 v2 v3 v4 v5 : Int32) (μ : Mem), self30 v1 v2 v3 v4 v5 μ = some x → WV p l e (rmL 2) s m args below meth c D cI cR n K L ad 6 x μ 30 [(0, .ref (ad o)), (1, .int v1), (2, .int v2), (3, .int v3), (4, .int v4), (5, .int v5)] []) : ∀ (v1 v2 v3 v4 v5 : Int32) (μ : Mem), fX0_topPairsOfTopSingles_81 L o self30 v1 v2 v3 v4 v5 μ = some x → WV p l e (rmL 2) s m args below meth c D cI cR n K L ad 6 x μ 81 [(0, .ref (ad o)), (1, .int v1), (2, .int v2), (3, .int v3), (4, .int v4), (5, .int v5)] [] := by
  have hx := S.1
  have hb := S.2.1
  intro v1 v2 v3 v4 v5 μ hm H locs ls hP hS hl
  unfold fX0_topPairsOfTopSingles_81 at hm
  refine r_iinc (b := (1 : Int32)) (k := 5) S hm dX0_topPairsOfTopSingles_81 hl rfl (by decide) (by decide) (fun a1 ls hm hl => ?_)
  have hl : lv_has ls 6 [(5, .int a1), (0, .ref (ad o)), (1, .int v1), (2, .int v2), (3, .int v3), (4, .int v4)] := hl
  refine lv_goto (tgt := 30) hx hb dX0_topPairsOfTopSingles_84 (by decide) ?_
  exact hs30 v1 v2 v3 v4 a1 μ hm H locs ls hP hS (lv_sub hl [1, 2, 3, 4, 5, 0] rfl)
set_option maxHeartbeats 4000000 in
set_option maxRecDepth 100000 in
theorem wX0_topPairsOfTopSingles_68 (S : CallFix p m c cX0_topPairsOfTopSingles 6 s args TB RX0) (hr : meth.sig.returnType = none ∧ meth.locks = false) (hG : gok D cI cR n K L ad s) {o : Nat} (ho : isk n K o 0) {x : Mem} {self30 : Int32 → Int32 → Int32 → Int32 → Int32 → Mem → Option Mem} (hs30 : ∀ (v1 v2 v3 v4 v5 : Int32) (μ : Mem), self30 v1 v2 v3 v4 v5 μ = some x → WV p l e (rmL 2) s m args below meth c D cI cR n K L ad 6 x μ 30 [(0, .ref (ad o)), (1, .int v1), (2, .int v2), (3, .int v3), (4, .int v4), (5, .int v5)] []) : ∀ (v1 v2 v3 v4 v5 : Int32) (μ : Mem), fX0_topPairsOfTopSingles_68 L o self30 v1 v2 v3 v4 v5 μ = some x → WV p l e (rmL 2) s m args below meth c D cI cR n K L ad 6 x μ 68 [(0, .ref (ad o)), (1, .int v1), (2, .int v2), (3, .int v3), (4, .int v4), (5, .int v5)] [] := by
  have hx := S.1
  have hb := S.2.1
  intro v1 v2 v3 v4 v5 μ hm H locs ls hP hS hl
  unfold fX0_topPairsOfTopSingles_68 at hm
  refine lv_aload_n hx hb dX0_topPairsOfTopSingles_68 rfl (lv_at hl 0 rfl) ?_
  refine lv_iload_n hx hb dX0_topPairsOfTopSingles_69 rfl (lv_at hl 1 rfl) ?_
  refine lv_iload hx hb dX0_topPairsOfTopSingles_70 (lv_at hl 4 rfl) ?_
  refine lv_iload hx hb dX0_topPairsOfTopSingles_72 (lv_at hl 5 rfl) ?_
  refine lv_aload_n hx hb dX0_topPairsOfTopSingles_74 rfl (lv_at hl 0 rfl) ?_
  refine r_geti S hG hP ho clX0 fX0_6 kX0_29 dX0_topPairsOfTopSingles_75 ?_
  refine r_vcallv (As := [.int v1, .int v4, .int v5, .int (μ o 6)]) (rest := []) S hG hP hS mX0_setPair kX0_75 clX0 ho (tX0_setPair _ _ _ _ _ _ _ _ ho v1 v4 v5 (μ o 6)) ⟨rfl, rfl⟩ (rm_ok (by decide) (by decide)) hm hl.1 rfl (Nat.le_of_ble_eq_true rfl) ⟨Nat.zero_le _, Nat.zero_le _⟩ dX0_topPairsOfTopSingles_78 (fun μ2 H locs hm hP hS => ?_)
  exact wX0_topPairsOfTopSingles_81 S hr hG ho hs30 v1 v2 v3 v4 v5 μ2 hm H locs ls hP hS (lv_sub hl [0, 1, 2, 3, 4, 5] rfl)
set_option maxHeartbeats 4000000 in
set_option maxRecDepth 100000 in
theorem wX0_topPairsOfTopSingles_30 (S : CallFix p m c cX0_topPairsOfTopSingles 6 s args TB RX0) (hr : meth.sig.returnType = none ∧ meth.locks = false) (hG : gok D cI cR n K L ad s) {o : Nat} (ho : isk n K o 0) {x : Mem} {self17 : Int32 → Int32 → Int32 → Int32 → Mem → Option Mem} (hs17 : ∀ (v1 v2 v3 v4 : Int32) (μ : Mem), self17 v1 v2 v3 v4 μ = some x → WV p l e (rmL 2) s m args below meth c D cI cR n K L ad 6 x μ 17 [(0, .ref (ad o)), (1, .int v1), (2, .int v2), (3, .int v3), (4, .int v4)] []) : ∀ (k : Nat) (v1 v2 v3 v4 v5 : Int32) (μ : Mem), fX0_topPairsOfTopSingles_30 L o self17 k v1 v2 v3 v4 v5 μ = some x → WV p l e (rmL 2) s m args below meth c D cI cR n K L ad 6 x μ 30 [(0, .ref (ad o)), (1, .int v1), (2, .int v2), (3, .int v3), (4, .int v4), (5, .int v5)] [] := by
  have hx := S.1
  have hb := S.2.1
  intro k
  induction k with
  | zero => intro v1 v2 v3 v4 v5 μ hm; exact absurd (show none = some x from hm) (fun h => by cases h)
  | succ k ih =>
    intro v1 v2 v3 v4 v5 μ hm H locs ls hP hS hl
    have hm : fX0_topPairsOfTopSingles_30_b L o self17 (fX0_topPairsOfTopSingles_30 L o self17 k) v1 v2 v3 v4 v5 μ = some x := hm
    unfold fX0_topPairsOfTopSingles_30_b at hm
    refine lv_iload hx hb dX0_topPairsOfTopSingles_30 (lv_at hl 5 rfl) ?_
    refine lv_aload_n hx hb dX0_topPairsOfTopSingles_32 rfl (lv_at hl 0 rfl) ?_
    refine lv_iload_n hx hb dX0_topPairsOfTopSingles_33 rfl (lv_at hl 3 rfl) ?_
    refine r_vcalli (As := [.int v3]) (rest := [.int v5]) S hG hP hS mX0_valuesOf kX0_65 clX0 ho (tX0_valuesOf _ _ _ _ _ _ _ _ ho v3) ⟨rfl, rfl⟩ (rm_ok (by decide) (by decide)) hm hl.1 rfl (Nat.le_of_ble_eq_true rfl) ⟨Nat.zero_le _, Nat.zero_le _⟩ dX0_topPairsOfTopSingles_34 (fun b4 μ3 H locs hm hP hS => ?_)
    refine b_icmp_ge (tgt := 87) S dX0_topPairsOfTopSingles_37 (by decide) hm (fun hm => ?_) (fun hm => ?_)
    · refine r_iinc (b := (1 : Int32)) (k := 4) S hm dX0_topPairsOfTopSingles_87 hl rfl (by decide) (by decide) (fun a5 ls hm hl => ?_)
      have hl : lv_has ls 6 [(4, .int a5), (0, .ref (ad o)), (1, .int v1), (2, .int v2), (3, .int v3), (5, .int v5)] := hl
      refine lv_goto (tgt := 17) hx hb dX0_topPairsOfTopSingles_90 (by decide) ?_
      exact hs17 v1 v2 v3 a5 μ3 hm H locs ls hP hS (lv_sub hl [1, 2, 3, 4, 0] rfl)
    · refine lv_aload_n hx hb dX0_topPairsOfTopSingles_40 rfl (lv_at hl 0 rfl) ?_
      refine lv_iload_n hx hb dX0_topPairsOfTopSingles_41 rfl (lv_at hl 2 rfl) ?_
      refine lv_iload hx hb dX0_topPairsOfTopSingles_42 (lv_at hl 4 rfl) ?_
      refine r_vcalli (As := [.int v2, .int v4]) (rest := []) S hG hP hS mX0_singleCost kX0_102 clX0 ho (tX0_singleCost _ _ _ _ _ _ _ _ ho v2 v4) ⟨rfl, rfl⟩ (rm_ok (by decide) (by decide)) hm hl.1 rfl (Nat.le_of_ble_eq_true rfl) ⟨Nat.zero_le _, Nat.zero_le _⟩ dX0_topPairsOfTopSingles_44 (fun b7 μ6 H locs hm hP hS => ?_)
      refine lv_aload_n hx hb dX0_topPairsOfTopSingles_47 rfl (lv_at hl 0 rfl) ?_
      refine r_geti S hG hP ho clX0 fX0_6 kX0_29 dX0_topPairsOfTopSingles_48 ?_
      refine b_icmp_eq (tgt := 68) S dX0_topPairsOfTopSingles_51 (by decide) hm (fun hm => ?_) (fun hm => ?_)
      · exact wX0_topPairsOfTopSingles_68 S hr hG ho ih v1 v2 v3 v4 v5 μ6 hm H locs ls hP hS (lv_sub hl [0, 1, 2, 3, 4, 5] rfl)
      · refine lv_aload_n hx hb dX0_topPairsOfTopSingles_54 rfl (lv_at hl 0 rfl) ?_
        refine lv_iload_n hx hb dX0_topPairsOfTopSingles_55 rfl (lv_at hl 3 rfl) ?_
        refine lv_iload hx hb dX0_topPairsOfTopSingles_56 (lv_at hl 5 rfl) ?_
        refine r_vcalli (As := [.int v3, .int v5]) (rest := []) S hG hP hS mX0_singleCost kX0_102 clX0 ho (tX0_singleCost _ _ _ _ _ _ _ _ ho v3 v5) ⟨rfl, rfl⟩ (rm_ok (by decide) (by decide)) hm hl.1 rfl (Nat.le_of_ble_eq_true rfl) ⟨Nat.zero_le _, Nat.zero_le _⟩ dX0_topPairsOfTopSingles_58 (fun b9 μ8 H locs hm hP hS => ?_)
        refine lv_aload_n hx hb dX0_topPairsOfTopSingles_61 rfl (lv_at hl 0 rfl) ?_
        refine r_geti S hG hP ho clX0 fX0_6 kX0_29 dX0_topPairsOfTopSingles_62 ?_
        refine b_icmp_ne (tgt := 81) S dX0_topPairsOfTopSingles_65 (by decide) hm (fun hm => ?_) (fun hm => ?_)
        · exact wX0_topPairsOfTopSingles_81 S hr hG ho ih v1 v2 v3 v4 v5 μ8 hm H locs ls hP hS (lv_sub hl [0, 1, 2, 3, 4, 5] rfl)
        · exact wX0_topPairsOfTopSingles_68 S hr hG ho ih v1 v2 v3 v4 v5 μ8 hm H locs ls hP hS (lv_sub hl [0, 1, 2, 3, 4, 5] rfl)
set_option maxHeartbeats 4000000 in
set_option maxRecDepth 100000 in
theorem wX0_topPairsOfTopSingles_17 (S : CallFix p m c cX0_topPairsOfTopSingles 6 s args TB RX0) (hr : meth.sig.returnType = none ∧ meth.locks = false) (hG : gok D cI cR n K L ad s) {o : Nat} (ho : isk n K o 0) {x : Mem} : ∀ (k : Nat) (v1 v2 v3 v4 : Int32) (μ : Mem), fX0_topPairsOfTopSingles_17 L o k v1 v2 v3 v4 μ = some x → WV p l e (rmL 2) s m args below meth c D cI cR n K L ad 6 x μ 17 [(0, .ref (ad o)), (1, .int v1), (2, .int v2), (3, .int v3), (4, .int v4)] [] := by
  have hx := S.1
  have hb := S.2.1
  intro k
  induction k with
  | zero => intro v1 v2 v3 v4 μ hm; exact absurd (show none = some x from hm) (fun h => by cases h)
  | succ k ih =>
    intro v1 v2 v3 v4 μ hm H locs ls hP hS hl
    have hm : fX0_topPairsOfTopSingles_17_b L o (fX0_topPairsOfTopSingles_17 L o k) v1 v2 v3 v4 μ = some x := hm
    unfold fX0_topPairsOfTopSingles_17_b at hm
    refine lv_iload hx hb dX0_topPairsOfTopSingles_17 (lv_at hl 4 rfl) ?_
    refine lv_aload_n hx hb dX0_topPairsOfTopSingles_19 rfl (lv_at hl 0 rfl) ?_
    refine lv_iload_n hx hb dX0_topPairsOfTopSingles_20 rfl (lv_at hl 2 rfl) ?_
    refine r_vcalli (As := [.int v2]) (rest := [.int v4]) S hG hP hS mX0_valuesOf kX0_65 clX0 ho (tX0_valuesOf _ _ _ _ _ _ _ _ ho v2) ⟨rfl, rfl⟩ (rm_ok (by decide) (by decide)) hm hl.1 rfl (Nat.le_of_ble_eq_true rfl) ⟨Nat.zero_le _, Nat.zero_le _⟩ dX0_topPairsOfTopSingles_21 (fun b11 μ10 H locs hm hP hS => ?_)
    refine b_icmp_ge (tgt := 93) S dX0_topPairsOfTopSingles_24 (by decide) hm (fun hm => ?_) (fun hm => ?_)
    · exact r_vret S hr hG hP hS hm dX0_topPairsOfTopSingles_93
    · refine lv_iconst (v := (0 : Int32)) hx hb dX0_topPairsOfTopSingles_27 (by decide) ?_
      refine lv_istore (lv' := [(5, .int (0 : Int32)), (0, .ref (ad o)), (1, .int v1), (2, .int v2), (3, .int v3), (4, .int v4)]) hx hb dX0_topPairsOfTopSingles_28 hl (by decide) rfl (fun ls hl => ?_)
      exact wX0_topPairsOfTopSingles_30 S hr hG ho ih FU v1 v2 v3 v4 (0 : Int32) μ10 hm H locs ls hP hS (lv_sub hl [1, 2, 3, 4, 5, 0] rfl)
set_option maxHeartbeats 4000000 in
set_option maxRecDepth 100000 in
theorem wX0_topPairsOfTopSingles_0 (S : CallFix p m c cX0_topPairsOfTopSingles 6 s args TB RX0) (hr : meth.sig.returnType = none ∧ meth.locks = false) (hG : gok D cI cR n K L ad s) {o : Nat} (ho : isk n K o 0) {x : Mem} : ∀ (v1 : Int32) (μ : Mem), fX0_topPairsOfTopSingles L o v1 μ = some x → WV p l e (rmL 2) s m args below meth c D cI cR n K L ad 6 x μ 0 [(0, .ref (ad o)), (1, .int v1)] [] := by
  have hx := S.1
  have hb := S.2.1
  intro v1 μ hm H locs ls hP hS hl
  unfold fX0_topPairsOfTopSingles at hm
  refine lv_aload_n hx hb dX0_topPairsOfTopSingles_0 rfl (lv_at hl 0 rfl) ?_
  refine lv_iload_n hx hb dX0_topPairsOfTopSingles_1 rfl (lv_at hl 1 rfl) ?_
  refine lv_iconst (v := (0 : Int32)) hx hb dX0_topPairsOfTopSingles_2 (by decide) ?_
  refine r_vcalli (As := [.int v1, .int (0 : Int32)]) (rest := []) S hG hP hS mX0_nameOn kX0_79 clX0 ho (tX0_nameOn _ _ _ _ _ _ _ _ ho v1 (0 : Int32)) ⟨rfl, rfl⟩ (rm_ok (by decide) (by decide)) hm hl.1 rfl (Nat.le_of_ble_eq_true rfl) ⟨Nat.zero_le _, Nat.zero_le _⟩ dX0_topPairsOfTopSingles_3 (fun b13 μ12 H locs hm hP hS => ?_)
  refine lv_istore_n (lv' := [(2, .int b13), (0, .ref (ad o)), (1, .int v1)]) hx hb dX0_topPairsOfTopSingles_6 rfl hl (by decide) rfl (fun ls hl => ?_)
  refine lv_aload_n hx hb dX0_topPairsOfTopSingles_7 rfl (lv_at hl 1 rfl) ?_
  refine lv_iload_n hx hb dX0_topPairsOfTopSingles_8 rfl (lv_at hl 2 rfl) ?_
  refine lv_iconst (v := (1 : Int32)) hx hb dX0_topPairsOfTopSingles_9 (by decide) ?_
  refine r_vcalli (As := [.int v1, .int (1 : Int32)]) (rest := []) S hG hP hS mX0_nameOn kX0_79 clX0 ho (tX0_nameOn _ _ _ _ _ _ _ _ ho v1 (1 : Int32)) ⟨rfl, rfl⟩ (rm_ok (by decide) (by decide)) hm hl.1 rfl (Nat.le_of_ble_eq_true rfl) ⟨Nat.zero_le _, Nat.zero_le _⟩ dX0_topPairsOfTopSingles_10 (fun b15 μ14 H locs hm hP hS => ?_)
  refine lv_istore_n (lv' := [(3, .int b15), (2, .int b13), (0, .ref (ad o)), (1, .int v1)]) hx hb dX0_topPairsOfTopSingles_13 rfl hl (by decide) rfl (fun ls hl => ?_)
  refine lv_iconst (v := (0 : Int32)) hx hb dX0_topPairsOfTopSingles_14 (by decide) ?_
  refine lv_istore (lv' := [(4, .int (0 : Int32)), (3, .int b15), (2, .int b13), (0, .ref (ad o)), (1, .int v1)]) hx hb dX0_topPairsOfTopSingles_15 hl (by decide) rfl (fun ls hl => ?_)
  exact wX0_topPairsOfTopSingles_17 S hr hG ho FU v1 b13 b15 (0 : Int32) μ14 hm H locs ls hP hS (lv_sub hl [3, 4, 2, 1, 0] rfl)
theorem tX0_topPairsOfTopSingles (l : Launch) (D : va_G) (cI cR : ClassId) (n : Nat) (K L ad : Nat → Nat) {o : Nat} (ho : isk n K o 0) (v1 : Int32) : Cv l yX0_topPairsOfTopSingles cX0_topPairsOfTopSingles 6 none (rmL 2) D cI cR n K L ad [.ref (ad o), .int v1] (fX0_topPairsOfTopSingles L o v1) := by
  refine Cv.ofW (by decide) (Nat.le_of_ble_eq_true rfl) ?_
  intro μ x hm p e s m args below meth c ls S hr hG hP hS hl
  exact wX0_topPairsOfTopSingles_0 S hr hG ho v1 μ hm _ _ ls hP hS hl
end WALKB
