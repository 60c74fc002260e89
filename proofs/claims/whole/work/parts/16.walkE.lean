section WALKE
variable {p : Program} {l : Launch} {e : Env} {s : State} {m : MethodId} {args : Array Value} {below : List Frame} {meth : Method} {c : Code} {D : va_G} {cI cR : ClassId} {n : Nat} {K L ad : Nat → Nat}
-- X8_write
set_option maxHeartbeats 4000000 in
set_option maxRecDepth 100000 in
theorem wX8_write_0 (S : CallFix p m c cX8_write 2 s args TB RX8) (hr : meth.sig.returnType = (some .int) ∧ meth.locks = false) (hG : gok D cI cR n K L ad s) {o : Nat} (ho : isk n K o 8) {x : Int32 × Mem} : ∀ (v1 : Int32) (μ : Mem), fX8_write L o v1 μ = some x → WI p l e (rmL 2) s m args below meth c D cI cR n K L ad 2 x μ 0 [(0, .ref (ad o)), (1, .int v1)] [] := by
  have hx := S.1
  have hb := S.2.1
  intro v1 μ hm H locs ls hP hS hl
  unfold fX8_write at hm
  refine lv_iload_n hx hb dX8_write_0 rfl (lv_at hl 1 rfl) ?_
  refine lv_bipush (v := (32 : Int32)) hx hb dX8_write_1 (by decide) ?_
  refine b_icmp_lt (tgt := 12) S dX8_write_3 (by decide) hm (fun hm => ?_) (fun hm => ?_)
  · refine lv_iconst (v := (-1 : Int32)) hx hb dX8_write_12 (by decide) ?_
    exact r_iret S hr hG hP hS hm dX8_write_13
  · refine lv_iload_n hx hb dX8_write_6 rfl (lv_at hl 1 rfl) ?_
    refine lv_bipush (v := (126 : Int32)) hx hb dX8_write_7 (by decide) ?_
    refine b_icmp_le (tgt := 14) S dX8_write_9 (by decide) hm (fun hm => ?_) (fun hm => ?_)
    · refine lv_aload_n hx hb dX8_write_14 rfl (lv_at hl 0 rfl) ?_
      refine r_getr S hG hP ho clX8 fX8_0 kX8_12 dX8_write_15 ?_
      refine lv_iload_n hx hb dX8_write_18 rfl (lv_at hl 1 rfl) ?_
      refine r_vcalli (As := [.int v1]) (rest := []) S hG hP hS mX6_add kX8_82 clX6 (chX8_0 hG ho) (tX6_add _ _ _ _ _ _ _ _ (chX8_0 hG ho) v1) ⟨rfl, rfl⟩ (rm_ok (by decide) (by decide)) hm hl.1 rfl (Nat.le_of_ble_eq_true rfl) ⟨Nat.zero_le _, Nat.zero_le _⟩ dX8_write_19 (fun b2 μ1 H locs hm hP hS => ?_)
      refine b_if_eq (tgt := 35) S dX8_write_22 (by decide) hm (fun hm => ?_) (fun hm => ?_)
      · refine lv_bipush (v := (-3 : Int32)) hx hb dX8_write_35 (by decide) ?_
        exact r_iret S hr hG hP hS hm dX8_write_37
      · refine lv_aload_n hx hb dX8_write_25 rfl (lv_at hl 0 rfl) ?_
        refine r_getr S hG hP ho clX8 fX8_0 kX8_12 dX8_write_26 ?_
        refine r_vcalli (As := []) (rest := []) S hG hP hS mX6_length kX8_93 clX6 (chX8_0 hG ho) (tX6_length _ _ _ _ _ _ _ _ (chX8_0 hG ho)) ⟨rfl, rfl⟩ (rm_ok (by decide) (by decide)) hm hl.1 rfl (Nat.le_of_ble_eq_true rfl) ⟨Nat.zero_le _, Nat.zero_le _⟩ dX8_write_29 (fun b4 μ3 H locs hm hP hS => ?_)
        refine lv_goto (tgt := 37) hx hb dX8_write_32 (by decide) ?_
        exact r_iret S hr hG hP hS hm dX8_write_37
    · refine lv_iconst (v := (-1 : Int32)) hx hb dX8_write_12 (by decide) ?_
      exact r_iret S hr hG hP hS hm dX8_write_13
theorem tX8_write (l : Launch) (D : va_G) (cI cR : ClassId) (n : Nat) (K L ad : Nat → Nat) {o : Nat} (ho : isk n K o 8) (v1 : Int32) : Ci l yX8_write cX8_write 2 (some .int) (rmL 2) D cI cR n K L ad [.ref (ad o), .int v1] (fX8_write L o v1) := by
  refine Ci.ofW (by decide) (Nat.le_of_ble_eq_true rfl) ?_
  intro μ x hm p e s m args below meth c ls S hr hG hP hS hl
  exact wX8_write_0 S hr hG ho v1 μ hm _ _ ls hP hS hl
-- X8_wipe
set_option maxHeartbeats 4000000 in
set_option maxRecDepth 100000 in
theorem wX8_wipe_0 (S : CallFix p m c cX8_wipe 2 s args TB RX8) (hr : meth.sig.returnType = (some .int) ∧ meth.locks = false) (hG : gok D cI cR n K L ad s) {o : Nat} (ho : isk n K o 8) {x : Int32 × Mem} : ∀ (μ : Mem), fX8_wipe L o μ = some x → WI p l e (rmL 1) s m args below meth c D cI cR n K L ad 2 x μ 0 [(0, .ref (ad o))] [] := by
  have hx := S.1
  have hb := S.2.1
  intro μ hm H locs ls hP hS hl
  unfold fX8_wipe at hm
  refine lv_aload_n hx hb dX8_wipe_0 rfl (lv_at hl 0 rfl) ?_
  refine r_getr S hG hP ho clX8 fX8_0 kX8_12 dX8_wipe_1 ?_
  refine r_vcalli (As := []) (rest := []) S hG hP hS mX6_length kX8_93 clX6 (chX8_0 hG ho) (tX6_length _ _ _ _ _ _ _ _ (chX8_0 hG ho)) ⟨rfl, rfl⟩ (rm_ok (by decide) (by decide)) hm hl.1 rfl (Nat.le_of_ble_eq_true rfl) ⟨Nat.zero_le _, Nat.zero_le _⟩ dX8_wipe_4 (fun b2 μ1 H locs hm hP hS => ?_)
  refine lv_istore_n (lv' := [(1, .int b2), (0, .ref (ad o))]) hx hb dX8_wipe_7 rfl hl (by decide) rfl (fun ls hl => ?_)
  refine lv_aload_n hx hb dX8_wipe_8 rfl (lv_at hl 1 rfl) ?_
  refine r_getr S hG hP ho clX8 fX8_0 kX8_12 dX8_wipe_9 ?_
  refine r_vcallv (As := []) (rest := []) S hG hP hS mX6_clear kX8_90 clX6 (chX8_0 hG ho) (tX6_clear _ _ _ _ _ _ _ _ (chX8_0 hG ho)) ⟨rfl, rfl⟩ (rm_ok (by decide) (by decide)) hm hl.1 rfl (Nat.le_of_ble_eq_true rfl) ⟨Nat.zero_le _, Nat.zero_le _⟩ dX8_wipe_12 (fun μ3 H locs hm hP hS => ?_)
  refine lv_iload_n hx hb dX8_wipe_15 rfl (lv_at hl 0 rfl) ?_
  exact r_iret S hr hG hP hS hm dX8_wipe_16
theorem tX8_wipe (l : Launch) (D : va_G) (cI cR : ClassId) (n : Nat) (K L ad : Nat → Nat) {o : Nat} (ho : isk n K o 8) : Ci l yX8_wipe cX8_wipe 2 (some .int) (rmL 1) D cI cR n K L ad [.ref (ad o)] (fX8_wipe L o) := by
  refine Ci.ofW (by decide) (Nat.le_of_ble_eq_true rfl) ?_
  intro μ x hm p e s m args below meth c ls S hr hG hP hS hl
  exact wX8_wipe_0 S hr hG ho μ hm _ _ ls hP hS hl
-- X8_fault
set_option maxHeartbeats 4000000 in
set_option maxRecDepth 100000 in
theorem wX8_fault_0 (S : CallFix p m c cX8_fault 1 s args TB RX8) (hr : meth.sig.returnType = (some .int) ∧ meth.locks = false) (hG : gok D cI cR n K L ad s) {o : Nat} (ho : isk n K o 8) {x : Int32 × Mem} : ∀ (μ : Mem), fX8_fault L o μ = some x → WI p l e (rmL 7) s m args below meth c D cI cR n K L ad 1 x μ 0 [(0, .ref (ad o))] [] := by
  have hx := S.1
  have hb := S.2.1
  intro μ hm H locs ls hP hS hl
  unfold fX8_fault at hm
  refine lv_aload_n hx hb dX8_fault_0 rfl (lv_at hl 0 rfl) ?_
  refine r_getr S hG hP ho clX8 fX8_1 kX8_19 dX8_fault_1 ?_
  refine lv_aload_n hx hb dX8_fault_4 rfl (lv_at hl 0 rfl) ?_
  refine r_getr S hG hP ho clX8 fX8_0 kX8_12 dX8_fault_5 ?_
  refine lv_aload_n hx hb dX8_fault_8 rfl (lv_at hl 0 rfl) ?_
  refine r_getr S hG hP ho clX8 fX8_3 kX8_30 dX8_fault_9 ?_
  refine r_vcalli (As := [.ref (ad (o + 1)), .ref (ad (o + 16))]) (rest := []) S hG hP hS mX2_readAll kX8_86 clX2 (chX8_1 hG ho) (tX2_readAll _ _ _ _ _ _ _ _ (chX8_1 hG ho) (chX8_0 hG ho) (chX8_3 hG ho)) ⟨rfl, rfl⟩ (rm_ok (by decide) (by decide)) hm hl.1 rfl (Nat.le_of_ble_eq_true rfl) ⟨Nat.zero_le _, Nat.zero_le _⟩ dX8_fault_12 (fun b2 μ1 H locs hm hP hS => ?_)
  exact r_iret S hr hG hP hS hm dX8_fault_15
theorem tX8_fault (l : Launch) (D : va_G) (cI cR : ClassId) (n : Nat) (K L ad : Nat → Nat) {o : Nat} (ho : isk n K o 8) : Ci l yX8_fault cX8_fault 1 (some .int) (rmL 7) D cI cR n K L ad [.ref (ad o)] (fX8_fault L o) := by
  refine Ci.ofW (by decide) (Nat.le_of_ble_eq_true rfl) ?_
  intro μ x hm p e s m args below meth c ls S hr hG hP hS hl
  exact wX8_fault_0 S hr hG ho μ hm _ _ ls hP hS hl
-- X8_lay
set_option maxHeartbeats 4000000 in
set_option maxRecDepth 100000 in
theorem wX8_lay_0 (S : CallFix p m c cX8_lay 1 s args TB RX8) (hr : meth.sig.returnType = (some .int) ∧ meth.locks = false) (hG : gok D cI cR n K L ad s) {o : Nat} (ho : isk n K o 8) {x : Int32 × Mem} : ∀ (μ : Mem), fX8_lay L o μ = some x → WI p l e (rmL 7) s m args below meth c D cI cR n K L ad 1 x μ 0 [(0, .ref (ad o))] [] := by
  have hx := S.1
  have hb := S.2.1
  intro μ hm H locs ls hP hS hl
  unfold fX8_lay at hm
  refine lv_aload_n hx hb dX8_lay_0 rfl (lv_at hl 0 rfl) ?_
  refine r_getr S hG hP ho clX8 fX8_1 kX8_19 dX8_lay_1 ?_
  refine lv_aload_n hx hb dX8_lay_4 rfl (lv_at hl 0 rfl) ?_
  refine r_getr S hG hP ho clX8 fX8_0 kX8_12 dX8_lay_5 ?_
  refine lv_aload_n hx hb dX8_lay_8 rfl (lv_at hl 0 rfl) ?_
  refine r_getr S hG hP ho clX8 fX8_3 kX8_30 dX8_lay_9 ?_
  refine r_vcalli (As := [.ref (ad (o + 1)), .ref (ad (o + 16))]) (rest := []) S hG hP hS mX2_readAll kX8_86 clX2 (chX8_1 hG ho) (tX2_readAll _ _ _ _ _ _ _ _ (chX8_1 hG ho) (chX8_0 hG ho) (chX8_3 hG ho)) ⟨rfl, rfl⟩ (rm_ok (by decide) (by decide)) hm hl.1 rfl (Nat.le_of_ble_eq_true rfl) ⟨Nat.zero_le _, Nat.zero_le _⟩ dX8_lay_12 (fun b2 μ1 H locs hm hP hS => ?_)
  refine lv_bipush (v := (-4 : Int32)) hx hb dX8_lay_15 (by decide) ?_
  refine b_icmp_ne (tgt := 30) S dX8_lay_17 (by decide) hm (fun hm => ?_) (fun hm => ?_)
  · refine lv_bipush (v := (-2 : Int32)) hx hb dX8_lay_30 (by decide) ?_
    exact r_iret S hr hG hP hS hm dX8_lay_32
  · refine lv_aload_n hx hb dX8_lay_20 rfl (lv_at hl 0 rfl) ?_
    refine r_getr S hG hP ho clX8 fX8_3 kX8_30 dX8_lay_21 ?_
    refine r_vcalli (As := []) (rest := []) S hG hP hS mX0_names kX8_94 clX0 (chX8_3 hG ho) (tX0_names _ _ _ _ _ _ _ _ (chX8_3 hG ho)) ⟨rfl, rfl⟩ (rm_ok (by decide) (by decide)) hm hl.1 rfl (Nat.le_of_ble_eq_true rfl) ⟨Nat.zero_le _, Nat.zero_le _⟩ dX8_lay_24 (fun b4 μ3 H locs hm hP hS => ?_)
    refine b_if_ne (tgt := 33) S dX8_lay_27 (by decide) hm (fun hm => ?_) (fun hm => ?_)
    · refine lv_aload_n hx hb dX8_lay_33 rfl (lv_at hl 0 rfl) ?_
      refine r_getr S hG hP ho clX8 fX8_2 kX8_26 dX8_lay_34 ?_
      refine lv_aload_n hx hb dX8_lay_37 rfl (lv_at hl 0 rfl) ?_
      refine r_getr S hG hP ho clX8 fX8_3 kX8_30 dX8_lay_38 ?_
      refine r_vcallv (As := [.ref (ad (o + 16))]) (rest := []) S hG hP hS mX0_takeAll kX8_97 clX0 (chX8_2 hG ho) (tX0_takeAll _ _ _ _ _ _ _ _ (chX8_2 hG ho) (chX8_3 hG ho)) ⟨rfl, rfl⟩ (rm_ok (by decide) (by decide)) hm hl.1 rfl (Nat.le_of_ble_eq_true rfl) ⟨Nat.zero_le _, Nat.zero_le _⟩ dX8_lay_41 (fun μ5 H locs hm hP hS => ?_)
      refine lv_aload_n hx hb dX8_lay_44 rfl (lv_at hl 0 rfl) ?_
      refine r_getr S hG hP ho clX8 fX8_4 kX8_38 dX8_lay_45 ?_
      refine r_vcallv (As := []) (rest := []) S hG hP hS mX3_clear kX8_101 clX3 (chX8_4 hG ho) (tX3_clear _ _ _ _ _ _ _ _ (chX8_4 hG ho)) ⟨rfl, rfl⟩ (rm_ok (by decide) (by decide)) hm hl.1 rfl (Nat.le_of_ble_eq_true rfl) ⟨Nat.zero_le _, Nat.zero_le _⟩ dX8_lay_48 (fun μ6 H locs hm hP hS => ?_)
      refine lv_aload_n hx hb dX8_lay_51 rfl (lv_at hl 0 rfl) ?_
      refine r_getr S hG hP ho clX8 fX8_6 kX8_52 dX8_lay_52 ?_
      refine r_vcallv (As := []) (rest := []) S hG hP hS mX1_clear kX8_102 clX1 (chX8_6 hG ho) (tX1_clear _ _ _ _ _ _ _ _ (chX8_6 hG ho)) ⟨rfl, rfl⟩ (rm_ok (by decide) (by decide)) hm hl.1 rfl (Nat.le_of_ble_eq_true rfl) ⟨Nat.zero_le _, Nat.zero_le _⟩ dX8_lay_55 (fun μ7 H locs hm hP hS => ?_)
      refine lv_aload_n hx hb dX8_lay_58 rfl (lv_at hl 0 rfl) ?_
      refine r_getr S hG hP ho clX8 fX8_2 kX8_26 dX8_lay_59 ?_
      refine r_vcalli (As := []) (rest := []) S hG hP hS mX0_names kX8_94 clX0 (chX8_2 hG ho) (tX0_names _ _ _ _ _ _ _ _ (chX8_2 hG ho)) ⟨rfl, rfl⟩ (rm_ok (by decide) (by decide)) hm hl.1 rfl (Nat.le_of_ble_eq_true rfl) ⟨Nat.zero_le _, Nat.zero_le _⟩ dX8_lay_62 (fun b9 μ8 H locs hm hP hS => ?_)
      exact r_iret S hr hG hP hS hm dX8_lay_65
    · refine lv_bipush (v := (-2 : Int32)) hx hb dX8_lay_30 (by decide) ?_
      exact r_iret S hr hG hP hS hm dX8_lay_32
theorem tX8_lay (l : Launch) (D : va_G) (cI cR : ClassId) (n : Nat) (K L ad : Nat → Nat) {o : Nat} (ho : isk n K o 8) : Ci l yX8_lay cX8_lay 1 (some .int) (rmL 7) D cI cR n K L ad [.ref (ad o)] (fX8_lay L o) := by
  refine Ci.ofW (by decide) (Nat.le_of_ble_eq_true rfl) ?_
  intro μ x hm p e s m args below meth c ls S hr hG hP hS hl
  exact wX8_lay_0 S hr hG ho μ hm _ _ ls hP hS hl
-- X8_name
set_option maxHeartbeats 4000000 in
set_option maxRecDepth 100000 in
theorem wX8_name_0 (S : CallFix p m c cX8_name 3 s args TB RX8) (hr : meth.sig.returnType = (some .int) ∧ meth.locks = false) (hG : gok D cI cR n K L ad s) {o : Nat} (ho : isk n K o 8) {x : Int32 × Mem} : ∀ (v1 v2 : Int32) (μ : Mem), fX8_name L o v1 v2 μ = some x → WI p l e (rmL 4) s m args below meth c D cI cR n K L ad 3 x μ 0 [(0, .ref (ad o)), (1, .int v1), (2, .int v2)] [] := by
  have hx := S.1
  have hb := S.2.1
  intro v1 v2 μ hm H locs ls hP hS hl
  unfold fX8_name at hm
  refine lv_aload_n hx hb dX8_name_0 rfl (lv_at hl 0 rfl) ?_
  refine r_getr S hG hP ho clX8 fX8_2 kX8_26 dX8_name_1 ?_
  refine lv_iload_n hx hb dX8_name_4 rfl (lv_at hl 1 rfl) ?_
  refine r_vcalli (As := [.int v1]) (rest := []) S hG hP hS mX0_hasName kX8_103 clX0 (chX8_2 hG ho) (tX0_hasName _ _ _ _ _ _ _ _ (chX8_2 hG ho) v1) ⟨rfl, rfl⟩ (rm_ok (by decide) (by decide)) hm hl.1 rfl (Nat.le_of_ble_eq_true rfl) ⟨Nat.zero_le _, Nat.zero_le _⟩ dX8_name_5 (fun b2 μ1 H locs hm hP hS => ?_)
  refine b_if_ne (tgt := 13) S dX8_name_8 (by decide) hm (fun hm => ?_) (fun hm => ?_)
  · refine lv_iload_n hx hb dX8_name_13 rfl (lv_at hl 2 rfl) ?_
    refine b_sw (k := (0 : Int32)) hm (fun hv14_0 hm => ?_) (fun hv14_0 hm => ?_)
    · refine lv_tableIn (off := 30) (tgt := 44) hx hb dX8_name_14 (by rw [hv14_0] <;> decide) (by rw [hv14_0] <;> decide) (by rw [hv14_0] <;> rfl) (by decide) ?_
      refine lv_aload_n hx hb dX8_name_44 rfl (lv_at hl 0 rfl) ?_
      refine r_getr S hG hP ho clX8 fX8_2 kX8_26 dX8_name_45 ?_
      refine lv_iload_n hx hb dX8_name_48 rfl (lv_at hl 1 rfl) ?_
      refine r_vcalli (As := [.int v1]) (rest := []) S hG hP hS mX0_valuesOf kX8_106 clX0 (chX8_2 hG ho) (tX0_valuesOf _ _ _ _ _ _ _ _ (chX8_2 hG ho) v1) ⟨rfl, rfl⟩ (rm_ok (by decide) (by decide)) hm hl.1 rfl (Nat.le_of_ble_eq_true rfl) ⟨Nat.zero_le _, Nat.zero_le _⟩ dX8_name_49 (fun b4 μ3 H locs hm hP hS => ?_)
      exact r_iret S hr hG hP hS hm dX8_name_52
    · refine b_sw (k := (1 : Int32)) hm (fun hv14_1 hm => ?_) (fun hv14_1 hm => ?_)
      · refine lv_tableIn (off := 39) (tgt := 53) hx hb dX8_name_14 (by rw [hv14_1] <;> decide) (by rw [hv14_1] <;> decide) (by rw [hv14_1] <;> rfl) (by decide) ?_
        refine lv_aload_n hx hb dX8_name_53 rfl (lv_at hl 0 rfl) ?_
        refine r_getr S hG hP ho clX8 fX8_2 kX8_26 dX8_name_54 ?_
        refine lv_iload_n hx hb dX8_name_57 rfl (lv_at hl 1 rfl) ?_
        refine r_vcalli (As := [.int v1]) (rest := []) S hG hP hS mX0_tablesOf kX8_110 clX0 (chX8_2 hG ho) (tX0_tablesOf _ _ _ _ _ _ _ _ (chX8_2 hG ho) v1) ⟨rfl, rfl⟩ (rm_ok (by decide) (by decide)) hm hl.1 rfl (Nat.le_of_ble_eq_true rfl) ⟨Nat.zero_le _, Nat.zero_le _⟩ dX8_name_58 (fun b6 μ5 H locs hm hP hS => ?_)
        exact r_iret S hr hG hP hS hm dX8_name_61
      · refine b_sw (k := (2 : Int32)) hm (fun hv14_2 hm => ?_) (fun hv14_2 hm => ?_)
        · refine lv_tableIn (off := 48) (tgt := 62) hx hb dX8_name_14 (by rw [hv14_2] <;> decide) (by rw [hv14_2] <;> decide) (by rw [hv14_2] <;> rfl) (by decide) ?_
          refine lv_aload_n hx hb dX8_name_62 rfl (lv_at hl 0 rfl) ?_
          refine r_getr S hG hP ho clX8 fX8_2 kX8_26 dX8_name_63 ?_
          refine lv_iload_n hx hb dX8_name_66 rfl (lv_at hl 1 rfl) ?_
          refine r_vcalli (As := [.int v1]) (rest := []) S hG hP hS mX0_shutOf kX8_113 clX0 (chX8_2 hG ho) (tX0_shutOf _ _ _ _ _ _ _ _ (chX8_2 hG ho) v1) ⟨rfl, rfl⟩ (rm_ok (by decide) (by decide)) hm hl.1 rfl (Nat.le_of_ble_eq_true rfl) ⟨Nat.zero_le _, Nat.zero_le _⟩ dX8_name_67 (fun b8 μ7 H locs hm hP hS => ?_)
          exact r_iret S hr hG hP hS hm dX8_name_70
        · refine b_sw (k := (3 : Int32)) hm (fun hv14_3 hm => ?_) (fun hv14_3 hm => ?_)
          · refine lv_tableIn (off := 57) (tgt := 71) hx hb dX8_name_14 (by rw [hv14_3] <;> decide) (by rw [hv14_3] <;> decide) (by rw [hv14_3] <;> rfl) (by decide) ?_
            refine lv_aload_n hx hb dX8_name_71 rfl (lv_at hl 0 rfl) ?_
            refine r_getr S hG hP ho clX8 fX8_2 kX8_26 dX8_name_72 ?_
            refine lv_iload_n hx hb dX8_name_75 rfl (lv_at hl 1 rfl) ?_
            refine r_vcalli (As := [.int v1]) (rest := []) S hG hP hS mX0_leastSingle kX8_116 clX0 (chX8_2 hG ho) (tX0_leastSingle _ _ _ _ _ _ _ _ (chX8_2 hG ho) v1) ⟨rfl, rfl⟩ (rm_ok (by decide) (by decide)) hm hl.1 rfl (Nat.le_of_ble_eq_true rfl) ⟨Nat.zero_le _, Nat.zero_le _⟩ dX8_name_76 (fun b10 μ9 H locs hm hP hS => ?_)
            exact r_iret S hr hG hP hS hm dX8_name_79
          · refine lv_tableOut (tgt := 80) hx hb dX8_name_14 (by have q0 := lv_neT (a := 0) hv14_0 rfl; have q1 := lv_neT (a := 1) hv14_1 rfl; have q2 := lv_neT (a := 2) hv14_2 rfl; have q3 := lv_neT (a := 3) hv14_3 rfl; omega) (by decide) ?_
            refine lv_iconst (v := (-1 : Int32)) hx hb dX8_name_80 (by decide) ?_
            exact r_iret S hr hG hP hS hm dX8_name_81
  · refine lv_iconst (v := (-1 : Int32)) hx hb dX8_name_11 (by decide) ?_
    exact r_iret S hr hG hP hS hm dX8_name_12
theorem tX8_name (l : Launch) (D : va_G) (cI cR : ClassId) (n : Nat) (K L ad : Nat → Nat) {o : Nat} (ho : isk n K o 8) (v1 : Int32) (v2 : Int32) : Ci l yX8_name cX8_name 3 (some .int) (rmL 4) D cI cR n K L ad [.ref (ad o), .int v1, .int v2] (fX8_name L o v1 v2) := by
  refine Ci.ofW (by decide) (Nat.le_of_ble_eq_true rfl) ?_
  intro μ x hm p e s m args below meth c ls S hr hG hP hS hl
  exact wX8_name_0 S hr hG ho v1 v2 μ hm _ _ ls hP hS hl
-- X8_single
set_option maxHeartbeats 4000000 in
set_option maxRecDepth 100000 in
theorem wX8_single_0 (S : CallFix p m c cX8_single 3 s args TB RX8) (hr : meth.sig.returnType = (some .int) ∧ meth.locks = false) (hG : gok D cI cR n K L ad s) {o : Nat} (ho : isk n K o 8) {x : Int32 × Mem} : ∀ (v1 v2 : Int32) (μ : Mem), fX8_single L o v1 v2 μ = some x → WI p l e (rmL 2) s m args below meth c D cI cR n K L ad 3 x μ 0 [(0, .ref (ad o)), (1, .int v1), (2, .int v2)] [] := by
  have hx := S.1
  have hb := S.2.1
  intro v1 v2 μ hm H locs ls hP hS hl
  unfold fX8_single at hm
  refine lv_aload_n hx hb dX8_single_0 rfl (lv_at hl 0 rfl) ?_
  refine r_getr S hG hP ho clX8 fX8_2 kX8_26 dX8_single_1 ?_
  refine lv_iload_n hx hb dX8_single_4 rfl (lv_at hl 1 rfl) ?_
  refine lv_iload_n hx hb dX8_single_5 rfl (lv_at hl 2 rfl) ?_
  refine r_vcalli (As := [.int v1, .int v2]) (rest := []) S hG hP hS mX0_hasValue kX8_119 clX0 (chX8_2 hG ho) (tX0_hasValue _ _ _ _ _ _ _ _ (chX8_2 hG ho) v1 v2) ⟨rfl, rfl⟩ (rm_ok (by decide) (by decide)) hm hl.1 rfl (Nat.le_of_ble_eq_true rfl) ⟨Nat.zero_le _, Nat.zero_le _⟩ dX8_single_6 (fun b2 μ1 H locs hm hP hS => ?_)
  refine b_if_eq (tgt := 24) S dX8_single_9 (by decide) hm (fun hm => ?_) (fun hm => ?_)
  · refine lv_iconst (v := (-1 : Int32)) hx hb dX8_single_24 (by decide) ?_
    exact r_iret S hr hG hP hS hm dX8_single_25
  · refine lv_aload_n hx hb dX8_single_12 rfl (lv_at hl 0 rfl) ?_
    refine r_getr S hG hP ho clX8 fX8_2 kX8_26 dX8_single_13 ?_
    refine lv_iload_n hx hb dX8_single_16 rfl (lv_at hl 1 rfl) ?_
    refine lv_iload_n hx hb dX8_single_17 rfl (lv_at hl 2 rfl) ?_
    refine r_vcalli (As := [.int v1, .int v2]) (rest := []) S hG hP hS mX0_singleCost kX8_123 clX0 (chX8_2 hG ho) (tX0_singleCost _ _ _ _ _ _ _ _ (chX8_2 hG ho) v1 v2) ⟨rfl, rfl⟩ (rm_ok (by decide) (by decide)) hm hl.1 rfl (Nat.le_of_ble_eq_true rfl) ⟨Nat.zero_le _, Nat.zero_le _⟩ dX8_single_18 (fun b4 μ3 H locs hm hP hS => ?_)
    refine lv_goto (tgt := 25) hx hb dX8_single_21 (by decide) ?_
    exact r_iret S hr hG hP hS hm dX8_single_25
theorem tX8_single (l : Launch) (D : va_G) (cI cR : ClassId) (n : Nat) (K L ad : Nat → Nat) {o : Nat} (ho : isk n K o 8) (v1 : Int32) (v2 : Int32) : Ci l yX8_single cX8_single 3 (some .int) (rmL 2) D cI cR n K L ad [.ref (ad o), .int v1, .int v2] (fX8_single L o v1 v2) := by
  refine Ci.ofW (by decide) (Nat.le_of_ble_eq_true rfl) ?_
  intro μ x hm p e s m args below meth c ls S hr hG hP hS hl
  exact wX8_single_0 S hr hG ho v1 v2 μ hm _ _ ls hP hS hl
-- X8_table
set_option maxHeartbeats 4000000 in
set_option maxRecDepth 100000 in
theorem wX8_table_0 (S : CallFix p m c cX8_table 3 s args TB RX8) (hr : meth.sig.returnType = (some .int) ∧ meth.locks = false) (hG : gok D cI cR n K L ad s) {o : Nat} (ho : isk n K o 8) {x : Int32 × Mem} : ∀ (v1 v2 : Int32) (μ : Mem), fX8_table L o v1 v2 μ = some x → WI p l e (rmL 4) s m args below meth c D cI cR n K L ad 3 x μ 0 [(0, .ref (ad o)), (1, .int v1), (2, .int v2)] [] := by
  have hx := S.1
  have hb := S.2.1
  intro v1 v2 μ hm H locs ls hP hS hl
  unfold fX8_table at hm
  refine lv_aload_n hx hb dX8_table_0 rfl (lv_at hl 0 rfl) ?_
  refine r_getr S hG hP ho clX8 fX8_2 kX8_26 dX8_table_1 ?_
  refine lv_iload_n hx hb dX8_table_4 rfl (lv_at hl 1 rfl) ?_
  refine r_vcalli (As := [.int v1]) (rest := []) S hG hP hS mX0_hasTable kX8_127 clX0 (chX8_2 hG ho) (tX0_hasTable _ _ _ _ _ _ _ _ (chX8_2 hG ho) v1) ⟨rfl, rfl⟩ (rm_ok (by decide) (by decide)) hm hl.1 rfl (Nat.le_of_ble_eq_true rfl) ⟨Nat.zero_le _, Nat.zero_le _⟩ dX8_table_5 (fun b2 μ1 H locs hm hP hS => ?_)
  refine b_if_ne (tgt := 13) S dX8_table_8 (by decide) hm (fun hm => ?_) (fun hm => ?_)
  · refine lv_iload_n hx hb dX8_table_13 rfl (lv_at hl 2 rfl) ?_
    refine b_sw (k := (0 : Int32)) hm (fun hv14_0 hm => ?_) (fun hv14_0 hm => ?_)
    · refine lv_tableIn (off := 30) (tgt := 44) hx hb dX8_table_14 (by rw [hv14_0] <;> decide) (by rw [hv14_0] <;> decide) (by rw [hv14_0] <;> rfl) (by decide) ?_
      refine lv_aload_n hx hb dX8_table_44 rfl (lv_at hl 0 rfl) ?_
      refine r_getr S hG hP ho clX8 fX8_2 kX8_26 dX8_table_45 ?_
      refine lv_iload_n hx hb dX8_table_48 rfl (lv_at hl 1 rfl) ?_
      refine lv_iconst (v := (0 : Int32)) hx hb dX8_table_49 (by decide) ?_
      refine r_vcalli (As := [.int v1, .int (0 : Int32)]) (rest := []) S hG hP hS mX0_nameOn kX8_130 clX0 (chX8_2 hG ho) (tX0_nameOn _ _ _ _ _ _ _ _ (chX8_2 hG ho) v1 (0 : Int32)) ⟨rfl, rfl⟩ (rm_ok (by decide) (by decide)) hm hl.1 rfl (Nat.le_of_ble_eq_true rfl) ⟨Nat.zero_le _, Nat.zero_le _⟩ dX8_table_50 (fun b4 μ3 H locs hm hP hS => ?_)
      exact r_iret S hr hG hP hS hm dX8_table_53
    · refine b_sw (k := (1 : Int32)) hm (fun hv14_1 hm => ?_) (fun hv14_1 hm => ?_)
      · refine lv_tableIn (off := 40) (tgt := 54) hx hb dX8_table_14 (by rw [hv14_1] <;> decide) (by rw [hv14_1] <;> decide) (by rw [hv14_1] <;> rfl) (by decide) ?_
        refine lv_aload_n hx hb dX8_table_54 rfl (lv_at hl 0 rfl) ?_
        refine r_getr S hG hP ho clX8 fX8_2 kX8_26 dX8_table_55 ?_
        refine lv_iload_n hx hb dX8_table_58 rfl (lv_at hl 1 rfl) ?_
        refine lv_iconst (v := (1 : Int32)) hx hb dX8_table_59 (by decide) ?_
        refine r_vcalli (As := [.int v1, .int (1 : Int32)]) (rest := []) S hG hP hS mX0_nameOn kX8_130 clX0 (chX8_2 hG ho) (tX0_nameOn _ _ _ _ _ _ _ _ (chX8_2 hG ho) v1 (1 : Int32)) ⟨rfl, rfl⟩ (rm_ok (by decide) (by decide)) hm hl.1 rfl (Nat.le_of_ble_eq_true rfl) ⟨Nat.zero_le _, Nat.zero_le _⟩ dX8_table_60 (fun b6 μ5 H locs hm hP hS => ?_)
        exact r_iret S hr hG hP hS hm dX8_table_63
      · refine b_sw (k := (2 : Int32)) hm (fun hv14_2 hm => ?_) (fun hv14_2 hm => ?_)
        · refine lv_tableIn (off := 50) (tgt := 64) hx hb dX8_table_14 (by rw [hv14_2] <;> decide) (by rw [hv14_2] <;> decide) (by rw [hv14_2] <;> rfl) (by decide) ?_
          refine lv_aload_n hx hb dX8_table_64 rfl (lv_at hl 0 rfl) ?_
          refine r_getr S hG hP ho clX8 fX8_2 kX8_26 dX8_table_65 ?_
          refine lv_iload_n hx hb dX8_table_68 rfl (lv_at hl 1 rfl) ?_
          refine r_vcalli (As := [.int v1]) (rest := []) S hG hP hS mX0_leastOfTable kX8_133 clX0 (chX8_2 hG ho) (tX0_leastOfTable _ _ _ _ _ _ _ _ (chX8_2 hG ho) v1) ⟨rfl, rfl⟩ (rm_ok (by decide) (by decide)) hm hl.1 rfl (Nat.le_of_ble_eq_true rfl) ⟨Nat.zero_le _, Nat.zero_le _⟩ dX8_table_69 (fun b8 μ7 H locs hm hP hS => ?_)
          exact r_iret S hr hG hP hS hm dX8_table_72
        · refine b_sw (k := (3 : Int32)) hm (fun hv14_3 hm => ?_) (fun hv14_3 hm => ?_)
          · refine lv_tableIn (off := 59) (tgt := 73) hx hb dX8_table_14 (by rw [hv14_3] <;> decide) (by rw [hv14_3] <;> decide) (by rw [hv14_3] <;> rfl) (by decide) ?_
            refine lv_aload_n hx hb dX8_table_73 rfl (lv_at hl 0 rfl) ?_
            refine r_getr S hG hP ho clX8 fX8_2 kX8_26 dX8_table_74 ?_
            refine lv_iload_n hx hb dX8_table_77 rfl (lv_at hl 1 rfl) ?_
            refine r_vcalli (As := [.int v1]) (rest := []) S hG hP hS mX0_greatestOfTable kX8_136 clX0 (chX8_2 hG ho) (tX0_greatestOfTable _ _ _ _ _ _ _ _ (chX8_2 hG ho) v1) ⟨rfl, rfl⟩ (rm_ok (by decide) (by decide)) hm hl.1 rfl (Nat.le_of_ble_eq_true rfl) ⟨Nat.zero_le _, Nat.zero_le _⟩ dX8_table_78 (fun b10 μ9 H locs hm hP hS => ?_)
            exact r_iret S hr hG hP hS hm dX8_table_81
          · refine lv_tableOut (tgt := 82) hx hb dX8_table_14 (by have q0 := lv_neT (a := 0) hv14_0 rfl; have q1 := lv_neT (a := 1) hv14_1 rfl; have q2 := lv_neT (a := 2) hv14_2 rfl; have q3 := lv_neT (a := 3) hv14_3 rfl; omega) (by decide) ?_
            refine lv_iconst (v := (-1 : Int32)) hx hb dX8_table_82 (by decide) ?_
            exact r_iret S hr hG hP hS hm dX8_table_83
  · refine lv_iconst (v := (-1 : Int32)) hx hb dX8_table_11 (by decide) ?_
    exact r_iret S hr hG hP hS hm dX8_table_12
theorem tX8_table (l : Launch) (D : va_G) (cI cR : ClassId) (n : Nat) (K L ad : Nat → Nat) {o : Nat} (ho : isk n K o 8) (v1 : Int32) (v2 : Int32) : Ci l yX8_table cX8_table 3 (some .int) (rmL 4) D cI cR n K L ad [.ref (ad o), .int v1, .int v2] (fX8_table L o v1 v2) := by
  refine Ci.ofW (by decide) (Nat.le_of_ble_eq_true rfl) ?_
  intro μ x hm p e s m args below meth c ls S hr hG hP hS hl
  exact wX8_table_0 S hr hG ho v1 v2 μ hm _ _ ls hP hS hl
-- X8_pair
set_option maxHeartbeats 4000000 in
set_option maxRecDepth 100000 in
theorem wX8_pair_0 (S : CallFix p m c cX8_pair 4 s args TB RX8) (hr : meth.sig.returnType = (some .int) ∧ meth.locks = false) (hG : gok D cI cR n K L ad s) {o : Nat} (ho : isk n K o 8) {x : Int32 × Mem} : ∀ (v1 v2 v3 : Int32) (μ : Mem), fX8_pair L o v1 v2 v3 μ = some x → WI p l e (rmL 3) s m args below meth c D cI cR n K L ad 4 x μ 0 [(0, .ref (ad o)), (1, .int v1), (2, .int v2), (3, .int v3)] [] := by
  have hx := S.1
  have hb := S.2.1
  intro v1 v2 v3 μ hm H locs ls hP hS hl
  unfold fX8_pair at hm
  refine lv_aload_n hx hb dX8_pair_0 rfl (lv_at hl 0 rfl) ?_
  refine r_getr S hG hP ho clX8 fX8_2 kX8_26 dX8_pair_1 ?_
  refine lv_iload_n hx hb dX8_pair_4 rfl (lv_at hl 1 rfl) ?_
  refine lv_iload_n hx hb dX8_pair_5 rfl (lv_at hl 2 rfl) ?_
  refine lv_iload_n hx hb dX8_pair_6 rfl (lv_at hl 3 rfl) ?_
  refine r_vcalli (As := [.int v1, .int v2, .int v3]) (rest := []) S hG hP hS mX0_hasPair kX8_139 clX0 (chX8_2 hG ho) (tX0_hasPair _ _ _ _ _ _ _ _ (chX8_2 hG ho) v1 v2 v3) ⟨rfl, rfl⟩ (rm_ok (by decide) (by decide)) hm hl.1 rfl (Nat.le_of_ble_eq_true rfl) ⟨Nat.zero_le _, Nat.zero_le _⟩ dX8_pair_7 (fun b2 μ1 H locs hm hP hS => ?_)
  refine b_if_eq (tgt := 26) S dX8_pair_10 (by decide) hm (fun hm => ?_) (fun hm => ?_)
  · refine lv_iconst (v := (-1 : Int32)) hx hb dX8_pair_26 (by decide) ?_
    exact r_iret S hr hG hP hS hm dX8_pair_27
  · refine lv_aload_n hx hb dX8_pair_13 rfl (lv_at hl 0 rfl) ?_
    refine r_getr S hG hP ho clX8 fX8_2 kX8_26 dX8_pair_14 ?_
    refine lv_iload_n hx hb dX8_pair_17 rfl (lv_at hl 1 rfl) ?_
    refine lv_iload_n hx hb dX8_pair_18 rfl (lv_at hl 2 rfl) ?_
    refine lv_iload_n hx hb dX8_pair_19 rfl (lv_at hl 3 rfl) ?_
    refine r_vcalli (As := [.int v1, .int v2, .int v3]) (rest := []) S hG hP hS mX0_pairCost kX8_143 clX0 (chX8_2 hG ho) (tX0_pairCost _ _ _ _ _ _ _ _ (chX8_2 hG ho) v1 v2 v3) ⟨rfl, rfl⟩ (rm_ok (by decide) (by decide)) hm hl.1 rfl (Nat.le_of_ble_eq_true rfl) ⟨Nat.zero_le _, Nat.zero_le _⟩ dX8_pair_20 (fun b4 μ3 H locs hm hP hS => ?_)
    refine lv_goto (tgt := 27) hx hb dX8_pair_23 (by decide) ?_
    exact r_iret S hr hG hP hS hm dX8_pair_27
theorem tX8_pair (l : Launch) (D : va_G) (cI cR : ClassId) (n : Nat) (K L ad : Nat → Nat) {o : Nat} (ho : isk n K o 8) (v1 : Int32) (v2 : Int32) (v3 : Int32) : Ci l yX8_pair cX8_pair 4 (some .int) (rmL 3) D cI cR n K L ad [.ref (ad o), .int v1, .int v2, .int v3] (fX8_pair L o v1 v2 v3) := by
  refine Ci.ofW (by decide) (Nat.le_of_ble_eq_true rfl) ?_
  intro μ x hm p e s m args below meth c ls S hr hG hP hS hl
  exact wX8_pair_0 S hr hG ho v1 v2 v3 μ hm _ _ ls hP hS hl
-- X8_isStep
set_option maxHeartbeats 4000000 in
set_option maxRecDepth 100000 in
theorem wX8_isStep_0 (S : CallFix p m c cX8_isStep 1 s args TB RX8) (hr : meth.sig.returnType = (some .boolean) ∧ meth.locks = false) (hG : gok D cI cR n K L ad s) {x : Int32 × Mem} : ∀ (v0 : Int32) (μ : Mem), fX8_isStep L v0 μ = some x → WI p l e (rmL 0) s m args below meth c D cI cR n K L ad 1 x μ 0 [(0, .int v0)] [] := by
  have hx := S.1
  have hb := S.2.1
  intro v0 μ hm H locs ls hP hS hl
  unfold fX8_isStep at hm
  refine lv_iload_n hx hb dX8_isStep_0 rfl (lv_at hl 0 rfl) ?_
  refine lv_iconst (v := (1 : Int32)) hx hb dX8_isStep_1 (by decide) ?_
  refine b_icmp_lt (tgt := 15) S dX8_isStep_2 (by decide) hm (fun hm => ?_) (fun hm => ?_)
  · refine lv_iconst (v := (0 : Int32)) hx hb dX8_isStep_15 (by decide) ?_
    exact r_zretC S hr hG hP hS rfl hm dX8_isStep_16
  · refine lv_iload_n hx hb dX8_isStep_5 rfl (lv_at hl 0 rfl) ?_
    refine lv_bipush (v := (99 : Int32)) hx hb dX8_isStep_6 (by decide) ?_
    refine b_icmp_gt (tgt := 15) S dX8_isStep_8 (by decide) hm (fun hm => ?_) (fun hm => ?_)
    · refine lv_iconst (v := (0 : Int32)) hx hb dX8_isStep_15 (by decide) ?_
      exact r_zretC S hr hG hP hS rfl hm dX8_isStep_16
    · refine lv_iconst (v := (1 : Int32)) hx hb dX8_isStep_11 (by decide) ?_
      refine lv_goto (tgt := 16) hx hb dX8_isStep_12 (by decide) ?_
      exact r_zretC S hr hG hP hS rfl hm dX8_isStep_16
theorem tX8_isStep (l : Launch) (D : va_G) (cI cR : ClassId) (n : Nat) (K L ad : Nat → Nat) (v0 : Int32) : Ci l yX8_isStep cX8_isStep 1 (some .boolean) (rmL 0) D cI cR n K L ad [.int v0] (fX8_isStep L v0) := by
  refine Ci.ofW (by decide) (Nat.le_of_ble_eq_true rfl) ?_
  intro μ x hm p e s m args below meth c ls S hr hG hP hS hl
  exact wX8_isStep_0 S hr hG v0 μ hm _ _ ls hP hS hl
-- X8_grow
set_option maxHeartbeats 4000000 in
set_option maxRecDepth 100000 in
theorem wX8_grow_0 (S : CallFix p m c cX8_grow 4 s args TB RX8) (hr : meth.sig.returnType = (some .int) ∧ meth.locks = false) (hG : gok D cI cR n K L ad s) {o : Nat} (ho : isk n K o 8) {x : Int32 × Mem} : ∀ (v1 v2 v3 : Int32) (μ : Mem), fX8_grow L o v1 v2 v3 μ = some x → WI p l e (rmL 4) s m args below meth c D cI cR n K L ad 4 x μ 0 [(0, .ref (ad o)), (1, .int v1), (2, .int v2), (3, .int v3)] [] := by
  have hx := S.1
  have hb := S.2.1
  intro v1 v2 v3 μ hm H locs ls hP hS hl
  unfold fX8_grow at hm
  refine lv_aload_n hx hb dX8_grow_0 rfl (lv_at hl 0 rfl) ?_
  refine r_getr S hG hP ho clX8 fX8_2 kX8_26 dX8_grow_1 ?_
  refine lv_iload_n hx hb dX8_grow_4 rfl (lv_at hl 1 rfl) ?_
  refine lv_iload_n hx hb dX8_grow_5 rfl (lv_at hl 2 rfl) ?_
  refine r_vcalli (As := [.int v1, .int v2]) (rest := []) S hG hP hS mX0_hasValue kX8_119 clX0 (chX8_2 hG ho) (tX0_hasValue _ _ _ _ _ _ _ _ (chX8_2 hG ho) v1 v2) ⟨rfl, rfl⟩ (rm_ok (by decide) (by decide)) hm hl.1 rfl (Nat.le_of_ble_eq_true rfl) ⟨Nat.zero_le _, Nat.zero_le _⟩ dX8_grow_6 (fun b2 μ1 H locs hm hP hS => ?_)
  refine b_if_eq (tgt := 19) S dX8_grow_9 (by decide) hm (fun hm => ?_) (fun hm => ?_)
  · refine lv_iconst (v := (-1 : Int32)) hx hb dX8_grow_19 (by decide) ?_
    exact r_iret S hr hG hP hS hm dX8_grow_20
  · refine lv_iload_n hx hb dX8_grow_12 rfl (lv_at hl 3 rfl) ?_
    refine r_scalli (As := [.int v3]) (rest := []) S hG hP hS mX8_isStep kX8_147 (tX8_isStep _ _ _ _ _ _ _ _ v3) ⟨rfl, rfl⟩ (rm_ok (by decide) (by decide)) hm hl.1 rfl (Nat.le_of_ble_eq_true rfl) ⟨Nat.zero_le _, Nat.zero_le _⟩ dX8_grow_13 (fun b4 μ3 H locs hm hP hS => ?_)
    refine b_if_ne (tgt := 21) S dX8_grow_16 (by decide) hm (fun hm => ?_) (fun hm => ?_)
    · refine lv_aload_n hx hb dX8_grow_21 rfl (lv_at hl 0 rfl) ?_
      refine r_getr S hG hP ho clX8 fX8_6 kX8_52 dX8_grow_22 ?_
      refine lv_aload_n hx hb dX8_grow_25 rfl (lv_at hl 0 rfl) ?_
      refine r_getr S hG hP ho clX8 fX8_2 kX8_26 dX8_grow_26 ?_
      refine r_vcallv (As := [.ref (ad (o + 7))]) (rest := []) S hG hP hS mX1_keep kX8_150 clX1 (chX8_6 hG ho) (tX1_keep _ _ _ _ _ _ _ _ (chX8_6 hG ho) (chX8_2 hG ho)) ⟨rfl, rfl⟩ (rm_ok (by decide) (by decide)) hm hl.1 rfl (Nat.le_of_ble_eq_true rfl) ⟨Nat.zero_le _, Nat.zero_le _⟩ dX8_grow_29 (fun μ5 H locs hm hP hS => ?_)
      refine lv_aload_n hx hb dX8_grow_32 rfl (lv_at hl 0 rfl) ?_
      refine r_getr S hG hP ho clX8 fX8_2 kX8_26 dX8_grow_33 ?_
      refine lv_iload_n hx hb dX8_grow_36 rfl (lv_at hl 1 rfl) ?_
      refine lv_iload_n hx hb dX8_grow_37 rfl (lv_at hl 2 rfl) ?_
      refine lv_iload_n hx hb dX8_grow_38 rfl (lv_at hl 3 rfl) ?_
      refine r_vcallv (As := [.int v1, .int v2, .int v3]) (rest := []) S hG hP hS mX0_growSingle kX8_153 clX0 (chX8_2 hG ho) (tX0_growSingle _ _ _ _ _ _ _ _ (chX8_2 hG ho) v1 v2 v3) ⟨rfl, rfl⟩ (rm_ok (by decide) (by decide)) hm hl.1 rfl (Nat.le_of_ble_eq_true rfl) ⟨Nat.zero_le _, Nat.zero_le _⟩ dX8_grow_39 (fun μ6 H locs hm hP hS => ?_)
      refine lv_aload_n hx hb dX8_grow_42 rfl (lv_at hl 0 rfl) ?_
      refine r_getr S hG hP ho clX8 fX8_2 kX8_26 dX8_grow_43 ?_
      refine lv_iload_n hx hb dX8_grow_46 rfl (lv_at hl 1 rfl) ?_
      refine lv_iload_n hx hb dX8_grow_47 rfl (lv_at hl 2 rfl) ?_
      refine r_vcalli (As := [.int v1, .int v2]) (rest := []) S hG hP hS mX0_singleCost kX8_123 clX0 (chX8_2 hG ho) (tX0_singleCost _ _ _ _ _ _ _ _ (chX8_2 hG ho) v1 v2) ⟨rfl, rfl⟩ (rm_ok (by decide) (by decide)) hm hl.1 rfl (Nat.le_of_ble_eq_true rfl) ⟨Nat.zero_le _, Nat.zero_le _⟩ dX8_grow_48 (fun b8 μ7 H locs hm hP hS => ?_)
      exact r_iret S hr hG hP hS hm dX8_grow_51
    · refine lv_iconst (v := (-1 : Int32)) hx hb dX8_grow_19 (by decide) ?_
      exact r_iret S hr hG hP hS hm dX8_grow_20
theorem tX8_grow (l : Launch) (D : va_G) (cI cR : ClassId) (n : Nat) (K L ad : Nat → Nat) {o : Nat} (ho : isk n K o 8) (v1 : Int32) (v2 : Int32) (v3 : Int32) : Ci l yX8_grow cX8_grow 4 (some .int) (rmL 4) D cI cR n K L ad [.ref (ad o), .int v1, .int v2, .int v3] (fX8_grow L o v1 v2 v3) := by
  refine Ci.ofW (by decide) (Nat.le_of_ble_eq_true rfl) ?_
  intro μ x hm p e s m args below meth c ls S hr hG hP hS hl
  exact wX8_grow_0 S hr hG ho v1 v2 v3 μ hm _ _ ls hP hS hl
-- X8_choose
set_option maxHeartbeats 4000000 in
set_option maxRecDepth 100000 in
theorem wX8_choose_0 (S : CallFix p m c cX8_choose 4 s args TB RX8) (hr : meth.sig.returnType = (some .int) ∧ meth.locks = false) (hG : gok D cI cR n K L ad s) {o : Nat} (ho : isk n K o 8) {x : Int32 × Mem} : ∀ (v1 v2 : Int32) (μ : Mem), fX8_choose L o v1 v2 μ = some x → WI p l e (rmL 2) s m args below meth c D cI cR n K L ad 4 x μ 0 [(0, .ref (ad o)), (1, .int v1), (2, .int v2)] [] := by
  have hx := S.1
  have hb := S.2.1
  intro v1 v2 μ hm H locs ls hP hS hl
  unfold fX8_choose at hm
  refine lv_aload_n hx hb dX8_choose_0 rfl (lv_at hl 0 rfl) ?_
  refine r_getr S hG hP ho clX8 fX8_2 kX8_26 dX8_choose_1 ?_
  refine lv_iload_n hx hb dX8_choose_4 rfl (lv_at hl 1 rfl) ?_
  refine lv_iload_n hx hb dX8_choose_5 rfl (lv_at hl 2 rfl) ?_
  refine r_vcalli (As := [.int v1, .int v2]) (rest := []) S hG hP hS mX0_hasValue kX8_119 clX0 (chX8_2 hG ho) (tX0_hasValue _ _ _ _ _ _ _ _ (chX8_2 hG ho) v1 v2) ⟨rfl, rfl⟩ (rm_ok (by decide) (by decide)) hm hl.1 rfl (Nat.le_of_ble_eq_true rfl) ⟨Nat.zero_le _, Nat.zero_le _⟩ dX8_choose_6 (fun b2 μ1 H locs hm hP hS => ?_)
  refine b_if_ne (tgt := 14) S dX8_choose_9 (by decide) hm (fun hm => ?_) (fun hm => ?_)
  · refine lv_aload_n hx hb dX8_choose_14 rfl (lv_at hl 0 rfl) ?_
    refine r_getr S hG hP ho clX8 fX8_4 kX8_38 dX8_choose_15 ?_
    refine lv_iload_n hx hb dX8_choose_18 rfl (lv_at hl 1 rfl) ?_
    refine r_vcalli (As := [.int v1]) (rest := []) S hG hP hS mX3_get kX8_157 clX3 (chX8_4 hG ho) (tX3_get _ _ _ _ _ _ _ _ (chX8_4 hG ho) v1) ⟨rfl, rfl⟩ (rm_ok (by decide) (by decide)) hm hl.1 rfl (Nat.le_of_ble_eq_true rfl) ⟨Nat.zero_le _, Nat.zero_le _⟩ dX8_choose_19 (fun b4 μ3 H locs hm hP hS => ?_)
    refine lv_istore_n (lv' := [(3, .int b4), (0, .ref (ad o)), (1, .int v1), (2, .int v2)]) hx hb dX8_choose_22 rfl hl (by decide) rfl (fun ls hl => ?_)
    refine lv_iload_n hx hb dX8_choose_23 rfl (lv_at hl 0 rfl) ?_
    refine lv_iload_n hx hb dX8_choose_24 rfl (lv_at hl 3 rfl) ?_
    refine b_icmp_ne (tgt := 31) S dX8_choose_25 (by decide) hm (fun hm => ?_) (fun hm => ?_)
    · refine lv_aload_n hx hb dX8_choose_31 rfl (lv_at hl 1 rfl) ?_
      refine r_getr S hG hP ho clX8 fX8_4 kX8_38 dX8_choose_32 ?_
      refine lv_iload_n hx hb dX8_choose_35 rfl (lv_at hl 2 rfl) ?_
      refine lv_iload_n hx hb dX8_choose_36 rfl (lv_at hl 3 rfl) ?_
      refine r_vcallv (As := [.int v1, .int v2]) (rest := []) S hG hP hS mX3_set kX8_160 clX3 (chX8_4 hG ho) (tX3_set _ _ _ _ _ _ _ _ (chX8_4 hG ho) v1 v2) ⟨rfl, rfl⟩ (rm_ok (by decide) (by decide)) hm hl.1 rfl (Nat.le_of_ble_eq_true rfl) ⟨Nat.zero_le _, Nat.zero_le _⟩ dX8_choose_37 (fun μ5 H locs hm hP hS => ?_)
      refine lv_iload_n hx hb dX8_choose_40 rfl (lv_at hl 0 rfl) ?_
      exact r_iret S hr hG hP hS hm dX8_choose_41
    · refine lv_bipush (v := (-2 : Int32)) hx hb dX8_choose_28 (by decide) ?_
      exact r_iret S hr hG hP hS hm dX8_choose_30
  · refine lv_iconst (v := (-1 : Int32)) hx hb dX8_choose_12 (by decide) ?_
    exact r_iret S hr hG hP hS hm dX8_choose_13
theorem tX8_choose (l : Launch) (D : va_G) (cI cR : ClassId) (n : Nat) (K L ad : Nat → Nat) {o : Nat} (ho : isk n K o 8) (v1 : Int32) (v2 : Int32) : Ci l yX8_choose cX8_choose 4 (some .int) (rmL 2) D cI cR n K L ad [.ref (ad o), .int v1, .int v2] (fX8_choose L o v1 v2) := by
  refine Ci.ofW (by decide) (Nat.le_of_ble_eq_true rfl) ?_
  intro μ x hm p e s m args below meth c ls S hr hG hP hS hl
  exact wX8_choose_0 S hr hG ho v1 v2 μ hm _ _ ls hP hS hl
-- X8_total
set_option maxHeartbeats 4000000 in
set_option maxRecDepth 100000 in
theorem wX8_total_0 (S : CallFix p m c cX8_total 1 s args TB RX8) (hr : meth.sig.returnType = (some .int) ∧ meth.locks = false) (hG : gok D cI cR n K L ad s) {o : Nat} (ho : isk n K o 8) {x : Int32 × Mem} : ∀ (μ : Mem), fX8_total L o μ = some x → WI p l e (rmL 3) s m args below meth c D cI cR n K L ad 1 x μ 0 [(0, .ref (ad o))] [] := by
  have hx := S.1
  have hb := S.2.1
  intro μ hm H locs ls hP hS hl
  unfold fX8_total at hm
  refine lv_aload_n hx hb dX8_total_0 rfl (lv_at hl 0 rfl) ?_
  refine r_getr S hG hP ho clX8 fX8_2 kX8_26 dX8_total_1 ?_
  refine lv_aload_n hx hb dX8_total_4 rfl (lv_at hl 0 rfl) ?_
  refine r_getr S hG hP ho clX8 fX8_4 kX8_38 dX8_total_5 ?_
  refine r_vcalli (As := [.ref (ad (o + 25))]) (rest := []) S hG hP hS mX0_totalOf kX8_164 clX0 (chX8_2 hG ho) (tX0_totalOf _ _ _ _ _ _ _ _ (chX8_2 hG ho) (chX8_4 hG ho)) ⟨rfl, rfl⟩ (rm_ok (by decide) (by decide)) hm hl.1 rfl (Nat.le_of_ble_eq_true rfl) ⟨Nat.zero_le _, Nat.zero_le _⟩ dX8_total_8 (fun b2 μ1 H locs hm hP hS => ?_)
  exact r_iret S hr hG hP hS hm dX8_total_11
theorem tX8_total (l : Launch) (D : va_G) (cI cR : ClassId) (n : Nat) (K L ad : Nat → Nat) {o : Nat} (ho : isk n K o 8) : Ci l yX8_total cX8_total 1 (some .int) (rmL 3) D cI cR n K L ad [.ref (ad o)] (fX8_total L o) := by
  refine Ci.ofW (by decide) (Nat.le_of_ble_eq_true rfl) ?_
  intro μ x hm p e s m args below meth c ls S hr hG hP hS hl
  exact wX8_total_0 S hr hG ho μ hm _ _ ls hP hS hl
-- X8_project
set_option maxHeartbeats 4000000 in
set_option maxRecDepth 100000 in
theorem wX8_project_0 (S : CallFix p m c cX8_project 5 s args TB RX8) (hr : meth.sig.returnType = (some .int) ∧ meth.locks = false) (hG : gok D cI cR n K L ad s) {o : Nat} (ho : isk n K o 8) {x : Int32 × Mem} : ∀ (v1 v2 v3 v4 : Int32) (μ : Mem), fX8_project L o v1 v2 v3 v4 μ = some x → WI p l e (rmL 4) s m args below meth c D cI cR n K L ad 5 x μ 0 [(0, .ref (ad o)), (1, .int v1), (2, .int v2), (3, .int v3), (4, .int v4)] [] := by
  have hx := S.1
  have hb := S.2.1
  intro v1 v2 v3 v4 μ hm H locs ls hP hS hl
  unfold fX8_project at hm
  refine lv_aload_n hx hb dX8_project_0 rfl (lv_at hl 0 rfl) ?_
  refine r_getr S hG hP ho clX8 fX8_2 kX8_26 dX8_project_1 ?_
  refine lv_iload_n hx hb dX8_project_4 rfl (lv_at hl 1 rfl) ?_
  refine lv_iload_n hx hb dX8_project_5 rfl (lv_at hl 2 rfl) ?_
  refine lv_iload_n hx hb dX8_project_6 rfl (lv_at hl 3 rfl) ?_
  refine r_vcalli (As := [.int v1, .int v2, .int v3]) (rest := []) S hG hP hS mX0_hasValueOn kX8_168 clX0 (chX8_2 hG ho) (tX0_hasValueOn _ _ _ _ _ _ _ _ (chX8_2 hG ho) v1 v2 v3) ⟨rfl, rfl⟩ (rm_ok (by decide) (by decide)) hm hl.1 rfl (Nat.le_of_ble_eq_true rfl) ⟨Nat.zero_le _, Nat.zero_le _⟩ dX8_project_7 (fun b2 μ1 H locs hm hP hS => ?_)
  refine b_if_eq (tgt := 21) S dX8_project_10 (by decide) hm (fun hm => ?_) (fun hm => ?_)
  · refine lv_iconst (v := (-1 : Int32)) hx hb dX8_project_21 (by decide) ?_
    exact r_iret S hr hG hP hS hm dX8_project_22
  · refine lv_iload hx hb dX8_project_13 (lv_at hl 4 rfl) ?_
    refine r_scalli (As := [.int v4]) (rest := []) S hG hP hS mX8_isStep kX8_147 (tX8_isStep _ _ _ _ _ _ _ _ v4) ⟨rfl, rfl⟩ (rm_ok (by decide) (by decide)) hm hl.1 rfl (Nat.le_of_ble_eq_true rfl) ⟨Nat.zero_le _, Nat.zero_le _⟩ dX8_project_15 (fun b4 μ3 H locs hm hP hS => ?_)
    refine b_if_ne (tgt := 23) S dX8_project_18 (by decide) hm (fun hm => ?_) (fun hm => ?_)
    · refine lv_aload_n hx hb dX8_project_23 rfl (lv_at hl 0 rfl) ?_
      refine r_getr S hG hP ho clX8 fX8_2 kX8_26 dX8_project_24 ?_
      refine lv_iload_n hx hb dX8_project_27 rfl (lv_at hl 1 rfl) ?_
      refine lv_iload_n hx hb dX8_project_28 rfl (lv_at hl 2 rfl) ?_
      refine lv_iload_n hx hb dX8_project_29 rfl (lv_at hl 3 rfl) ?_
      refine r_vcalli (As := [.int v1, .int v2, .int v3]) (rest := []) S hG hP hS mX0_leastPairOf kX8_171 clX0 (chX8_2 hG ho) (tX0_leastPairOf _ _ _ _ _ _ _ _ (chX8_2 hG ho) v1 v2 v3) ⟨rfl, rfl⟩ (rm_ok (by decide) (by decide)) hm hl.1 rfl (Nat.le_of_ble_eq_true rfl) ⟨Nat.zero_le _, Nat.zero_le _⟩ dX8_project_30 (fun b6 μ5 H locs hm hP hS => ?_)
      refine lv_iload hx hb dX8_project_33 (lv_at hl 4 rfl) ?_
      refine b_icmp_ge (tgt := 41) S dX8_project_35 (by decide) hm (fun hm => ?_) (fun hm => ?_)
      · refine lv_aload_n hx hb dX8_project_41 rfl (lv_at hl 0 rfl) ?_
        refine r_getr S hG hP ho clX8 fX8_6 kX8_52 dX8_project_42 ?_
        refine lv_aload_n hx hb dX8_project_45 rfl (lv_at hl 0 rfl) ?_
        refine r_getr S hG hP ho clX8 fX8_2 kX8_26 dX8_project_46 ?_
        refine r_vcallv (As := [.ref (ad (o + 7))]) (rest := []) S hG hP hS mX1_keep kX8_150 clX1 (chX8_6 hG ho) (tX1_keep _ _ _ _ _ _ _ _ (chX8_6 hG ho) (chX8_2 hG ho)) ⟨rfl, rfl⟩ (rm_ok (by decide) (by decide)) hm hl.1 rfl (Nat.le_of_ble_eq_true rfl) ⟨Nat.zero_le _, Nat.zero_le _⟩ dX8_project_49 (fun μ7 H locs hm hP hS => ?_)
        refine lv_aload_n hx hb dX8_project_52 rfl (lv_at hl 0 rfl) ?_
        refine r_getr S hG hP ho clX8 fX8_2 kX8_26 dX8_project_53 ?_
        refine lv_iload_n hx hb dX8_project_56 rfl (lv_at hl 1 rfl) ?_
        refine lv_iload_n hx hb dX8_project_57 rfl (lv_at hl 2 rfl) ?_
        refine lv_iload_n hx hb dX8_project_58 rfl (lv_at hl 3 rfl) ?_
        refine lv_iload hx hb dX8_project_59 (lv_at hl 4 rfl) ?_
        refine r_vcallv (As := [.int v1, .int v2, .int v3, .int v4]) (rest := []) S hG hP hS mX0_moveToValue kX8_174 clX0 (chX8_2 hG ho) (tX0_moveToValue _ _ _ _ _ _ _ _ (chX8_2 hG ho) v1 v2 v3 v4) ⟨rfl, rfl⟩ (rm_ok (by decide) (by decide)) hm hl.1 rfl (Nat.le_of_ble_eq_true rfl) ⟨Nat.zero_le _, Nat.zero_le _⟩ dX8_project_61 (fun μ8 H locs hm hP hS => ?_)
        refine lv_aload_n hx hb dX8_project_64 rfl (lv_at hl 0 rfl) ?_
        refine r_getr S hG hP ho clX8 fX8_2 kX8_26 dX8_project_65 ?_
        refine lv_aload_n hx hb dX8_project_68 rfl (lv_at hl 0 rfl) ?_
        refine r_getr S hG hP ho clX8 fX8_2 kX8_26 dX8_project_69 ?_
        refine lv_iload_n hx hb dX8_project_72 rfl (lv_at hl 1 rfl) ?_
        refine lv_iload_n hx hb dX8_project_73 rfl (lv_at hl 2 rfl) ?_
        refine r_vcalli (As := [.int v1, .int v2]) (rest := [.ref (ad (o + 7))]) S hG hP hS mX0_nameOn kX8_130 clX0 (chX8_2 hG ho) (tX0_nameOn _ _ _ _ _ _ _ _ (chX8_2 hG ho) v1 v2) ⟨rfl, rfl⟩ (rm_ok (by decide) (by decide)) hm hl.1 rfl (Nat.le_of_ble_eq_true rfl) ⟨Nat.zero_le _, Nat.zero_le _⟩ dX8_project_74 (fun b10 μ9 H locs hm hP hS => ?_)
        refine lv_iload_n hx hb dX8_project_77 rfl (lv_at hl 3 rfl) ?_
        refine r_vcalli (As := [.int b10, .int v3]) (rest := []) S hG hP hS mX0_singleCost kX8_123 clX0 (chX8_2 hG ho) (tX0_singleCost _ _ _ _ _ _ _ _ (chX8_2 hG ho) b10 v3) ⟨rfl, rfl⟩ (rm_ok (by decide) (by decide)) hm hl.1 rfl (Nat.le_of_ble_eq_true rfl) ⟨Nat.zero_le _, Nat.zero_le _⟩ dX8_project_78 (fun b12 μ11 H locs hm hP hS => ?_)
        exact r_iret S hr hG hP hS hm dX8_project_81
      · refine lv_bipush (v := (-2 : Int32)) hx hb dX8_project_38 (by decide) ?_
        exact r_iret S hr hG hP hS hm dX8_project_40
    · refine lv_iconst (v := (-1 : Int32)) hx hb dX8_project_21 (by decide) ?_
      exact r_iret S hr hG hP hS hm dX8_project_22
theorem tX8_project (l : Launch) (D : va_G) (cI cR : ClassId) (n : Nat) (K L ad : Nat → Nat) {o : Nat} (ho : isk n K o 8) (v1 : Int32) (v2 : Int32) (v3 : Int32) (v4 : Int32) : Ci l yX8_project cX8_project 5 (some .int) (rmL 4) D cI cR n K L ad [.ref (ad o), .int v1, .int v2, .int v3, .int v4] (fX8_project L o v1 v2 v3 v4) := by
  refine Ci.ofW (by decide) (Nat.le_of_ble_eq_true rfl) ?_
  intro μ x hm p e s m args below meth c ls S hr hG hP hS hl
  exact wX8_project_0 S hr hG ho v1 v2 v3 v4 μ hm _ _ ls hP hS hl
-- X8_extend
set_option maxHeartbeats 4000000 in
set_option maxRecDepth 100000 in
theorem wX8_extend_0 (S : CallFix p m c cX8_extend 6 s args TB RX8) (hr : meth.sig.returnType = (some .int) ∧ meth.locks = false) (hG : gok D cI cR n K L ad s) {o : Nat} (ho : isk n K o 8) {x : Int32 × Mem} : ∀ (v1 v2 v3 v4 : Int32) (μ : Mem), fX8_extend L o v1 v2 v3 v4 μ = some x → WI p l e (rmL 4) s m args below meth c D cI cR n K L ad 6 x μ 0 [(0, .ref (ad o)), (1, .int v1), (2, .int v2), (3, .int v3), (4, .int v4)] [] := by
  have hx := S.1
  have hb := S.2.1
  intro v1 v2 v3 v4 μ hm H locs ls hP hS hl
  unfold fX8_extend at hm
  refine lv_aload_n hx hb dX8_extend_0 rfl (lv_at hl 0 rfl) ?_
  refine r_getr S hG hP ho clX8 fX8_2 kX8_26 dX8_extend_1 ?_
  refine lv_iload_n hx hb dX8_extend_4 rfl (lv_at hl 1 rfl) ?_
  refine lv_iload_n hx hb dX8_extend_5 rfl (lv_at hl 2 rfl) ?_
  refine lv_iload_n hx hb dX8_extend_6 rfl (lv_at hl 3 rfl) ?_
  refine r_vcalli (As := [.int v1, .int v2, .int v3]) (rest := []) S hG hP hS mX0_hasValueOn kX8_168 clX0 (chX8_2 hG ho) (tX0_hasValueOn _ _ _ _ _ _ _ _ (chX8_2 hG ho) v1 v2 v3) ⟨rfl, rfl⟩ (rm_ok (by decide) (by decide)) hm hl.1 rfl (Nat.le_of_ble_eq_true rfl) ⟨Nat.zero_le _, Nat.zero_le _⟩ dX8_extend_7 (fun b2 μ1 H locs hm hP hS => ?_)
  refine b_if_eq (tgt := 21) S dX8_extend_10 (by decide) hm (fun hm => ?_) (fun hm => ?_)
  · refine lv_iconst (v := (-1 : Int32)) hx hb dX8_extend_21 (by decide) ?_
    exact r_iret S hr hG hP hS hm dX8_extend_22
  · refine lv_iload hx hb dX8_extend_13 (lv_at hl 4 rfl) ?_
    refine r_scalli (As := [.int v4]) (rest := []) S hG hP hS mX8_isStep kX8_147 (tX8_isStep _ _ _ _ _ _ _ _ v4) ⟨rfl, rfl⟩ (rm_ok (by decide) (by decide)) hm hl.1 rfl (Nat.le_of_ble_eq_true rfl) ⟨Nat.zero_le _, Nat.zero_le _⟩ dX8_extend_15 (fun b4 μ3 H locs hm hP hS => ?_)
    refine b_if_ne (tgt := 23) S dX8_extend_18 (by decide) hm (fun hm => ?_) (fun hm => ?_)
    · refine lv_aload_n hx hb dX8_extend_23 rfl (lv_at hl 0 rfl) ?_
      refine r_getr S hG hP ho clX8 fX8_2 kX8_26 dX8_extend_24 ?_
      refine lv_iload_n hx hb dX8_extend_27 rfl (lv_at hl 1 rfl) ?_
      refine lv_iload_n hx hb dX8_extend_28 rfl (lv_at hl 2 rfl) ?_
      refine r_vcalli (As := [.int v1, .int v2]) (rest := []) S hG hP hS mX0_nameOn kX8_130 clX0 (chX8_2 hG ho) (tX0_nameOn _ _ _ _ _ _ _ _ (chX8_2 hG ho) v1 v2) ⟨rfl, rfl⟩ (rm_ok (by decide) (by decide)) hm hl.1 rfl (Nat.le_of_ble_eq_true rfl) ⟨Nat.zero_le _, Nat.zero_le _⟩ dX8_extend_29 (fun b6 μ5 H locs hm hP hS => ?_)
      refine lv_istore (lv' := [(5, .int b6), (0, .ref (ad o)), (1, .int v1), (2, .int v2), (3, .int v3), (4, .int v4)]) hx hb dX8_extend_32 hl (by decide) rfl (fun ls hl => ?_)
      refine lv_aload_n hx hb dX8_extend_34 rfl (lv_at hl 1 rfl) ?_
      refine r_getr S hG hP ho clX8 fX8_2 kX8_26 dX8_extend_35 ?_
      refine lv_iload hx hb dX8_extend_38 (lv_at hl 0 rfl) ?_
      refine lv_iload_n hx hb dX8_extend_40 rfl (lv_at hl 4 rfl) ?_
      refine r_vcalli (As := [.int b6, .int v3]) (rest := []) S hG hP hS mX0_singleCost kX8_123 clX0 (chX8_2 hG ho) (tX0_singleCost _ _ _ _ _ _ _ _ (chX8_2 hG ho) b6 v3) ⟨rfl, rfl⟩ (rm_ok (by decide) (by decide)) hm hl.1 rfl (Nat.le_of_ble_eq_true rfl) ⟨Nat.zero_le _, Nat.zero_le _⟩ dX8_extend_41 (fun b8 μ7 H locs hm hP hS => ?_)
      refine lv_iload hx hb dX8_extend_44 (lv_at hl 5 rfl) ?_
      refine b_icmp_ge (tgt := 52) S dX8_extend_46 (by decide) hm (fun hm => ?_) (fun hm => ?_)
      · refine lv_aload_n hx hb dX8_extend_52 rfl (lv_at hl 1 rfl) ?_
        refine r_getr S hG hP ho clX8 fX8_6 kX8_52 dX8_extend_53 ?_
        refine lv_aload_n hx hb dX8_extend_56 rfl (lv_at hl 1 rfl) ?_
        refine r_getr S hG hP ho clX8 fX8_2 kX8_26 dX8_extend_57 ?_
        refine r_vcallv (As := [.ref (ad (o + 7))]) (rest := []) S hG hP hS mX1_keep kX8_150 clX1 (chX8_6 hG ho) (tX1_keep _ _ _ _ _ _ _ _ (chX8_6 hG ho) (chX8_2 hG ho)) ⟨rfl, rfl⟩ (rm_ok (by decide) (by decide)) hm hl.1 rfl (Nat.le_of_ble_eq_true rfl) ⟨Nat.zero_le _, Nat.zero_le _⟩ dX8_extend_60 (fun μ9 H locs hm hP hS => ?_)
        refine lv_aload_n hx hb dX8_extend_63 rfl (lv_at hl 1 rfl) ?_
        refine r_getr S hG hP ho clX8 fX8_2 kX8_26 dX8_extend_64 ?_
        refine lv_iload_n hx hb dX8_extend_67 rfl (lv_at hl 2 rfl) ?_
        refine lv_iload_n hx hb dX8_extend_68 rfl (lv_at hl 3 rfl) ?_
        refine lv_iload_n hx hb dX8_extend_69 rfl (lv_at hl 4 rfl) ?_
        refine lv_iload hx hb dX8_extend_70 (lv_at hl 5 rfl) ?_
        refine r_vcallv (As := [.int v1, .int v2, .int v3, .int v4]) (rest := []) S hG hP hS mX0_moveToTable kX8_178 clX0 (chX8_2 hG ho) (tX0_moveToTable _ _ _ _ _ _ _ _ (chX8_2 hG ho) v1 v2 v3 v4) ⟨rfl, rfl⟩ (rm_ok (by decide) (by decide)) hm hl.1 rfl (Nat.le_of_ble_eq_true rfl) ⟨Nat.zero_le _, Nat.zero_le _⟩ dX8_extend_72 (fun μ10 H locs hm hP hS => ?_)
        refine lv_aload_n hx hb dX8_extend_75 rfl (lv_at hl 1 rfl) ?_
        refine r_getr S hG hP ho clX8 fX8_2 kX8_26 dX8_extend_76 ?_
        refine lv_iload hx hb dX8_extend_79 (lv_at hl 0 rfl) ?_
        refine lv_iload_n hx hb dX8_extend_81 rfl (lv_at hl 4 rfl) ?_
        refine r_vcalli (As := [.int b6, .int v3]) (rest := []) S hG hP hS mX0_singleCost kX8_123 clX0 (chX8_2 hG ho) (tX0_singleCost _ _ _ _ _ _ _ _ (chX8_2 hG ho) b6 v3) ⟨rfl, rfl⟩ (rm_ok (by decide) (by decide)) hm hl.1 rfl (Nat.le_of_ble_eq_true rfl) ⟨Nat.zero_le _, Nat.zero_le _⟩ dX8_extend_82 (fun b12 μ11 H locs hm hP hS => ?_)
        exact r_iret S hr hG hP hS hm dX8_extend_85
      · refine lv_bipush (v := (-2 : Int32)) hx hb dX8_extend_49 (by decide) ?_
        exact r_iret S hr hG hP hS hm dX8_extend_51
    · refine lv_iconst (v := (-1 : Int32)) hx hb dX8_extend_21 (by decide) ?_
      exact r_iret S hr hG hP hS hm dX8_extend_22
theorem tX8_extend (l : Launch) (D : va_G) (cI cR : ClassId) (n : Nat) (K L ad : Nat → Nat) {o : Nat} (ho : isk n K o 8) (v1 : Int32) (v2 : Int32) (v3 : Int32) (v4 : Int32) : Ci l yX8_extend cX8_extend 6 (some .int) (rmL 4) D cI cR n K L ad [.ref (ad o), .int v1, .int v2, .int v3, .int v4] (fX8_extend L o v1 v2 v3 v4) := by
  refine Ci.ofW (by decide) (Nat.le_of_ble_eq_true rfl) ?_
  intro μ x hm p e s m args below meth c ls S hr hG hP hS hl
  exact wX8_extend_0 S hr hG ho v1 v2 v3 v4 μ hm _ _ ls hP hS hl
-- X8_raise
set_option maxHeartbeats 4000000 in
set_option maxRecDepth 100000 in
theorem wX8_raise_0 (S : CallFix p m c cX8_raise 3 s args TB RX8) (hr : meth.sig.returnType = (some .int) ∧ meth.locks = false) (hG : gok D cI cR n K L ad s) {o : Nat} (ho : isk n K o 8) {x : Int32 × Mem} : ∀ (v1 v2 : Int32) (μ : Mem), fX8_raise L o v1 v2 μ = some x → WI p l e (rmL 4) s m args below meth c D cI cR n K L ad 3 x μ 0 [(0, .ref (ad o)), (1, .int v1), (2, .int v2)] [] := by
  have hx := S.1
  have hb := S.2.1
  intro v1 v2 μ hm H locs ls hP hS hl
  unfold fX8_raise at hm
  refine lv_aload_n hx hb dX8_raise_0 rfl (lv_at hl 0 rfl) ?_
  refine r_getr S hG hP ho clX8 fX8_2 kX8_26 dX8_raise_1 ?_
  refine lv_iload_n hx hb dX8_raise_4 rfl (lv_at hl 1 rfl) ?_
  refine r_vcalli (As := [.int v1]) (rest := []) S hG hP hS mX0_hasName kX8_103 clX0 (chX8_2 hG ho) (tX0_hasName _ _ _ _ _ _ _ _ (chX8_2 hG ho) v1) ⟨rfl, rfl⟩ (rm_ok (by decide) (by decide)) hm hl.1 rfl (Nat.le_of_ble_eq_true rfl) ⟨Nat.zero_le _, Nat.zero_le _⟩ dX8_raise_5 (fun b2 μ1 H locs hm hP hS => ?_)
  refine b_if_eq (tgt := 18) S dX8_raise_8 (by decide) hm (fun hm => ?_) (fun hm => ?_)
  · refine lv_iconst (v := (-1 : Int32)) hx hb dX8_raise_18 (by decide) ?_
    exact r_iret S hr hG hP hS hm dX8_raise_19
  · refine lv_iload_n hx hb dX8_raise_11 rfl (lv_at hl 2 rfl) ?_
    refine r_scalli (As := [.int v2]) (rest := []) S hG hP hS mX8_isStep kX8_147 (tX8_isStep _ _ _ _ _ _ _ _ v2) ⟨rfl, rfl⟩ (rm_ok (by decide) (by decide)) hm hl.1 rfl (Nat.le_of_ble_eq_true rfl) ⟨Nat.zero_le _, Nat.zero_le _⟩ dX8_raise_12 (fun b4 μ3 H locs hm hP hS => ?_)
    refine b_if_ne (tgt := 20) S dX8_raise_15 (by decide) hm (fun hm => ?_) (fun hm => ?_)
    · refine lv_aload_n hx hb dX8_raise_20 rfl (lv_at hl 0 rfl) ?_
      refine r_getr S hG hP ho clX8 fX8_2 kX8_26 dX8_raise_21 ?_
      refine lv_iload_n hx hb dX8_raise_24 rfl (lv_at hl 1 rfl) ?_
      refine r_vcalli (As := [.int v1]) (rest := []) S hG hP hS mX0_leastSingle kX8_116 clX0 (chX8_2 hG ho) (tX0_leastSingle _ _ _ _ _ _ _ _ (chX8_2 hG ho) v1) ⟨rfl, rfl⟩ (rm_ok (by decide) (by decide)) hm hl.1 rfl (Nat.le_of_ble_eq_true rfl) ⟨Nat.zero_le _, Nat.zero_le _⟩ dX8_raise_25 (fun b6 μ5 H locs hm hP hS => ?_)
      refine lv_iload_n hx hb dX8_raise_28 rfl (lv_at hl 2 rfl) ?_
      refine b_icmp_ge (tgt := 35) S dX8_raise_29 (by decide) hm (fun hm => ?_) (fun hm => ?_)
      · refine lv_aload_n hx hb dX8_raise_35 rfl (lv_at hl 0 rfl) ?_
        refine r_getr S hG hP ho clX8 fX8_6 kX8_52 dX8_raise_36 ?_
        refine lv_aload_n hx hb dX8_raise_39 rfl (lv_at hl 0 rfl) ?_
        refine r_getr S hG hP ho clX8 fX8_2 kX8_26 dX8_raise_40 ?_
        refine r_vcallv (As := [.ref (ad (o + 7))]) (rest := []) S hG hP hS mX1_keep kX8_150 clX1 (chX8_6 hG ho) (tX1_keep _ _ _ _ _ _ _ _ (chX8_6 hG ho) (chX8_2 hG ho)) ⟨rfl, rfl⟩ (rm_ok (by decide) (by decide)) hm hl.1 rfl (Nat.le_of_ble_eq_true rfl) ⟨Nat.zero_le _, Nat.zero_le _⟩ dX8_raise_43 (fun μ7 H locs hm hP hS => ?_)
        refine lv_aload_n hx hb dX8_raise_46 rfl (lv_at hl 0 rfl) ?_
        refine r_getr S hG hP ho clX8 fX8_2 kX8_26 dX8_raise_47 ?_
        refine lv_iload_n hx hb dX8_raise_50 rfl (lv_at hl 1 rfl) ?_
        refine lv_iload_n hx hb dX8_raise_51 rfl (lv_at hl 2 rfl) ?_
        refine r_vcallv (As := [.int v1, .int v2]) (rest := []) S hG hP hS mX0_moveToConstant kX8_181 clX0 (chX8_2 hG ho) (tX0_moveToConstant _ _ _ _ _ _ _ _ (chX8_2 hG ho) v1 v2) ⟨rfl, rfl⟩ (rm_ok (by decide) (by decide)) hm hl.1 rfl (Nat.le_of_ble_eq_true rfl) ⟨Nat.zero_le _, Nat.zero_le _⟩ dX8_raise_52 (fun μ8 H locs hm hP hS => ?_)
        refine lv_aload_n hx hb dX8_raise_55 rfl (lv_at hl 0 rfl) ?_
        refine r_getr S hG hP ho clX8 fX8_2 kX8_26 dX8_raise_56 ?_
        refine r_vcalli (As := []) (rest := []) S hG hP hS mX0_constant kX8_184 clX0 (chX8_2 hG ho) (tX0_constant _ _ _ _ _ _ _ _ (chX8_2 hG ho)) ⟨rfl, rfl⟩ (rm_ok (by decide) (by decide)) hm hl.1 rfl (Nat.le_of_ble_eq_true rfl) ⟨Nat.zero_le _, Nat.zero_le _⟩ dX8_raise_59 (fun b10 μ9 H locs hm hP hS => ?_)
        exact r_iret S hr hG hP hS hm dX8_raise_62
      · refine lv_bipush (v := (-2 : Int32)) hx hb dX8_raise_32 (by decide) ?_
        exact r_iret S hr hG hP hS hm dX8_raise_34
    · refine lv_iconst (v := (-1 : Int32)) hx hb dX8_raise_18 (by decide) ?_
      exact r_iret S hr hG hP hS hm dX8_raise_19
theorem tX8_raise (l : Launch) (D : va_G) (cI cR : ClassId) (n : Nat) (K L ad : Nat → Nat) {o : Nat} (ho : isk n K o 8) (v1 : Int32) (v2 : Int32) : Ci l yX8_raise cX8_raise 3 (some .int) (rmL 4) D cI cR n K L ad [.ref (ad o), .int v1, .int v2] (fX8_raise L o v1 v2) := by
  refine Ci.ofW (by decide) (Nat.le_of_ble_eq_true rfl) ?_
  intro μ x hm p e s m args below meth c ls S hr hG hP hS hl
  exact wX8_raise_0 S hr hG ho v1 v2 μ hm _ _ ls hP hS hl
-- X8_isSweep
set_option maxHeartbeats 4000000 in
set_option maxRecDepth 100000 in
theorem wX8_isSweep_0 (S : CallFix p m c cX8_isSweep 1 s args TB RX8) (hr : meth.sig.returnType = (some .boolean) ∧ meth.locks = false) (hG : gok D cI cR n K L ad s) {x : Int32 × Mem} : ∀ (v0 : Int32) (μ : Mem), fX8_isSweep L v0 μ = some x → WI p l e (rmL 0) s m args below meth c D cI cR n K L ad 1 x μ 0 [(0, .int v0)] [] := by
  have hx := S.1
  have hb := S.2.1
  intro v0 μ hm H locs ls hP hS hl
  unfold fX8_isSweep at hm
  refine lv_iload_n hx hb dX8_isSweep_0 rfl (lv_at hl 0 rfl) ?_
  refine b_if_lt (tgt := 13) S dX8_isSweep_1 (by decide) hm (fun hm => ?_) (fun hm => ?_)
  · refine lv_iconst (v := (0 : Int32)) hx hb dX8_isSweep_13 (by decide) ?_
    exact r_zretC S hr hG hP hS rfl hm dX8_isSweep_14
  · refine lv_iload_n hx hb dX8_isSweep_4 rfl (lv_at hl 0 rfl) ?_
    refine lv_iconst (v := (2 : Int32)) hx hb dX8_isSweep_5 (by decide) ?_
    refine b_icmp_gt (tgt := 13) S dX8_isSweep_6 (by decide) hm (fun hm => ?_) (fun hm => ?_)
    · refine lv_iconst (v := (0 : Int32)) hx hb dX8_isSweep_13 (by decide) ?_
      exact r_zretC S hr hG hP hS rfl hm dX8_isSweep_14
    · refine lv_iconst (v := (1 : Int32)) hx hb dX8_isSweep_9 (by decide) ?_
      refine lv_goto (tgt := 14) hx hb dX8_isSweep_10 (by decide) ?_
      exact r_zretC S hr hG hP hS rfl hm dX8_isSweep_14
theorem tX8_isSweep (l : Launch) (D : va_G) (cI cR : ClassId) (n : Nat) (K L ad : Nat → Nat) (v0 : Int32) : Ci l yX8_isSweep cX8_isSweep 1 (some .boolean) (rmL 0) D cI cR n K L ad [.int v0] (fX8_isSweep L v0) := by
  refine Ci.ofW (by decide) (Nat.le_of_ble_eq_true rfl) ?_
  intro μ x hm p e s m args below meth c ls S hr hG hP hS hl
  exact wX8_isSweep_0 S hr hG v0 μ hm _ _ ls hP hS hl
-- X8_sweep
set_option maxHeartbeats 4000000 in
set_option maxRecDepth 100000 in
theorem wX8_sweep_33 (S : CallFix p m c cX8_sweep 4 s args TB RX8) (hr : meth.sig.returnType = (some .int) ∧ meth.locks = false) (hG : gok D cI cR n K L ad s) {o : Nat} (ho : isk n K o 8) {x : Int32 × Mem} : ∀ (k : Nat) (v1 v2 v3 : Int32) (μ : Mem), fX8_sweep_33 L o k v1 v2 v3 μ = some x → WI p l e (rmL 6) s m args below meth c D cI cR n K L ad 4 x μ 33 [(0, .ref (ad o)), (1, .int v1), (2, .int v2), (3, .int v3)] [] := by
  have hx := S.1
  have hb := S.2.1
  intro k
  induction k with
  | zero => intro v1 v2 v3 μ hm; exact absurd (show none = some x from hm) (fun h => by cases h)
  | succ k ih =>
    intro v1 v2 v3 μ hm H locs ls hP hS hl
    have hm : fX8_sweep_33_b L o (fX8_sweep_33 L o k) v1 v2 v3 μ = some x := hm
    unfold fX8_sweep_33_b at hm
    refine lv_iload_n hx hb dX8_sweep_33 rfl (lv_at hl 3 rfl) ?_
    refine lv_iload_n hx hb dX8_sweep_34 rfl (lv_at hl 2 rfl) ?_
    refine b_icmp_ge (tgt := 56) S dX8_sweep_35 (by decide) hm (fun hm => ?_) (fun hm => ?_)
    · refine lv_aload_n hx hb dX8_sweep_56 rfl (lv_at hl 0 rfl) ?_
      refine r_getr S hG hP ho clX8 fX8_2 kX8_26 dX8_sweep_57 ?_
      refine r_vcalli (As := []) (rest := []) S hG hP hS mX0_constant kX8_184 clX0 (chX8_2 hG ho) (tX0_constant _ _ _ _ _ _ _ _ (chX8_2 hG ho)) ⟨rfl, rfl⟩ (rm_ok (by decide) (by decide)) hm hl.1 rfl (Nat.le_of_ble_eq_true rfl) ⟨Nat.zero_le _, Nat.zero_le _⟩ dX8_sweep_60 (fun b2 μ1 H locs hm hP hS => ?_)
      exact r_iret S hr hG hP hS hm dX8_sweep_63
    · refine lv_aload_n hx hb dX8_sweep_38 rfl (lv_at hl 0 rfl) ?_
      refine r_getr S hG hP ho clX8 fX8_5 kX8_45 dX8_sweep_39 ?_
      refine lv_aload_n hx hb dX8_sweep_42 rfl (lv_at hl 0 rfl) ?_
      refine r_getr S hG hP ho clX8 fX8_2 kX8_26 dX8_sweep_43 ?_
      refine lv_iload_n hx hb dX8_sweep_46 rfl (lv_at hl 1 rfl) ?_
      refine r_vcallv (As := [.ref (ad (o + 7)), .int v1]) (rest := []) S hG hP hS mX5_doOne kX8_190 clX5 (chX8_5 hG ho) (tX5_doOne _ _ _ _ _ _ _ _ (chX8_5 hG ho) (chX8_2 hG ho) v1) ⟨rfl, rfl⟩ (rm_ok (by decide) (by decide)) hm hl.1 rfl (Nat.le_of_ble_eq_true rfl) ⟨Nat.zero_le _, Nat.zero_le _⟩ dX8_sweep_47 (fun μ3 H locs hm hP hS => ?_)
      refine r_iinc (b := (1 : Int32)) (k := 3) S hm dX8_sweep_50 hl rfl (by decide) (by decide) (fun a4 ls hm hl => ?_)
      have hl : lv_has ls 4 [(3, .int a4), (0, .ref (ad o)), (1, .int v1), (2, .int v2)] := hl
      refine lv_goto (tgt := 33) hx hb dX8_sweep_53 (by decide) ?_
      exact ih v1 v2 a4 μ3 hm H locs ls hP hS (lv_sub hl [1, 2, 3, 0] rfl)
set_option maxHeartbeats 4000000 in
set_option maxRecDepth 100000 in
theorem wX8_sweep_0 (S : CallFix p m c cX8_sweep 4 s args TB RX8) (hr : meth.sig.returnType = (some .int) ∧ meth.locks = false) (hG : gok D cI cR n K L ad s) {o : Nat} (ho : isk n K o 8) {x : Int32 × Mem} : ∀ (v1 v2 : Int32) (μ : Mem), fX8_sweep L o v1 v2 μ = some x → WI p l e (rmL 6) s m args below meth c D cI cR n K L ad 4 x μ 0 [(0, .ref (ad o)), (1, .int v1), (2, .int v2)] [] := by
  have hx := S.1
  have hb := S.2.1
  intro v1 v2 μ hm H locs ls hP hS hl
  unfold fX8_sweep at hm
  refine lv_iload_n hx hb dX8_sweep_0 rfl (lv_at hl 1 rfl) ?_
  refine r_scalli (As := [.int v1]) (rest := []) S hG hP hS mX8_isSweep kX8_187 (tX8_isSweep _ _ _ _ _ _ _ _ v1) ⟨rfl, rfl⟩ (rm_ok (by decide) (by decide)) hm hl.1 rfl (Nat.le_of_ble_eq_true rfl) ⟨Nat.zero_le _, Nat.zero_le _⟩ dX8_sweep_1 (fun b6 μ5 H locs hm hP hS => ?_)
  refine b_if_eq (tgt := 18) S dX8_sweep_4 (by decide) hm (fun hm => ?_) (fun hm => ?_)
  · refine lv_iconst (v := (-1 : Int32)) hx hb dX8_sweep_18 (by decide) ?_
    exact r_iret S hr hG hP hS hm dX8_sweep_19
  · refine lv_iload_n hx hb dX8_sweep_7 rfl (lv_at hl 2 rfl) ?_
    refine lv_iconst (v := (1 : Int32)) hx hb dX8_sweep_8 (by decide) ?_
    refine b_icmp_lt (tgt := 18) S dX8_sweep_9 (by decide) hm (fun hm => ?_) (fun hm => ?_)
    · refine lv_iconst (v := (-1 : Int32)) hx hb dX8_sweep_18 (by decide) ?_
      exact r_iret S hr hG hP hS hm dX8_sweep_19
    · refine lv_iload_n hx hb dX8_sweep_12 rfl (lv_at hl 2 rfl) ?_
      refine lv_bipush (v := (9 : Int32)) hx hb dX8_sweep_13 (by decide) ?_
      refine b_icmp_le (tgt := 20) S dX8_sweep_15 (by decide) hm (fun hm => ?_) (fun hm => ?_)
      · refine lv_aload_n hx hb dX8_sweep_20 rfl (lv_at hl 0 rfl) ?_
        refine r_getr S hG hP ho clX8 fX8_6 kX8_52 dX8_sweep_21 ?_
        refine lv_aload_n hx hb dX8_sweep_24 rfl (lv_at hl 0 rfl) ?_
        refine r_getr S hG hP ho clX8 fX8_2 kX8_26 dX8_sweep_25 ?_
        refine r_vcallv (As := [.ref (ad (o + 7))]) (rest := []) S hG hP hS mX1_keep kX8_150 clX1 (chX8_6 hG ho) (tX1_keep _ _ _ _ _ _ _ _ (chX8_6 hG ho) (chX8_2 hG ho)) ⟨rfl, rfl⟩ (rm_ok (by decide) (by decide)) hm hl.1 rfl (Nat.le_of_ble_eq_true rfl) ⟨Nat.zero_le _, Nat.zero_le _⟩ dX8_sweep_28 (fun μ7 H locs hm hP hS => ?_)
        refine lv_iconst (v := (0 : Int32)) hx hb dX8_sweep_31 (by decide) ?_
        refine lv_istore_n (lv' := [(3, .int (0 : Int32)), (0, .ref (ad o)), (1, .int v1), (2, .int v2)]) hx hb dX8_sweep_32 rfl hl (by decide) rfl (fun ls hl => ?_)
        exact wX8_sweep_33 S hr hG ho FU v1 v2 (0 : Int32) μ7 hm H locs ls hP hS (lv_sub hl [1, 2, 3, 0] rfl)
      · refine lv_iconst (v := (-1 : Int32)) hx hb dX8_sweep_18 (by decide) ?_
        exact r_iret S hr hG hP hS hm dX8_sweep_19
theorem tX8_sweep (l : Launch) (D : va_G) (cI cR : ClassId) (n : Nat) (K L ad : Nat → Nat) {o : Nat} (ho : isk n K o 8) (v1 : Int32) (v2 : Int32) : Ci l yX8_sweep cX8_sweep 4 (some .int) (rmL 6) D cI cR n K L ad [.ref (ad o), .int v1, .int v2] (fX8_sweep L o v1 v2) := by
  refine Ci.ofW (by decide) (Nat.le_of_ble_eq_true rfl) ?_
  intro μ x hm p e s m args below meth c ls S hr hG hP hS hl
  exact wX8_sweep_0 S hr hG ho v1 v2 μ hm _ _ ls hP hS hl
-- X8_settle
set_option maxHeartbeats 4000000 in
set_option maxRecDepth 100000 in
theorem wX8_settle_0 (S : CallFix p m c cX8_settle 2 s args TB RX8) (hr : meth.sig.returnType = (some .int) ∧ meth.locks = false) (hG : gok D cI cR n K L ad s) {o : Nat} (ho : isk n K o 8) {x : Int32 × Mem} : ∀ (v1 : Int32) (μ : Mem), fX8_settle L o v1 μ = some x → WI p l e (rmL 7) s m args below meth c D cI cR n K L ad 2 x μ 0 [(0, .ref (ad o)), (1, .int v1)] [] := by
  have hx := S.1
  have hb := S.2.1
  intro v1 μ hm H locs ls hP hS hl
  unfold fX8_settle at hm
  refine lv_iload_n hx hb dX8_settle_0 rfl (lv_at hl 1 rfl) ?_
  refine r_scalli (As := [.int v1]) (rest := []) S hG hP hS mX8_isSweep kX8_187 (tX8_isSweep _ _ _ _ _ _ _ _ v1) ⟨rfl, rfl⟩ (rm_ok (by decide) (by decide)) hm hl.1 rfl (Nat.le_of_ble_eq_true rfl) ⟨Nat.zero_le _, Nat.zero_le _⟩ dX8_settle_1 (fun b2 μ1 H locs hm hP hS => ?_)
  refine b_if_ne (tgt := 9) S dX8_settle_4 (by decide) hm (fun hm => ?_) (fun hm => ?_)
  · refine lv_aload_n hx hb dX8_settle_9 rfl (lv_at hl 0 rfl) ?_
    refine r_getr S hG hP ho clX8 fX8_6 kX8_52 dX8_settle_10 ?_
    refine lv_aload_n hx hb dX8_settle_13 rfl (lv_at hl 0 rfl) ?_
    refine r_getr S hG hP ho clX8 fX8_2 kX8_26 dX8_settle_14 ?_
    refine r_vcallv (As := [.ref (ad (o + 7))]) (rest := []) S hG hP hS mX1_keep kX8_150 clX1 (chX8_6 hG ho) (tX1_keep _ _ _ _ _ _ _ _ (chX8_6 hG ho) (chX8_2 hG ho)) ⟨rfl, rfl⟩ (rm_ok (by decide) (by decide)) hm hl.1 rfl (Nat.le_of_ble_eq_true rfl) ⟨Nat.zero_le _, Nat.zero_le _⟩ dX8_settle_17 (fun μ3 H locs hm hP hS => ?_)
    refine lv_aload_n hx hb dX8_settle_20 rfl (lv_at hl 0 rfl) ?_
    refine r_getr S hG hP ho clX8 fX8_5 kX8_45 dX8_settle_21 ?_
    refine lv_aload_n hx hb dX8_settle_24 rfl (lv_at hl 0 rfl) ?_
    refine r_getr S hG hP ho clX8 fX8_2 kX8_26 dX8_settle_25 ?_
    refine lv_iload_n hx hb dX8_settle_28 rfl (lv_at hl 1 rfl) ?_
    refine r_vcalli (As := [.ref (ad (o + 7)), .int v1]) (rest := []) S hG hP hS mX5_doTillSettled kX8_194 clX5 (chX8_5 hG ho) (tX5_doTillSettled _ _ _ _ _ _ _ _ (chX8_5 hG ho) (chX8_2 hG ho) v1) ⟨rfl, rfl⟩ (rm_ok (by decide) (by decide)) hm hl.1 rfl (Nat.le_of_ble_eq_true rfl) ⟨Nat.zero_le _, Nat.zero_le _⟩ dX8_settle_29 (fun b5 μ4 H locs hm hP hS => ?_)
    exact r_iret S hr hG hP hS hm dX8_settle_32
  · refine lv_iconst (v := (-1 : Int32)) hx hb dX8_settle_7 (by decide) ?_
    exact r_iret S hr hG hP hS hm dX8_settle_8
theorem tX8_settle (l : Launch) (D : va_G) (cI cR : ClassId) (n : Nat) (K L ad : Nat → Nat) {o : Nat} (ho : isk n K o 8) (v1 : Int32) : Ci l yX8_settle cX8_settle 2 (some .int) (rmL 7) D cI cR n K L ad [.ref (ad o), .int v1] (fX8_settle L o v1) := by
  refine Ci.ofW (by decide) (Nat.le_of_ble_eq_true rfl) ?_
  intro μ x hm p e s m args below meth c ls S hr hG hP hS hl
  exact wX8_settle_0 S hr hG ho v1 μ hm _ _ ls hP hS hl
-- X8_bound
set_option maxHeartbeats 4000000 in
set_option maxRecDepth 100000 in
theorem wX8_bound_0 (S : CallFix p m c cX8_bound 2 s args TB RX8) (hr : meth.sig.returnType = (some .int) ∧ meth.locks = false) (hG : gok D cI cR n K L ad s) {o : Nat} (ho : isk n K o 8) {x : Int32 × Mem} : ∀ (v1 : Int32) (μ : Mem), fX8_bound L o v1 μ = some x → WI p l e (rmL 7) s m args below meth c D cI cR n K L ad 2 x μ 0 [(0, .ref (ad o)), (1, .int v1)] [] := by
  have hx := S.1
  have hb := S.2.1
  intro v1 μ hm H locs ls hP hS hl
  unfold fX8_bound at hm
  refine lv_iload_n hx hb dX8_bound_0 rfl (lv_at hl 1 rfl) ?_
  refine r_scalli (As := [.int v1]) (rest := []) S hG hP hS mX8_isSweep kX8_187 (tX8_isSweep _ _ _ _ _ _ _ _ v1) ⟨rfl, rfl⟩ (rm_ok (by decide) (by decide)) hm hl.1 rfl (Nat.le_of_ble_eq_true rfl) ⟨Nat.zero_le _, Nat.zero_le _⟩ dX8_bound_1 (fun b2 μ1 H locs hm hP hS => ?_)
  refine b_if_ne (tgt := 9) S dX8_bound_4 (by decide) hm (fun hm => ?_) (fun hm => ?_)
  · refine lv_aload_n hx hb dX8_bound_9 rfl (lv_at hl 0 rfl) ?_
    refine r_getr S hG hP ho clX8 fX8_3 kX8_30 dX8_bound_10 ?_
    refine lv_aload_n hx hb dX8_bound_13 rfl (lv_at hl 0 rfl) ?_
    refine r_getr S hG hP ho clX8 fX8_2 kX8_26 dX8_bound_14 ?_
    refine r_vcallv (As := [.ref (ad (o + 7))]) (rest := []) S hG hP hS mX0_takeAll kX8_97 clX0 (chX8_3 hG ho) (tX0_takeAll _ _ _ _ _ _ _ _ (chX8_3 hG ho) (chX8_2 hG ho)) ⟨rfl, rfl⟩ (rm_ok (by decide) (by decide)) hm hl.1 rfl (Nat.le_of_ble_eq_true rfl) ⟨Nat.zero_le _, Nat.zero_le _⟩ dX8_bound_17 (fun μ3 H locs hm hP hS => ?_)
    refine lv_aload_n hx hb dX8_bound_20 rfl (lv_at hl 0 rfl) ?_
    refine r_getr S hG hP ho clX8 fX8_5 kX8_45 dX8_bound_21 ?_
    refine lv_aload_n hx hb dX8_bound_24 rfl (lv_at hl 0 rfl) ?_
    refine r_getr S hG hP ho clX8 fX8_3 kX8_30 dX8_bound_25 ?_
    refine lv_iload_n hx hb dX8_bound_28 rfl (lv_at hl 1 rfl) ?_
    refine r_vcalli (As := [.ref (ad (o + 16)), .int v1]) (rest := []) S hG hP hS mX5_doTillSettled kX8_194 clX5 (chX8_5 hG ho) (tX5_doTillSettled _ _ _ _ _ _ _ _ (chX8_5 hG ho) (chX8_3 hG ho) v1) ⟨rfl, rfl⟩ (rm_ok (by decide) (by decide)) hm hl.1 rfl (Nat.le_of_ble_eq_true rfl) ⟨Nat.zero_le _, Nat.zero_le _⟩ dX8_bound_29 (fun b5 μ4 H locs hm hP hS => ?_)
    refine lv_pop hx hb dX8_bound_32 rfl ?_
    refine lv_aload_n hx hb dX8_bound_33 rfl (lv_at hl 0 rfl) ?_
    refine r_getr S hG hP ho clX8 fX8_3 kX8_30 dX8_bound_34 ?_
    refine r_vcalli (As := []) (rest := []) S hG hP hS mX0_constant kX8_184 clX0 (chX8_3 hG ho) (tX0_constant _ _ _ _ _ _ _ _ (chX8_3 hG ho)) ⟨rfl, rfl⟩ (rm_ok (by decide) (by decide)) hm hl.1 rfl (Nat.le_of_ble_eq_true rfl) ⟨Nat.zero_le _, Nat.zero_le _⟩ dX8_bound_37 (fun b7 μ6 H locs hm hP hS => ?_)
    exact r_iret S hr hG hP hS hm dX8_bound_40
  · refine lv_iconst (v := (-1 : Int32)) hx hb dX8_bound_7 (by decide) ?_
    exact r_iret S hr hG hP hS hm dX8_bound_8
theorem tX8_bound (l : Launch) (D : va_G) (cI cR : ClassId) (n : Nat) (K L ad : Nat → Nat) {o : Nat} (ho : isk n K o 8) (v1 : Int32) : Ci l yX8_bound cX8_bound 2 (some .int) (rmL 7) D cI cR n K L ad [.ref (ad o), .int v1] (fX8_bound L o v1) := by
  refine Ci.ofW (by decide) (Nat.le_of_ble_eq_true rfl) ?_
  intro μ x hm p e s m args below meth c ls S hr hG hP hS hl
  exact wX8_bound_0 S hr hG ho v1 μ hm _ _ ls hP hS hl
-- X8_undo
set_option maxHeartbeats 4000000 in
set_option maxRecDepth 100000 in
theorem wX8_undo_0 (S : CallFix p m c cX8_undo 1 s args TB RX8) (hr : meth.sig.returnType = (some .int) ∧ meth.locks = false) (hG : gok D cI cR n K L ad s) {o : Nat} (ho : isk n K o 8) {x : Int32 × Mem} : ∀ (μ : Mem), fX8_undo L o μ = some x → WI p l e (rmL 4) s m args below meth c D cI cR n K L ad 1 x μ 0 [(0, .ref (ad o))] [] := by
  have hx := S.1
  have hb := S.2.1
  intro μ hm H locs ls hP hS hl
  unfold fX8_undo at hm
  refine lv_aload_n hx hb dX8_undo_0 rfl (lv_at hl 0 rfl) ?_
  refine r_getr S hG hP ho clX8 fX8_6 kX8_52 dX8_undo_1 ?_
  refine lv_aload_n hx hb dX8_undo_4 rfl (lv_at hl 0 rfl) ?_
  refine r_getr S hG hP ho clX8 fX8_2 kX8_26 dX8_undo_5 ?_
  refine r_vcalli (As := [.ref (ad (o + 7))]) (rest := []) S hG hP hS mX1_giveBack kX8_198 clX1 (chX8_6 hG ho) (tX1_giveBack _ _ _ _ _ _ _ _ (chX8_6 hG ho) (chX8_2 hG ho)) ⟨rfl, rfl⟩ (rm_ok (by decide) (by decide)) hm hl.1 rfl (Nat.le_of_ble_eq_true rfl) ⟨Nat.zero_le _, Nat.zero_le _⟩ dX8_undo_8 (fun b2 μ1 H locs hm hP hS => ?_)
  refine b_if_eq (tgt := 24) S dX8_undo_11 (by decide) hm (fun hm => ?_) (fun hm => ?_)
  · refine lv_bipush (v := (-2 : Int32)) hx hb dX8_undo_24 (by decide) ?_
    exact r_iret S hr hG hP hS hm dX8_undo_26
  · refine lv_aload_n hx hb dX8_undo_14 rfl (lv_at hl 0 rfl) ?_
    refine r_getr S hG hP ho clX8 fX8_6 kX8_52 dX8_undo_15 ?_
    refine r_vcalli (As := []) (rest := []) S hG hP hS mX1_size kX8_202 clX1 (chX8_6 hG ho) (tX1_size _ _ _ _ _ _ _ _ (chX8_6 hG ho)) ⟨rfl, rfl⟩ (rm_ok (by decide) (by decide)) hm hl.1 rfl (Nat.le_of_ble_eq_true rfl) ⟨Nat.zero_le _, Nat.zero_le _⟩ dX8_undo_18 (fun b4 μ3 H locs hm hP hS => ?_)
    refine lv_goto (tgt := 26) hx hb dX8_undo_21 (by decide) ?_
    exact r_iret S hr hG hP hS hm dX8_undo_26
theorem tX8_undo (l : Launch) (D : va_G) (cI cR : ClassId) (n : Nat) (K L ad : Nat → Nat) {o : Nat} (ho : isk n K o 8) : Ci l yX8_undo cX8_undo 1 (some .int) (rmL 4) D cI cR n K L ad [.ref (ad o)] (fX8_undo L o) := by
  refine Ci.ofW (by decide) (Nat.le_of_ble_eq_true rfl) ?_
  intro μ x hm p e s m args below meth c ls S hr hG hP hS hl
  exact wX8_undo_0 S hr hG ho μ hm _ _ ls hP hS hl
-- X8_best
set_option maxHeartbeats 4000000 in
set_option maxRecDepth 100000 in
theorem wX8_best_24 (S : CallFix p m c cX8_best 2 s args TB RX8) (hr : meth.sig.returnType = (some .int) ∧ meth.locks = false) (hG : gok D cI cR n K L ad s) {o : Nat} (ho : isk n K o 8) {x : Int32 × Mem} : ∀ (v1 : Int32) (μ : Mem), fX8_best_24 L o v1 μ = some x → WI p l e (rmL 23) s m args below meth c D cI cR n K L ad 2 x μ 24 [(0, .ref (ad o)), (1, .int v1)] [] := by
  have hx := S.1
  have hb := S.2.1
  intro v1 μ hm H locs ls hP hS hl
  unfold fX8_best_24 at hm
  refine lv_aload_n hx hb dX8_best_24 rfl (lv_at hl 0 rfl) ?_
  refine r_getr S hG hP ho clX8 fX8_7 kX8_59 dX8_best_25 ?_
  refine lv_aload_n hx hb dX8_best_28 rfl (lv_at hl 0 rfl) ?_
  refine r_getr S hG hP ho clX8 fX8_2 kX8_26 dX8_best_29 ?_
  refine lv_iconst (v := (-1 : Int32)) hx hb dX8_best_32 (by decide) ?_
  refine lv_iconst (v := (0 : Int32)) hx hb dX8_best_33 (by decide) ?_
  refine lv_iconst (v := (-1 : Int32)) hx hb dX8_best_34 (by decide) ?_
  refine r_vcallv (As := [.ref (ad (o + 7)), .int (-1 : Int32), .int (0 : Int32), .int (-1 : Int32)]) (rest := []) S hG hP hS mX4_goThrough kX8_205 clX4 (chX8_7 hG ho) (tX4_goThrough _ _ _ _ _ _ _ _ (chX8_7 hG ho) (chX8_2 hG ho) (-1 : Int32) (0 : Int32) (-1 : Int32)) ⟨rfl, rfl⟩ (rm_ok (by decide) (by decide)) hm hl.1 rfl (Nat.le_of_ble_eq_true rfl) ⟨Nat.zero_le _, Nat.zero_le _⟩ dX8_best_35 (fun μ1 H locs hm hP hS => ?_)
  refine lv_aload_n hx hb dX8_best_38 rfl (lv_at hl 0 rfl) ?_
  refine r_getr S hG hP ho clX8 fX8_7 kX8_59 dX8_best_39 ?_
  refine r_vcalli (As := []) (rest := []) S hG hP hS mX4_hasFound kX8_209 clX4 (chX8_7 hG ho) (tX4_hasFound _ _ _ _ _ _ _ _ (chX8_7 hG ho)) ⟨rfl, rfl⟩ (rm_ok (by decide) (by decide)) hm hl.1 rfl (Nat.le_of_ble_eq_true rfl) ⟨Nat.zero_le _, Nat.zero_le _⟩ dX8_best_42 (fun b3 μ2 H locs hm hP hS => ?_)
  refine b_if_ne (tgt := 51) S dX8_best_45 (by decide) hm (fun hm => ?_) (fun hm => ?_)
  · refine lv_iload_n hx hb dX8_best_51 rfl (lv_at hl 1 rfl) ?_
    refine b_sw (k := (-2 : Int32)) hm (fun hv52_0 hm => ?_) (fun hv52_0 hm => ?_)
    · refine lv_lookup (off := 36) (tgt := 88) hx hb dX8_best_52 (by decide) (by rw [hv52_0] <;> rfl) (by decide) ?_
      refine lv_aload_n hx hb dX8_best_88 rfl (lv_at hl 0 rfl) ?_
      refine r_getr S hG hP ho clX8 fX8_7 kX8_59 dX8_best_89 ?_
      refine r_vcalli (As := []) (rest := []) S hG hP hS mX4_waysOfLeast kX8_216 clX4 (chX8_7 hG ho) (tX4_waysOfLeast _ _ _ _ _ _ _ _ (chX8_7 hG ho)) ⟨rfl, rfl⟩ (rm_ok (by decide) (by decide)) hm hl.1 rfl (Nat.le_of_ble_eq_true rfl) ⟨Nat.zero_le _, Nat.zero_le _⟩ dX8_best_92 (fun b5 μ4 H locs hm hP hS => ?_)
      exact r_iret S hr hG hP hS hm dX8_best_95
    · refine b_sw (k := (-1 : Int32)) hm (fun hv52_1 hm => ?_) (fun hv52_1 hm => ?_)
      · refine lv_lookup (off := 28) (tgt := 80) hx hb dX8_best_52 (by decide) (by rw [hv52_1] <;> rfl) (by decide) ?_
        refine lv_aload_n hx hb dX8_best_80 rfl (lv_at hl 0 rfl) ?_
        refine r_getr S hG hP ho clX8 fX8_7 kX8_59 dX8_best_81 ?_
        refine r_vcalli (As := []) (rest := []) S hG hP hS mX4_leastTotal kX8_213 clX4 (chX8_7 hG ho) (tX4_leastTotal _ _ _ _ _ _ _ _ (chX8_7 hG ho)) ⟨rfl, rfl⟩ (rm_ok (by decide) (by decide)) hm hl.1 rfl (Nat.le_of_ble_eq_true rfl) ⟨Nat.zero_le _, Nat.zero_le _⟩ dX8_best_84 (fun b7 μ6 H locs hm hP hS => ?_)
        exact r_iret S hr hG hP hS hm dX8_best_87
      · refine lv_lookup (off := 44) (tgt := 96) hx hb dX8_best_52 (by decide) ((lv_osw hv52_0 rfl).trans ((lv_osw hv52_1 rfl).trans rfl)) (by decide) ?_
        refine lv_aload_n hx hb dX8_best_96 rfl (lv_at hl 0 rfl) ?_
        refine r_getr S hG hP ho clX8 fX8_7 kX8_59 dX8_best_97 ?_
        refine lv_iload_n hx hb dX8_best_100 rfl (lv_at hl 1 rfl) ?_
        refine r_vcalli (As := [.int v1]) (rest := []) S hG hP hS mX4_firstValueOf kX8_219 clX4 (chX8_7 hG ho) (tX4_firstValueOf _ _ _ _ _ _ _ _ (chX8_7 hG ho) v1) ⟨rfl, rfl⟩ (rm_ok (by decide) (by decide)) hm hl.1 rfl (Nat.le_of_ble_eq_true rfl) ⟨Nat.zero_le _, Nat.zero_le _⟩ dX8_best_101 (fun b9 μ8 H locs hm hP hS => ?_)
        exact r_iret S hr hG hP hS hm dX8_best_104
  · refine lv_bipush (v := (-4 : Int32)) hx hb dX8_best_48 (by decide) ?_
    exact r_iret S hr hG hP hS hm dX8_best_50
set_option maxHeartbeats 4000000 in
set_option maxRecDepth 100000 in
theorem wX8_best_0 (S : CallFix p m c cX8_best 2 s args TB RX8) (hr : meth.sig.returnType = (some .int) ∧ meth.locks = false) (hG : gok D cI cR n K L ad s) {o : Nat} (ho : isk n K o 8) {x : Int32 × Mem} : ∀ (v1 : Int32) (μ : Mem), fX8_best L o v1 μ = some x → WI p l e (rmL 23) s m args below meth c D cI cR n K L ad 2 x μ 0 [(0, .ref (ad o)), (1, .int v1)] [] := by
  have hx := S.1
  have hb := S.2.1
  intro v1 μ hm H locs ls hP hS hl
  unfold fX8_best at hm
  refine lv_iload_n hx hb dX8_best_0 rfl (lv_at hl 1 rfl) ?_
  refine lv_iconst (v := (-1 : Int32)) hx hb dX8_best_1 (by decide) ?_
  refine b_icmp_eq (tgt := 24) S dX8_best_2 (by decide) hm (fun hm => ?_) (fun hm => ?_)
  · exact wX8_best_24 S hr hG ho v1 μ hm H locs ls hP hS (lv_sub hl [0, 1] rfl)
  · refine lv_iload_n hx hb dX8_best_5 rfl (lv_at hl 1 rfl) ?_
    refine lv_bipush (v := (-2 : Int32)) hx hb dX8_best_6 (by decide) ?_
    refine b_icmp_eq (tgt := 24) S dX8_best_8 (by decide) hm (fun hm => ?_) (fun hm => ?_)
    · exact wX8_best_24 S hr hG ho v1 μ hm H locs ls hP hS (lv_sub hl [0, 1] rfl)
    · refine lv_aload_n hx hb dX8_best_11 rfl (lv_at hl 0 rfl) ?_
      refine r_getr S hG hP ho clX8 fX8_2 kX8_26 dX8_best_12 ?_
      refine lv_iload_n hx hb dX8_best_15 rfl (lv_at hl 1 rfl) ?_
      refine r_vcalli (As := [.int v1]) (rest := []) S hG hP hS mX0_hasName kX8_103 clX0 (chX8_2 hG ho) (tX0_hasName _ _ _ _ _ _ _ _ (chX8_2 hG ho) v1) ⟨rfl, rfl⟩ (rm_ok (by decide) (by decide)) hm hl.1 rfl (Nat.le_of_ble_eq_true rfl) ⟨Nat.zero_le _, Nat.zero_le _⟩ dX8_best_16 (fun b11 μ10 H locs hm hP hS => ?_)
      refine b_if_ne (tgt := 24) S dX8_best_19 (by decide) hm (fun hm => ?_) (fun hm => ?_)
      · exact wX8_best_24 S hr hG ho v1 μ10 hm H locs ls hP hS (lv_sub hl [0, 1] rfl)
      · refine lv_iconst (v := (-1 : Int32)) hx hb dX8_best_22 (by decide) ?_
        exact r_iret S hr hG hP hS hm dX8_best_23
theorem tX8_best (l : Launch) (D : va_G) (cI cR : ClassId) (n : Nat) (K L ad : Nat → Nat) {o : Nat} (ho : isk n K o 8) (v1 : Int32) : Ci l yX8_best cX8_best 2 (some .int) (rmL 23) D cI cR n K L ad [.ref (ad o), .int v1] (fX8_best L o v1) := by
  refine Ci.ofW (by decide) (Nat.le_of_ble_eq_true rfl) ?_
  intro μ x hm p e s m args below meth c ls S hr hG hP hS hl
  exact wX8_best_0 S hr hG ho v1 μ hm _ _ ls hP hS hl
-- X8_next
set_option maxHeartbeats 4000000 in
set_option maxRecDepth 100000 in
theorem wX8_next_11 (S : CallFix p m c cX8_next 2 s args TB RX8) (hr : meth.sig.returnType = (some .int) ∧ meth.locks = false) (hG : gok D cI cR n K L ad s) {o : Nat} (ho : isk n K o 8) {x : Int32 × Mem} : ∀ (v1 : Int32) (μ : Mem), fX8_next_11 L o v1 μ = some x → WI p l e (rmL 23) s m args below meth c D cI cR n K L ad 2 x μ 11 [(0, .ref (ad o)), (1, .int v1)] [] := by
  have hx := S.1
  have hb := S.2.1
  intro v1 μ hm H locs ls hP hS hl
  unfold fX8_next_11 at hm
  refine lv_aload_n hx hb dX8_next_11 rfl (lv_at hl 0 rfl) ?_
  refine r_getr S hG hP ho clX8 fX8_7 kX8_59 dX8_next_12 ?_
  refine lv_aload_n hx hb dX8_next_15 rfl (lv_at hl 0 rfl) ?_
  refine r_getr S hG hP ho clX8 fX8_2 kX8_26 dX8_next_16 ?_
  refine lv_iconst (v := (-1 : Int32)) hx hb dX8_next_19 (by decide) ?_
  refine lv_iconst (v := (0 : Int32)) hx hb dX8_next_20 (by decide) ?_
  refine lv_iconst (v := (-1 : Int32)) hx hb dX8_next_21 (by decide) ?_
  refine r_vcallv (As := [.ref (ad (o + 7)), .int (-1 : Int32), .int (0 : Int32), .int (-1 : Int32)]) (rest := []) S hG hP hS mX4_goThrough kX8_205 clX4 (chX8_7 hG ho) (tX4_goThrough _ _ _ _ _ _ _ _ (chX8_7 hG ho) (chX8_2 hG ho) (-1 : Int32) (0 : Int32) (-1 : Int32)) ⟨rfl, rfl⟩ (rm_ok (by decide) (by decide)) hm hl.1 rfl (Nat.le_of_ble_eq_true rfl) ⟨Nat.zero_le _, Nat.zero_le _⟩ dX8_next_22 (fun μ1 H locs hm hP hS => ?_)
  refine lv_iload_n hx hb dX8_next_25 rfl (lv_at hl 1 rfl) ?_
  refine lv_iconst (v := (1 : Int32)) hx hb dX8_next_26 (by decide) ?_
  refine b_icmp_ne (tgt := 38) S dX8_next_27 (by decide) hm (fun hm => ?_) (fun hm => ?_)
  · refine lv_aload_n hx hb dX8_next_38 rfl (lv_at hl 0 rfl) ?_
    refine r_getr S hG hP ho clX8 fX8_7 kX8_59 dX8_next_39 ?_
    refine r_vcalli (As := []) (rest := []) S hG hP hS mX4_hasSecond kX8_225 clX4 (chX8_7 hG ho) (tX4_hasSecond _ _ _ _ _ _ _ _ (chX8_7 hG ho)) ⟨rfl, rfl⟩ (rm_ok (by decide) (by decide)) hm hl.1 rfl (Nat.le_of_ble_eq_true rfl) ⟨Nat.zero_le _, Nat.zero_le _⟩ dX8_next_42 (fun b3 μ2 H locs hm hP hS => ?_)
    refine b_if_eq (tgt := 58) S dX8_next_45 (by decide) hm (fun hm => ?_) (fun hm => ?_)
    · refine lv_bipush (v := (-4 : Int32)) hx hb dX8_next_58 (by decide) ?_
      exact r_iret S hr hG hP hS hm dX8_next_60
    · refine lv_aload_n hx hb dX8_next_48 rfl (lv_at hl 0 rfl) ?_
      refine r_getr S hG hP ho clX8 fX8_7 kX8_59 dX8_next_49 ?_
      refine r_vcalli (As := []) (rest := []) S hG hP hS mX4_secondTotal kX8_228 clX4 (chX8_7 hG ho) (tX4_secondTotal _ _ _ _ _ _ _ _ (chX8_7 hG ho)) ⟨rfl, rfl⟩ (rm_ok (by decide) (by decide)) hm hl.1 rfl (Nat.le_of_ble_eq_true rfl) ⟨Nat.zero_le _, Nat.zero_le _⟩ dX8_next_52 (fun b5 μ4 H locs hm hP hS => ?_)
      refine lv_goto (tgt := 60) hx hb dX8_next_55 (by decide) ?_
      exact r_iret S hr hG hP hS hm dX8_next_60
  · refine lv_aload_n hx hb dX8_next_30 rfl (lv_at hl 0 rfl) ?_
    refine r_getr S hG hP ho clX8 fX8_7 kX8_59 dX8_next_31 ?_
    refine r_vcalli (As := []) (rest := []) S hG hP hS mX4_choicesBelowTop kX8_222 clX4 (chX8_7 hG ho) (tX4_choicesBelowTop _ _ _ _ _ _ _ _ (chX8_7 hG ho)) ⟨rfl, rfl⟩ (rm_ok (by decide) (by decide)) hm hl.1 rfl (Nat.le_of_ble_eq_true rfl) ⟨Nat.zero_le _, Nat.zero_le _⟩ dX8_next_34 (fun b7 μ6 H locs hm hP hS => ?_)
    exact r_iret S hr hG hP hS hm dX8_next_37
set_option maxHeartbeats 4000000 in
set_option maxRecDepth 100000 in
theorem wX8_next_0 (S : CallFix p m c cX8_next 2 s args TB RX8) (hr : meth.sig.returnType = (some .int) ∧ meth.locks = false) (hG : gok D cI cR n K L ad s) {o : Nat} (ho : isk n K o 8) {x : Int32 × Mem} : ∀ (v1 : Int32) (μ : Mem), fX8_next L o v1 μ = some x → WI p l e (rmL 23) s m args below meth c D cI cR n K L ad 2 x μ 0 [(0, .ref (ad o)), (1, .int v1)] [] := by
  have hx := S.1
  have hb := S.2.1
  intro v1 μ hm H locs ls hP hS hl
  unfold fX8_next at hm
  refine lv_iload_n hx hb dX8_next_0 rfl (lv_at hl 1 rfl) ?_
  refine b_if_eq (tgt := 11) S dX8_next_1 (by decide) hm (fun hm => ?_) (fun hm => ?_)
  · exact wX8_next_11 S hr hG ho v1 μ hm H locs ls hP hS (lv_sub hl [0, 1] rfl)
  · refine lv_iload_n hx hb dX8_next_4 rfl (lv_at hl 1 rfl) ?_
    refine lv_iconst (v := (1 : Int32)) hx hb dX8_next_5 (by decide) ?_
    refine b_icmp_eq (tgt := 11) S dX8_next_6 (by decide) hm (fun hm => ?_) (fun hm => ?_)
    · exact wX8_next_11 S hr hG ho v1 μ hm H locs ls hP hS (lv_sub hl [0, 1] rfl)
    · refine lv_iconst (v := (-1 : Int32)) hx hb dX8_next_9 (by decide) ?_
      exact r_iret S hr hG hP hS hm dX8_next_10
theorem tX8_next (l : Launch) (D : va_G) (cI cR : ClassId) (n : Nat) (K L ad : Nat → Nat) {o : Nat} (ho : isk n K o 8) (v1 : Int32) : Ci l yX8_next cX8_next 2 (some .int) (rmL 23) D cI cR n K L ad [.ref (ad o), .int v1] (fX8_next L o v1) := by
  refine Ci.ofW (by decide) (Nat.le_of_ble_eq_true rfl) ?_
  intro μ x hm p e s m args below meth c ls S hr hG hP hS hl
  exact wX8_next_0 S hr hG ho v1 μ hm _ _ ls hP hS hl
-- X8_backbone
set_option maxHeartbeats 4000000 in
set_option maxRecDepth 100000 in
theorem wX8_backbone_0 (S : CallFix p m c cX8_backbone 1 s args TB RX8) (hr : meth.sig.returnType = (some .int) ∧ meth.locks = false) (hG : gok D cI cR n K L ad s) {o : Nat} (ho : isk n K o 8) {x : Int32 × Mem} : ∀ (μ : Mem), fX8_backbone L o μ = some x → WI p l e (rmL 23) s m args below meth c D cI cR n K L ad 1 x μ 0 [(0, .ref (ad o))] [] := by
  have hx := S.1
  have hb := S.2.1
  intro μ hm H locs ls hP hS hl
  unfold fX8_backbone at hm
  refine lv_aload_n hx hb dX8_backbone_0 rfl (lv_at hl 0 rfl) ?_
  refine r_getr S hG hP ho clX8 fX8_7 kX8_59 dX8_backbone_1 ?_
  refine lv_aload_n hx hb dX8_backbone_4 rfl (lv_at hl 0 rfl) ?_
  refine r_getr S hG hP ho clX8 fX8_2 kX8_26 dX8_backbone_5 ?_
  refine lv_iconst (v := (-1 : Int32)) hx hb dX8_backbone_8 (by decide) ?_
  refine lv_iconst (v := (0 : Int32)) hx hb dX8_backbone_9 (by decide) ?_
  refine lv_iconst (v := (-1 : Int32)) hx hb dX8_backbone_10 (by decide) ?_
  refine r_vcallv (As := [.ref (ad (o + 7)), .int (-1 : Int32), .int (0 : Int32), .int (-1 : Int32)]) (rest := []) S hG hP hS mX4_goThrough kX8_205 clX4 (chX8_7 hG ho) (tX4_goThrough _ _ _ _ _ _ _ _ (chX8_7 hG ho) (chX8_2 hG ho) (-1 : Int32) (0 : Int32) (-1 : Int32)) ⟨rfl, rfl⟩ (rm_ok (by decide) (by decide)) hm hl.1 rfl (Nat.le_of_ble_eq_true rfl) ⟨Nat.zero_le _, Nat.zero_le _⟩ dX8_backbone_11 (fun μ1 H locs hm hP hS => ?_)
  refine lv_aload_n hx hb dX8_backbone_14 rfl (lv_at hl 0 rfl) ?_
  refine r_getr S hG hP ho clX8 fX8_7 kX8_59 dX8_backbone_15 ?_
  refine r_vcalli (As := []) (rest := []) S hG hP hS mX4_hasFound kX8_209 clX4 (chX8_7 hG ho) (tX4_hasFound _ _ _ _ _ _ _ _ (chX8_7 hG ho)) ⟨rfl, rfl⟩ (rm_ok (by decide) (by decide)) hm hl.1 rfl (Nat.le_of_ble_eq_true rfl) ⟨Nat.zero_le _, Nat.zero_le _⟩ dX8_backbone_18 (fun b3 μ2 H locs hm hP hS => ?_)
  refine b_if_eq (tgt := 34) S dX8_backbone_21 (by decide) hm (fun hm => ?_) (fun hm => ?_)
  · refine lv_bipush (v := (-4 : Int32)) hx hb dX8_backbone_34 (by decide) ?_
    exact r_iret S hr hG hP hS hm dX8_backbone_36
  · refine lv_aload_n hx hb dX8_backbone_24 rfl (lv_at hl 0 rfl) ?_
    refine r_getr S hG hP ho clX8 fX8_7 kX8_59 dX8_backbone_25 ?_
    refine r_vcalli (As := []) (rest := []) S hG hP hS mX4_commonValues kX8_231 clX4 (chX8_7 hG ho) (tX4_commonValues _ _ _ _ _ _ _ _ (chX8_7 hG ho)) ⟨rfl, rfl⟩ (rm_ok (by decide) (by decide)) hm hl.1 rfl (Nat.le_of_ble_eq_true rfl) ⟨Nat.zero_le _, Nat.zero_le _⟩ dX8_backbone_28 (fun b5 μ4 H locs hm hP hS => ?_)
    refine lv_goto (tgt := 36) hx hb dX8_backbone_31 (by decide) ?_
    exact r_iret S hr hG hP hS hm dX8_backbone_36
theorem tX8_backbone (l : Launch) (D : va_G) (cI cR : ClassId) (n : Nat) (K L ad : Nat → Nat) {o : Nat} (ho : isk n K o 8) : Ci l yX8_backbone cX8_backbone 1 (some .int) (rmL 23) D cI cR n K L ad [.ref (ad o)] (fX8_backbone L o) := by
  refine Ci.ofW (by decide) (Nat.le_of_ble_eq_true rfl) ?_
  intro μ x hm p e s m args below meth c ls S hr hG hP hS hl
  exact wX8_backbone_0 S hr hG ho μ hm _ _ ls hP hS hl
-- X8_with
set_option maxHeartbeats 4000000 in
set_option maxRecDepth 100000 in
theorem wX8_with_0 (S : CallFix p m c cX8_with 3 s args TB RX8) (hr : meth.sig.returnType = (some .int) ∧ meth.locks = false) (hG : gok D cI cR n K L ad s) {o : Nat} (ho : isk n K o 8) {x : Int32 × Mem} : ∀ (v1 v2 : Int32) (μ : Mem), fX8_with L o v1 v2 μ = some x → WI p l e (rmL 23) s m args below meth c D cI cR n K L ad 3 x μ 0 [(0, .ref (ad o)), (1, .int v1), (2, .int v2)] [] := by
  have hx := S.1
  have hb := S.2.1
  intro v1 v2 μ hm H locs ls hP hS hl
  unfold fX8_with at hm
  refine lv_aload_n hx hb dX8_with_0 rfl (lv_at hl 0 rfl) ?_
  refine r_getr S hG hP ho clX8 fX8_2 kX8_26 dX8_with_1 ?_
  refine lv_iload_n hx hb dX8_with_4 rfl (lv_at hl 1 rfl) ?_
  refine lv_iload_n hx hb dX8_with_5 rfl (lv_at hl 2 rfl) ?_
  refine r_vcalli (As := [.int v1, .int v2]) (rest := []) S hG hP hS mX0_hasValue kX8_119 clX0 (chX8_2 hG ho) (tX0_hasValue _ _ _ _ _ _ _ _ (chX8_2 hG ho) v1 v2) ⟨rfl, rfl⟩ (rm_ok (by decide) (by decide)) hm hl.1 rfl (Nat.le_of_ble_eq_true rfl) ⟨Nat.zero_le _, Nat.zero_le _⟩ dX8_with_6 (fun b2 μ1 H locs hm hP hS => ?_)
  refine b_if_ne (tgt := 14) S dX8_with_9 (by decide) hm (fun hm => ?_) (fun hm => ?_)
  · refine lv_aload_n hx hb dX8_with_14 rfl (lv_at hl 0 rfl) ?_
    refine r_getr S hG hP ho clX8 fX8_7 kX8_59 dX8_with_15 ?_
    refine lv_aload_n hx hb dX8_with_18 rfl (lv_at hl 0 rfl) ?_
    refine r_getr S hG hP ho clX8 fX8_2 kX8_26 dX8_with_19 ?_
    refine lv_iload_n hx hb dX8_with_22 rfl (lv_at hl 1 rfl) ?_
    refine lv_iload_n hx hb dX8_with_23 rfl (lv_at hl 2 rfl) ?_
    refine lv_iconst (v := (-1 : Int32)) hx hb dX8_with_24 (by decide) ?_
    refine r_vcallv (As := [.ref (ad (o + 7)), .int v1, .int v2, .int (-1 : Int32)]) (rest := []) S hG hP hS mX4_goThrough kX8_205 clX4 (chX8_7 hG ho) (tX4_goThrough _ _ _ _ _ _ _ _ (chX8_7 hG ho) (chX8_2 hG ho) v1 v2 (-1 : Int32)) ⟨rfl, rfl⟩ (rm_ok (by decide) (by decide)) hm hl.1 rfl (Nat.le_of_ble_eq_true rfl) ⟨Nat.zero_le _, Nat.zero_le _⟩ dX8_with_25 (fun μ3 H locs hm hP hS => ?_)
    refine lv_aload_n hx hb dX8_with_28 rfl (lv_at hl 0 rfl) ?_
    refine r_getr S hG hP ho clX8 fX8_7 kX8_59 dX8_with_29 ?_
    refine r_vcalli (As := []) (rest := []) S hG hP hS mX4_hasFound kX8_209 clX4 (chX8_7 hG ho) (tX4_hasFound _ _ _ _ _ _ _ _ (chX8_7 hG ho)) ⟨rfl, rfl⟩ (rm_ok (by decide) (by decide)) hm hl.1 rfl (Nat.le_of_ble_eq_true rfl) ⟨Nat.zero_le _, Nat.zero_le _⟩ dX8_with_32 (fun b5 μ4 H locs hm hP hS => ?_)
    refine b_if_eq (tgt := 48) S dX8_with_35 (by decide) hm (fun hm => ?_) (fun hm => ?_)
    · refine lv_bipush (v := (-4 : Int32)) hx hb dX8_with_48 (by decide) ?_
      exact r_iret S hr hG hP hS hm dX8_with_50
    · refine lv_aload_n hx hb dX8_with_38 rfl (lv_at hl 0 rfl) ?_
      refine r_getr S hG hP ho clX8 fX8_7 kX8_59 dX8_with_39 ?_
      refine r_vcalli (As := []) (rest := []) S hG hP hS mX4_leastTotal kX8_213 clX4 (chX8_7 hG ho) (tX4_leastTotal _ _ _ _ _ _ _ _ (chX8_7 hG ho)) ⟨rfl, rfl⟩ (rm_ok (by decide) (by decide)) hm hl.1 rfl (Nat.le_of_ble_eq_true rfl) ⟨Nat.zero_le _, Nat.zero_le _⟩ dX8_with_42 (fun b7 μ6 H locs hm hP hS => ?_)
      refine lv_goto (tgt := 50) hx hb dX8_with_45 (by decide) ?_
      exact r_iret S hr hG hP hS hm dX8_with_50
  · refine lv_iconst (v := (-1 : Int32)) hx hb dX8_with_12 (by decide) ?_
    exact r_iret S hr hG hP hS hm dX8_with_13
theorem tX8_with (l : Launch) (D : va_G) (cI cR : ClassId) (n : Nat) (K L ad : Nat → Nat) {o : Nat} (ho : isk n K o 8) (v1 : Int32) (v2 : Int32) : Ci l yX8_with cX8_with 3 (some .int) (rmL 23) D cI cR n K L ad [.ref (ad o), .int v1, .int v2] (fX8_with L o v1 v2) := by
  refine Ci.ofW (by decide) (Nat.le_of_ble_eq_true rfl) ?_
  intro μ x hm p e s m args below meth c ls S hr hG hP hS hl
  exact wX8_with_0 S hr hG ho v1 v2 μ hm _ _ ls hP hS hl
-- X8_without
set_option maxHeartbeats 4000000 in
set_option maxRecDepth 100000 in
theorem wX8_without_0 (S : CallFix p m c cX8_without 2 s args TB RX8) (hr : meth.sig.returnType = (some .int) ∧ meth.locks = false) (hG : gok D cI cR n K L ad s) {o : Nat} (ho : isk n K o 8) {x : Int32 × Mem} : ∀ (v1 : Int32) (μ : Mem), fX8_without L o v1 μ = some x → WI p l e (rmL 23) s m args below meth c D cI cR n K L ad 2 x μ 0 [(0, .ref (ad o)), (1, .int v1)] [] := by
  have hx := S.1
  have hb := S.2.1
  intro v1 μ hm H locs ls hP hS hl
  unfold fX8_without at hm
  refine lv_aload_n hx hb dX8_without_0 rfl (lv_at hl 0 rfl) ?_
  refine r_getr S hG hP ho clX8 fX8_2 kX8_26 dX8_without_1 ?_
  refine lv_iload_n hx hb dX8_without_4 rfl (lv_at hl 1 rfl) ?_
  refine r_vcalli (As := [.int v1]) (rest := []) S hG hP hS mX0_hasTable kX8_127 clX0 (chX8_2 hG ho) (tX0_hasTable _ _ _ _ _ _ _ _ (chX8_2 hG ho) v1) ⟨rfl, rfl⟩ (rm_ok (by decide) (by decide)) hm hl.1 rfl (Nat.le_of_ble_eq_true rfl) ⟨Nat.zero_le _, Nat.zero_le _⟩ dX8_without_5 (fun b2 μ1 H locs hm hP hS => ?_)
  refine b_if_ne (tgt := 13) S dX8_without_8 (by decide) hm (fun hm => ?_) (fun hm => ?_)
  · refine lv_aload_n hx hb dX8_without_13 rfl (lv_at hl 0 rfl) ?_
    refine r_getr S hG hP ho clX8 fX8_7 kX8_59 dX8_without_14 ?_
    refine lv_aload_n hx hb dX8_without_17 rfl (lv_at hl 0 rfl) ?_
    refine r_getr S hG hP ho clX8 fX8_2 kX8_26 dX8_without_18 ?_
    refine lv_iconst (v := (-1 : Int32)) hx hb dX8_without_21 (by decide) ?_
    refine lv_iconst (v := (0 : Int32)) hx hb dX8_without_22 (by decide) ?_
    refine lv_iload_n hx hb dX8_without_23 rfl (lv_at hl 1 rfl) ?_
    refine r_vcallv (As := [.ref (ad (o + 7)), .int (-1 : Int32), .int (0 : Int32), .int v1]) (rest := []) S hG hP hS mX4_goThrough kX8_205 clX4 (chX8_7 hG ho) (tX4_goThrough _ _ _ _ _ _ _ _ (chX8_7 hG ho) (chX8_2 hG ho) (-1 : Int32) (0 : Int32) v1) ⟨rfl, rfl⟩ (rm_ok (by decide) (by decide)) hm hl.1 rfl (Nat.le_of_ble_eq_true rfl) ⟨Nat.zero_le _, Nat.zero_le _⟩ dX8_without_24 (fun μ3 H locs hm hP hS => ?_)
    refine lv_aload_n hx hb dX8_without_27 rfl (lv_at hl 0 rfl) ?_
    refine r_getr S hG hP ho clX8 fX8_7 kX8_59 dX8_without_28 ?_
    refine r_vcalli (As := []) (rest := []) S hG hP hS mX4_hasFound kX8_209 clX4 (chX8_7 hG ho) (tX4_hasFound _ _ _ _ _ _ _ _ (chX8_7 hG ho)) ⟨rfl, rfl⟩ (rm_ok (by decide) (by decide)) hm hl.1 rfl (Nat.le_of_ble_eq_true rfl) ⟨Nat.zero_le _, Nat.zero_le _⟩ dX8_without_31 (fun b5 μ4 H locs hm hP hS => ?_)
    refine b_if_eq (tgt := 47) S dX8_without_34 (by decide) hm (fun hm => ?_) (fun hm => ?_)
    · refine lv_bipush (v := (-4 : Int32)) hx hb dX8_without_47 (by decide) ?_
      exact r_iret S hr hG hP hS hm dX8_without_49
    · refine lv_aload_n hx hb dX8_without_37 rfl (lv_at hl 0 rfl) ?_
      refine r_getr S hG hP ho clX8 fX8_7 kX8_59 dX8_without_38 ?_
      refine r_vcalli (As := []) (rest := []) S hG hP hS mX4_leastTotal kX8_213 clX4 (chX8_7 hG ho) (tX4_leastTotal _ _ _ _ _ _ _ _ (chX8_7 hG ho)) ⟨rfl, rfl⟩ (rm_ok (by decide) (by decide)) hm hl.1 rfl (Nat.le_of_ble_eq_true rfl) ⟨Nat.zero_le _, Nat.zero_le _⟩ dX8_without_41 (fun b7 μ6 H locs hm hP hS => ?_)
      refine lv_goto (tgt := 49) hx hb dX8_without_44 (by decide) ?_
      exact r_iret S hr hG hP hS hm dX8_without_49
  · refine lv_iconst (v := (-1 : Int32)) hx hb dX8_without_11 (by decide) ?_
    exact r_iret S hr hG hP hS hm dX8_without_12
theorem tX8_without (l : Launch) (D : va_G) (cI cR : ClassId) (n : Nat) (K L ad : Nat → Nat) {o : Nat} (ho : isk n K o 8) (v1 : Int32) : Ci l yX8_without cX8_without 2 (some .int) (rmL 23) D cI cR n K L ad [.ref (ad o), .int v1] (fX8_without L o v1) := by
  refine Ci.ofW (by decide) (Nat.le_of_ble_eq_true rfl) ?_
  intro μ x hm p e s m args below meth c ls S hr hG hP hS hl
  exact wX8_without_0 S hr hG ho v1 μ hm _ _ ls hP hS hl
-- X8_tries
set_option maxHeartbeats 4000000 in
set_option maxRecDepth 100000 in
theorem wX8_tries_0 (S : CallFix p m c cX8_tries 1 s args TB RX8) (hr : meth.sig.returnType = (some .int) ∧ meth.locks = false) (hG : gok D cI cR n K L ad s) {o : Nat} (ho : isk n K o 8) {x : Int32 × Mem} : ∀ (μ : Mem), fX8_tries L o μ = some x → WI p l e (rmL 24) s m args below meth c D cI cR n K L ad 1 x μ 0 [(0, .ref (ad o))] [] := by
  have hx := S.1
  have hb := S.2.1
  intro μ hm H locs ls hP hS hl
  unfold fX8_tries at hm
  refine lv_aload_n hx hb dX8_tries_0 rfl (lv_at hl 0 rfl) ?_
  refine r_getr S hG hP ho clX8 fX8_8 kX8_66 dX8_tries_1 ?_
  refine lv_aload_n hx hb dX8_tries_4 rfl (lv_at hl 0 rfl) ?_
  refine r_getr S hG hP ho clX8 fX8_2 kX8_26 dX8_tries_5 ?_
  refine r_vcalli (As := [.ref (ad (o + 7))]) (rest := []) S hG hP hS mX7_countTries kX8_234 clX7 (chX8_8 hG ho) (tX7_countTries _ _ _ _ _ _ _ _ (chX8_8 hG ho) (chX8_2 hG ho)) ⟨rfl, rfl⟩ (rm_ok (by decide) (by decide)) hm hl.1 rfl (Nat.le_of_ble_eq_true rfl) ⟨Nat.zero_le _, Nat.zero_le _⟩ dX8_tries_8 (fun b2 μ1 H locs hm hP hS => ?_)
  exact r_iret S hr hG hP hS hm dX8_tries_11
theorem tX8_tries (l : Launch) (D : va_G) (cI cR : ClassId) (n : Nat) (K L ad : Nat → Nat) {o : Nat} (ho : isk n K o 8) : Ci l yX8_tries cX8_tries 1 (some .int) (rmL 24) D cI cR n K L ad [.ref (ad o)] (fX8_tries L o) := by
  refine Ci.ofW (by decide) (Nat.le_of_ble_eq_true rfl) ?_
  intro μ x hm p e s m args below meth c ls S hr hG hP hS hl
  exact wX8_tries_0 S hr hG ho μ hm _ _ ls hP hS hl
-- X8_count
set_option maxHeartbeats 4000000 in
set_option maxRecDepth 100000 in
theorem wX8_count_0 (S : CallFix p m c cX8_count 2 s args TB RX8) (hr : meth.sig.returnType = (some .int) ∧ meth.locks = false) (hG : gok D cI cR n K L ad s) {o : Nat} (ho : isk n K o 8) {x : Int32 × Mem} : ∀ (v1 : Int32) (μ : Mem), fX8_count L o v1 μ = some x → WI p l e (rmL 5) s m args below meth c D cI cR n K L ad 2 x μ 0 [(0, .ref (ad o)), (1, .int v1)] [] := by
  have hx := S.1
  have hb := S.2.1
  intro v1 μ hm H locs ls hP hS hl
  unfold fX8_count at hm
  refine lv_iload_n hx hb dX8_count_0 rfl (lv_at hl 1 rfl) ?_
  refine b_sw (k := (0 : Int32)) hm (fun hv1_0 hm => ?_) (fun hv1_0 hm => ?_)
  · refine lv_tableIn (off := 43) (tgt := 44) hx hb dX8_count_1 (by rw [hv1_0] <;> decide) (by rw [hv1_0] <;> decide) (by rw [hv1_0] <;> rfl) (by decide) ?_
    refine lv_aload_n hx hb dX8_count_44 rfl (lv_at hl 0 rfl) ?_
    refine r_getr S hG hP ho clX8 fX8_2 kX8_26 dX8_count_45 ?_
    refine r_vcalli (As := []) (rest := []) S hG hP hS mX0_names kX8_94 clX0 (chX8_2 hG ho) (tX0_names _ _ _ _ _ _ _ _ (chX8_2 hG ho)) ⟨rfl, rfl⟩ (rm_ok (by decide) (by decide)) hm hl.1 rfl (Nat.le_of_ble_eq_true rfl) ⟨Nat.zero_le _, Nat.zero_le _⟩ dX8_count_48 (fun b2 μ1 H locs hm hP hS => ?_)
    exact r_iret S hr hG hP hS hm dX8_count_51
  · refine b_sw (k := (1 : Int32)) hm (fun hv1_1 hm => ?_) (fun hv1_1 hm => ?_)
    · refine lv_tableIn (off := 51) (tgt := 52) hx hb dX8_count_1 (by rw [hv1_1] <;> decide) (by rw [hv1_1] <;> decide) (by rw [hv1_1] <;> rfl) (by decide) ?_
      refine lv_aload_n hx hb dX8_count_52 rfl (lv_at hl 0 rfl) ?_
      refine r_getr S hG hP ho clX8 fX8_2 kX8_26 dX8_count_53 ?_
      refine r_vcalli (As := []) (rest := []) S hG hP hS mX0_tables kX8_238 clX0 (chX8_2 hG ho) (tX0_tables _ _ _ _ _ _ _ _ (chX8_2 hG ho)) ⟨rfl, rfl⟩ (rm_ok (by decide) (by decide)) hm hl.1 rfl (Nat.le_of_ble_eq_true rfl) ⟨Nat.zero_le _, Nat.zero_le _⟩ dX8_count_56 (fun b4 μ3 H locs hm hP hS => ?_)
      exact r_iret S hr hG hP hS hm dX8_count_59
    · refine b_sw (k := (2 : Int32)) hm (fun hv1_2 hm => ?_) (fun hv1_2 hm => ?_)
      · refine lv_tableIn (off := 59) (tgt := 60) hx hb dX8_count_1 (by rw [hv1_2] <;> decide) (by rw [hv1_2] <;> decide) (by rw [hv1_2] <;> rfl) (by decide) ?_
        refine lv_aload_n hx hb dX8_count_60 rfl (lv_at hl 0 rfl) ?_
        refine r_getr S hG hP ho clX8 fX8_2 kX8_26 dX8_count_61 ?_
        refine r_vcalli (As := []) (rest := []) S hG hP hS mX0_top kX8_241 clX0 (chX8_2 hG ho) (tX0_top _ _ _ _ _ _ _ _ (chX8_2 hG ho)) ⟨rfl, rfl⟩ (rm_ok (by decide) (by decide)) hm hl.1 rfl (Nat.le_of_ble_eq_true rfl) ⟨Nat.zero_le _, Nat.zero_le _⟩ dX8_count_64 (fun b6 μ5 H locs hm hP hS => ?_)
        exact r_iret S hr hG hP hS hm dX8_count_67
      · refine b_sw (k := (3 : Int32)) hm (fun hv1_3 hm => ?_) (fun hv1_3 hm => ?_)
        · refine lv_tableIn (off := 67) (tgt := 68) hx hb dX8_count_1 (by rw [hv1_3] <;> decide) (by rw [hv1_3] <;> decide) (by rw [hv1_3] <;> rfl) (by decide) ?_
          refine lv_aload_n hx hb dX8_count_68 rfl (lv_at hl 0 rfl) ?_
          refine r_getr S hG hP ho clX8 fX8_2 kX8_26 dX8_count_69 ?_
          refine r_vcalli (As := []) (rest := []) S hG hP hS mX0_constant kX8_184 clX0 (chX8_2 hG ho) (tX0_constant _ _ _ _ _ _ _ _ (chX8_2 hG ho)) ⟨rfl, rfl⟩ (rm_ok (by decide) (by decide)) hm hl.1 rfl (Nat.le_of_ble_eq_true rfl) ⟨Nat.zero_le _, Nat.zero_le _⟩ dX8_count_72 (fun b8 μ7 H locs hm hP hS => ?_)
          exact r_iret S hr hG hP hS hm dX8_count_75
        · refine b_sw (k := (4 : Int32)) hm (fun hv1_4 hm => ?_) (fun hv1_4 hm => ?_)
          · refine lv_tableIn (off := 75) (tgt := 76) hx hb dX8_count_1 (by rw [hv1_4] <;> decide) (by rw [hv1_4] <;> decide) (by rw [hv1_4] <;> rfl) (by decide) ?_
            refine lv_aload_n hx hb dX8_count_76 rfl (lv_at hl 0 rfl) ?_
            refine r_getr S hG hP ho clX8 fX8_2 kX8_26 dX8_count_77 ?_
            refine r_vcalli (As := []) (rest := []) S hG hP hS mX0_shutInAll kX8_244 clX0 (chX8_2 hG ho) (tX0_shutInAll _ _ _ _ _ _ _ _ (chX8_2 hG ho)) ⟨rfl, rfl⟩ (rm_ok (by decide) (by decide)) hm hl.1 rfl (Nat.le_of_ble_eq_true rfl) ⟨Nat.zero_le _, Nat.zero_le _⟩ dX8_count_80 (fun b10 μ9 H locs hm hP hS => ?_)
            exact r_iret S hr hG hP hS hm dX8_count_83
          · refine b_sw (k := (5 : Int32)) hm (fun hv1_5 hm => ?_) (fun hv1_5 hm => ?_)
            · refine lv_tableIn (off := 83) (tgt := 84) hx hb dX8_count_1 (by rw [hv1_5] <;> decide) (by rw [hv1_5] <;> decide) (by rw [hv1_5] <;> rfl) (by decide) ?_
              refine lv_aload_n hx hb dX8_count_84 rfl (lv_at hl 0 rfl) ?_
              refine r_getr S hG hP ho clX8 fX8_6 kX8_52 dX8_count_85 ?_
              refine r_vcalli (As := []) (rest := []) S hG hP hS mX1_size kX8_202 clX1 (chX8_6 hG ho) (tX1_size _ _ _ _ _ _ _ _ (chX8_6 hG ho)) ⟨rfl, rfl⟩ (rm_ok (by decide) (by decide)) hm hl.1 rfl (Nat.le_of_ble_eq_true rfl) ⟨Nat.zero_le _, Nat.zero_le _⟩ dX8_count_88 (fun b12 μ11 H locs hm hP hS => ?_)
              exact r_iret S hr hG hP hS hm dX8_count_91
            · refine b_sw (k := (6 : Int32)) hm (fun hv1_6 hm => ?_) (fun hv1_6 hm => ?_)
              · refine lv_tableIn (off := 91) (tgt := 92) hx hb dX8_count_1 (by rw [hv1_6] <;> decide) (by rw [hv1_6] <;> decide) (by rw [hv1_6] <;> rfl) (by decide) ?_
                refine lv_aload_n hx hb dX8_count_92 rfl (lv_at hl 0 rfl) ?_
                refine r_getr S hG hP ho clX8 fX8_0 kX8_12 dX8_count_93 ?_
                refine r_vcalli (As := []) (rest := []) S hG hP hS mX6_length kX8_93 clX6 (chX8_0 hG ho) (tX6_length _ _ _ _ _ _ _ _ (chX8_0 hG ho)) ⟨rfl, rfl⟩ (rm_ok (by decide) (by decide)) hm hl.1 rfl (Nat.le_of_ble_eq_true rfl) ⟨Nat.zero_le _, Nat.zero_le _⟩ dX8_count_96 (fun b14 μ13 H locs hm hP hS => ?_)
                exact r_iret S hr hG hP hS hm dX8_count_99
              · refine lv_tableOut (tgt := 100) hx hb dX8_count_1 (by have q0 := lv_neT (a := 0) hv1_0 rfl; have q1 := lv_neT (a := 1) hv1_1 rfl; have q2 := lv_neT (a := 2) hv1_2 rfl; have q3 := lv_neT (a := 3) hv1_3 rfl; have q4 := lv_neT (a := 4) hv1_4 rfl; have q5 := lv_neT (a := 5) hv1_5 rfl; have q6 := lv_neT (a := 6) hv1_6 rfl; omega) (by decide) ?_
                refine lv_iconst (v := (-1 : Int32)) hx hb dX8_count_100 (by decide) ?_
                exact r_iret S hr hG hP hS hm dX8_count_101
theorem tX8_count (l : Launch) (D : va_G) (cI cR : ClassId) (n : Nat) (K L ad : Nat → Nat) {o : Nat} (ho : isk n K o 8) (v1 : Int32) : Ci l yX8_count cX8_count 2 (some .int) (rmL 5) D cI cR n K L ad [.ref (ad o), .int v1] (fX8_count L o v1) := by
  refine Ci.ofW (by decide) (Nat.le_of_ble_eq_true rfl) ?_
  intro μ x hm p e s m args below meth c ls S hr hG hP hS hl
  exact wX8_count_0 S hr hG ho v1 μ hm _ _ ls hP hS hl
end WALKE
