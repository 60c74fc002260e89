section WALKC
variable {p : Program} {l : Launch} {e : Env} {s : State} {m : MethodId} {args : Array Value} {below : List Frame} {meth : Method} {c : Code} {D : va_G} {cI cR : ClassId} {n : Nat} {K L ad : Nat → Nat}
-- X1_size
set_option maxHeartbeats 4000000 in
set_option maxRecDepth 100000 in
theorem wX1_size_0 (S : CallFix p m c cX1_size 1 s args TB RX1) (hr : meth.sig.returnType = (some .int) ∧ meth.locks = false) (hG : gok D cI cR n K L ad s) {o : Nat} (ho : isk n K o 1) {x : Int32 × Mem} : ∀ (μ : Mem), fX1_size L o μ = some x → WI p l e (rmL 0) s m args below meth c D cI cR n K L ad 1 x μ 0 [(0, .ref (ad o))] [] := by
  have hx := S.1
  have hb := S.2.1
  intro μ hm H locs ls hP hS hl
  unfold fX1_size at hm
  refine lv_aload_n hx hb dX1_size_0 rfl (lv_at hl 0 rfl) ?_
  refine r_geti S hG hP ho clX1 fX1_2 kX1_20 dX1_size_1 ?_
  exact r_iret S hr hG hP hS hm dX1_size_4
theorem tX1_size (l : Launch) (D : va_G) (cI cR : ClassId) (n : Nat) (K L ad : Nat → Nat) {o : Nat} (ho : isk n K o 1) : Ci l yX1_size cX1_size 1 (some .int) (rmL 0) D cI cR n K L ad [.ref (ad o)] (fX1_size L o) := by
  refine Ci.ofW (by decide) (Nat.le_of_ble_eq_true rfl) ?_
  intro μ x hm p e s m args below meth c ls S hr hG hP hS hl
  exact wX1_size_0 S hr hG ho μ hm _ _ ls hP hS hl
-- X1_clear
set_option maxHeartbeats 4000000 in
set_option maxRecDepth 100000 in
theorem wX1_clear_0 (S : CallFix p m c cX1_clear 1 s args TB RX1) (hr : meth.sig.returnType = none ∧ meth.locks = false) (hG : gok D cI cR n K L ad s) {o : Nat} (ho : isk n K o 1) {x : Mem} : ∀ (μ : Mem), fX1_clear L o μ = some x → WV p l e (rmL 0) s m args below meth c D cI cR n K L ad 1 x μ 0 [(0, .ref (ad o))] [] := by
  have hx := S.1
  have hb := S.2.1
  intro μ hm H locs ls hP hS hl
  unfold fX1_clear at hm
  refine lv_aload_n hx hb dX1_clear_0 rfl (lv_at hl 0 rfl) ?_
  refine lv_iconst (v := (0 : Int32)) hx hb dX1_clear_1 (by decide) ?_
  refine r_puti S hG hP hS ho clX1 fX1_2 kX1_20 hm dX1_clear_2 (fun μ1 H locs hm hP hS => ?_)
  exact r_vret S hr hG hP hS hm dX1_clear_5
theorem tX1_clear (l : Launch) (D : va_G) (cI cR : ClassId) (n : Nat) (K L ad : Nat → Nat) {o : Nat} (ho : isk n K o 1) : Cv l yX1_clear cX1_clear 1 none (rmL 0) D cI cR n K L ad [.ref (ad o)] (fX1_clear L o) := by
  refine Cv.ofW (by decide) (Nat.le_of_ble_eq_true rfl) ?_
  intro μ x hm p e s m args below meth c ls S hr hG hP hS hl
  exact wX1_clear_0 S hr hG ho μ hm _ _ ls hP hS hl
-- X1_keep
set_option maxHeartbeats 4000000 in
set_option maxRecDepth 100000 in
theorem wX1_keep_70 (S : CallFix p m c cX1_keep 2 s args TB RX1) (hr : meth.sig.returnType = none ∧ meth.locks = false) (hG : gok D cI cR n K L ad s) {o : Nat} {r1 : Nat} (ho : isk n K o 1) (h1 : isk n K r1 0) {x : Mem} : ∀ (s0 : Int32) (μ : Mem), fX1_keep_70 L o r1 s0 μ = some x → WV p l e (rmL 3) s m args below meth c D cI cR n K L ad 2 x μ 70 [(0, .ref (ad o))] [.int s0, .ref (ad o)] := by
  have hx := S.1
  have hb := S.2.1
  intro s0 μ hm H locs ls hP hS hl
  unfold fX1_keep_70 at hm
  refine r_puti S hG hP hS ho clX1 fX1_1 kX1_24 hm dX1_keep_70 (fun μ1 H locs hm hP hS => ?_)
  refine lv_aload_n hx hb dX1_keep_73 rfl (lv_at hl 0 rfl) ?_
  refine lv_aload_n hx hb dX1_keep_74 rfl (lv_at hl 0 rfl) ?_
  refine r_getr S hG hP ho clX1 fX1_0 kX1_11 dX1_keep_75 ?_
  refine r_alenR S hG hP (chX1_0 hG ho) dX1_keep_78 ?_
  refine lv_aload_n hx hb dX1_keep_79 rfl (lv_at hl 0 rfl) ?_
  refine r_geti S hG hP ho clX1 fX1_2 kX1_20 dX1_keep_80 ?_
  refine lv_iconst (v := (1 : Int32)) hx hb dX1_keep_83 (by decide) ?_
  refine lv_iadd hx hb dX1_keep_84 ?_
  refine r_min S hl.1 kX1_33 ⟨Nat.le_of_ble_eq_true rfl, Nat.le_of_ble_eq_true rfl⟩ ⟨Nat.zero_le _, Nat.zero_le _⟩ dX1_keep_85 ?_
  refine r_top hm (fun a2 hm => ?_)
  refine r_puti S hG hP hS ho clX1 fX1_2 kX1_20 hm dX1_keep_88 (fun μ3 H locs hm hP hS => ?_)
  exact r_vret S hr hG hP hS hm dX1_keep_91
set_option maxHeartbeats 4000000 in
set_option maxRecDepth 100000 in
theorem wX1_keep_0 (S : CallFix p m c cX1_keep 2 s args TB RX1) (hr : meth.sig.returnType = none ∧ meth.locks = false) (hG : gok D cI cR n K L ad s) {o : Nat} {r1 : Nat} (ho : isk n K o 1) (h1 : isk n K r1 0) {x : Mem} : ∀ (μ : Mem), fX1_keep L o r1 μ = some x → WV p l e (rmL 3) s m args below meth c D cI cR n K L ad 2 x μ 0 [(0, .ref (ad o)), (1, .ref (ad r1))] [] := by
  have hx := S.1
  have hb := S.2.1
  intro μ hm H locs ls hP hS hl
  unfold fX1_keep at hm
  refine lv_aload_n hx hb dX1_keep_0 rfl (lv_at hl 0 rfl) ?_
  refine r_geti S hG hP ho clX1 fX1_1 kX1_24 dX1_keep_1 ?_
  refine b_if_lt (tgt := 31) S dX1_keep_4 (by decide) hm (fun hm => ?_) (fun hm => ?_)
  · exact r_vret S hr hG hP hS hm dX1_keep_31
  · refine lv_aload_n hx hb dX1_keep_7 rfl (lv_at hl 0 rfl) ?_
    refine r_geti S hG hP ho clX1 fX1_1 kX1_24 dX1_keep_8 ?_
    refine lv_aload_n hx hb dX1_keep_11 rfl (lv_at hl 0 rfl) ?_
    refine r_getr S hG hP ho clX1 fX1_0 kX1_11 dX1_keep_12 ?_
    refine r_alenR S hG hP (chX1_0 hG ho) dX1_keep_15 ?_
    refine b_icmp_ge (tgt := 31) S dX1_keep_16 (by decide) hm (fun hm => ?_) (fun hm => ?_)
    · exact r_vret S hr hG hP hS hm dX1_keep_31
    · refine lv_aload_n hx hb dX1_keep_19 rfl (lv_at hl 0 rfl) ?_
      refine r_getr S hG hP ho clX1 fX1_0 kX1_11 dX1_keep_20 ?_
      refine lv_aload_n hx hb dX1_keep_23 rfl (lv_at hl 0 rfl) ?_
      refine r_geti S hG hP ho clX1 fX1_1 kX1_24 dX1_keep_24 ?_
      refine r_aald S hG hP (chX1_0 hG ho) hm dX1_keep_27 (fun hz4 hm => ?_)
      refine lv_ifnonnull (tgt := 32) hx hb dX1_keep_28 (by decide) ?_
      refine lv_aload_n hx hb dX1_keep_32 rfl (lv_at hl 1 rfl) ?_
      refine lv_aload_n hx hb dX1_keep_33 rfl (lv_at hl 0 rfl) ?_
      refine r_getr S hG hP ho clX1 fX1_0 kX1_11 dX1_keep_34 ?_
      refine lv_aload_n hx hb dX1_keep_37 rfl (lv_at hl 0 rfl) ?_
      refine r_geti S hG hP ho clX1 fX1_1 kX1_24 dX1_keep_38 ?_
      refine r_aald S hG hP (chX1_0 hG ho) hm dX1_keep_41 (fun hz5 hm => ?_)
      refine r_vcallv (As := [.ref (ad ((o + 1) + 1 + 2 * (μ o 1).toNatClampNeg))]) (rest := []) S hG hP hS mX0_copyTo kX1_27 clX0 h1 (tX0_copyTo _ _ _ _ _ _ _ _ h1 hz5) ⟨rfl, rfl⟩ (rm_ok (by decide) (by decide)) hm hl.1 rfl (Nat.le_of_ble_eq_true rfl) ⟨Nat.zero_le _, Nat.zero_le _⟩ dX1_keep_42 (fun μ6 H locs hm hP hS => ?_)
      refine lv_aload_n hx hb dX1_keep_45 rfl (lv_at hl 0 rfl) ?_
      refine lv_aload_n hx hb dX1_keep_46 rfl (lv_at hl 0 rfl) ?_
      refine r_geti S hG hP ho clX1 fX1_1 kX1_24 dX1_keep_47 ?_
      refine lv_iconst (v := (1 : Int32)) hx hb dX1_keep_50 (by decide) ?_
      refine lv_iadd hx hb dX1_keep_51 ?_
      refine lv_aload_n hx hb dX1_keep_52 rfl (lv_at hl 0 rfl) ?_
      refine r_getr S hG hP ho clX1 fX1_0 kX1_11 dX1_keep_53 ?_
      refine r_alenR S hG hP (chX1_0 hG ho) dX1_keep_56 ?_
      refine b_icmp_ge (tgt := 69) S dX1_keep_57 (by decide) hm (fun hm => ?_) (fun hm => ?_)
      · refine lv_iconst (v := (0 : Int32)) hx hb dX1_keep_69 (by decide) ?_
        exact wX1_keep_70 S hr hG ho h1 (0 : Int32) μ6 hm H locs ls hP hS (lv_sub hl [0] rfl)
      · refine lv_aload_n hx hb dX1_keep_60 rfl (lv_at hl 0 rfl) ?_
        refine r_geti S hG hP ho clX1 fX1_1 kX1_24 dX1_keep_61 ?_
        refine lv_iconst (v := (1 : Int32)) hx hb dX1_keep_64 (by decide) ?_
        refine lv_iadd hx hb dX1_keep_65 ?_
        refine lv_goto (tgt := 70) hx hb dX1_keep_66 (by decide) ?_
        exact wX1_keep_70 S hr hG ho h1 ((μ6 o 1) + (1 : Int32)) μ6 hm H locs ls hP hS (lv_sub hl [0] rfl)
theorem tX1_keep (l : Launch) (D : va_G) (cI cR : ClassId) (n : Nat) (K L ad : Nat → Nat) {o : Nat} (ho : isk n K o 1) {r1 : Nat} (h1 : isk n K r1 0) : Cv l yX1_keep cX1_keep 2 none (rmL 3) D cI cR n K L ad [.ref (ad o), .ref (ad r1)] (fX1_keep L o r1) := by
  refine Cv.ofW (by decide) (Nat.le_of_ble_eq_true rfl) ?_
  intro μ x hm p e s m args below meth c ls S hr hG hP hS hl
  exact wX1_keep_0 S hr hG ho h1 μ hm _ _ ls hP hS hl
-- X1_giveBack
set_option maxHeartbeats 4000000 in
set_option maxRecDepth 100000 in
theorem wX1_giveBack_23 (S : CallFix p m c cX1_giveBack 3 s args TB RX1) (hr : meth.sig.returnType = (some .boolean) ∧ meth.locks = false) (hG : gok D cI cR n K L ad s) {o : Nat} {r1 : Nat} (ho : isk n K o 1) (h1 : isk n K r1 0) {x : Int32 × Mem} : ∀ (s0 : Int32) (μ : Mem), fX1_giveBack_23 L o r1 s0 μ = some x → WI p l e (rmL 3) s m args below meth c D cI cR n K L ad 3 x μ 23 [(0, .ref (ad o)), (1, .ref (ad r1))] [.int s0] := by
  have hx := S.1
  have hb := S.2.1
  intro s0 μ hm H locs ls hP hS hl
  unfold fX1_giveBack_23 at hm
  refine lv_istore_n (lv' := [(2, .int s0), (0, .ref (ad o)), (1, .ref (ad r1))]) hx hb dX1_giveBack_23 rfl hl (by decide) rfl (fun ls hl => ?_)
  refine lv_aload_n hx hb dX1_giveBack_24 rfl (lv_at hl 1 rfl) ?_
  refine r_geti S hG hP ho clX1 fX1_2 kX1_20 dX1_giveBack_25 ?_
  refine b_if_eq (tgt := 53) S dX1_giveBack_28 (by decide) hm (fun hm => ?_) (fun hm => ?_)
  · refine lv_iconst (v := (0 : Int32)) hx hb dX1_giveBack_53 (by decide) ?_
    exact r_zretC S hr hG hP hS rfl hm dX1_giveBack_54
  · refine lv_iload_n hx hb dX1_giveBack_31 rfl (lv_at hl 0 rfl) ?_
    refine b_if_lt (tgt := 53) S dX1_giveBack_32 (by decide) hm (fun hm => ?_) (fun hm => ?_)
    · refine lv_iconst (v := (0 : Int32)) hx hb dX1_giveBack_53 (by decide) ?_
      exact r_zretC S hr hG hP hS rfl hm dX1_giveBack_54
    · refine lv_iload_n hx hb dX1_giveBack_35 rfl (lv_at hl 0 rfl) ?_
      refine lv_aload_n hx hb dX1_giveBack_36 rfl (lv_at hl 1 rfl) ?_
      refine r_getr S hG hP ho clX1 fX1_0 kX1_11 dX1_giveBack_37 ?_
      refine r_alenR S hG hP (chX1_0 hG ho) dX1_giveBack_40 ?_
      refine b_icmp_ge (tgt := 53) S dX1_giveBack_41 (by decide) hm (fun hm => ?_) (fun hm => ?_)
      · refine lv_iconst (v := (0 : Int32)) hx hb dX1_giveBack_53 (by decide) ?_
        exact r_zretC S hr hG hP hS rfl hm dX1_giveBack_54
      · refine lv_aload_n hx hb dX1_giveBack_44 rfl (lv_at hl 1 rfl) ?_
        refine r_getr S hG hP ho clX1 fX1_0 kX1_11 dX1_giveBack_45 ?_
        refine lv_iload_n hx hb dX1_giveBack_48 rfl (lv_at hl 0 rfl) ?_
        refine r_aald S hG hP (chX1_0 hG ho) hm dX1_giveBack_49 (fun hz1 hm => ?_)
        refine lv_ifnonnull (tgt := 55) hx hb dX1_giveBack_50 (by decide) ?_
        refine lv_aload_n hx hb dX1_giveBack_55 rfl (lv_at hl 2 rfl) ?_
        refine lv_aload_n hx hb dX1_giveBack_56 rfl (lv_at hl 1 rfl) ?_
        refine r_getr S hG hP ho clX1 fX1_0 kX1_11 dX1_giveBack_57 ?_
        refine lv_iload_n hx hb dX1_giveBack_60 rfl (lv_at hl 0 rfl) ?_
        refine r_aald S hG hP (chX1_0 hG ho) hm dX1_giveBack_61 (fun hz2 hm => ?_)
        refine r_vcallv (As := [.ref (ad ((o + 1) + 1 + 2 * s0.toNatClampNeg))]) (rest := []) S hG hP hS mX0_copyFrom kX1_39 clX0 h1 (tX0_copyFrom _ _ _ _ _ _ _ _ h1 hz2) ⟨rfl, rfl⟩ (rm_ok (by decide) (by decide)) hm hl.1 rfl (Nat.le_of_ble_eq_true rfl) ⟨Nat.zero_le _, Nat.zero_le _⟩ dX1_giveBack_62 (fun μ3 H locs hm hP hS => ?_)
        refine lv_aload_n hx hb dX1_giveBack_65 rfl (lv_at hl 1 rfl) ?_
        refine lv_iload_n hx hb dX1_giveBack_66 rfl (lv_at hl 0 rfl) ?_
        refine r_puti S hG hP hS ho clX1 fX1_1 kX1_24 hm dX1_giveBack_67 (fun μ4 H locs hm hP hS => ?_)
        refine lv_aload_n hx hb dX1_giveBack_70 rfl (lv_at hl 1 rfl) ?_
        refine lv_dup hx hb dX1_giveBack_71 rfl ?_
        refine r_geti S hG hP ho clX1 fX1_2 kX1_20 dX1_giveBack_72 ?_
        refine lv_iconst (v := (1 : Int32)) hx hb dX1_giveBack_75 (by decide) ?_
        refine lv_isub hx hb dX1_giveBack_76 ?_
        refine r_puti S hG hP hS ho clX1 fX1_2 kX1_20 hm dX1_giveBack_77 (fun μ5 H locs hm hP hS => ?_)
        refine lv_iconst (v := (1 : Int32)) hx hb dX1_giveBack_80 (by decide) ?_
        exact r_zretC S hr hG hP hS rfl hm dX1_giveBack_81
set_option maxHeartbeats 4000000 in
set_option maxRecDepth 100000 in
theorem wX1_giveBack_0 (S : CallFix p m c cX1_giveBack 3 s args TB RX1) (hr : meth.sig.returnType = (some .boolean) ∧ meth.locks = false) (hG : gok D cI cR n K L ad s) {o : Nat} {r1 : Nat} (ho : isk n K o 1) (h1 : isk n K r1 0) {x : Int32 × Mem} : ∀ (μ : Mem), fX1_giveBack L o r1 μ = some x → WI p l e (rmL 3) s m args below meth c D cI cR n K L ad 3 x μ 0 [(0, .ref (ad o)), (1, .ref (ad r1))] [] := by
  have hx := S.1
  have hb := S.2.1
  intro μ hm H locs ls hP hS hl
  unfold fX1_giveBack at hm
  refine lv_aload_n hx hb dX1_giveBack_0 rfl (lv_at hl 0 rfl) ?_
  refine r_geti S hG hP ho clX1 fX1_1 kX1_24 dX1_giveBack_1 ?_
  refine b_if_le (tgt := 16) S dX1_giveBack_4 (by decide) hm (fun hm => ?_) (fun hm => ?_)
  · refine lv_aload_n hx hb dX1_giveBack_16 rfl (lv_at hl 0 rfl) ?_
    refine r_getr S hG hP ho clX1 fX1_0 kX1_11 dX1_giveBack_17 ?_
    refine r_alenR S hG hP (chX1_0 hG ho) dX1_giveBack_20 ?_
    refine lv_iconst (v := (1 : Int32)) hx hb dX1_giveBack_21 (by decide) ?_
    refine lv_isub hx hb dX1_giveBack_22 ?_
    exact wX1_giveBack_23 S hr hG ho h1 ((nI (L (o + 1))) - (1 : Int32)) μ hm H locs ls hP hS (lv_sub hl [0, 1] rfl)
  · refine lv_aload_n hx hb dX1_giveBack_7 rfl (lv_at hl 0 rfl) ?_
    refine r_geti S hG hP ho clX1 fX1_1 kX1_24 dX1_giveBack_8 ?_
    refine lv_iconst (v := (1 : Int32)) hx hb dX1_giveBack_11 (by decide) ?_
    refine lv_isub hx hb dX1_giveBack_12 ?_
    refine lv_goto (tgt := 23) hx hb dX1_giveBack_13 (by decide) ?_
    exact wX1_giveBack_23 S hr hG ho h1 ((μ o 1) - (1 : Int32)) μ hm H locs ls hP hS (lv_sub hl [0, 1] rfl)
theorem tX1_giveBack (l : Launch) (D : va_G) (cI cR : ClassId) (n : Nat) (K L ad : Nat → Nat) {o : Nat} (ho : isk n K o 1) {r1 : Nat} (h1 : isk n K r1 0) : Ci l yX1_giveBack cX1_giveBack 3 (some .boolean) (rmL 3) D cI cR n K L ad [.ref (ad o), .ref (ad r1)] (fX1_giveBack L o r1) := by
  refine Ci.ofW (by decide) (Nat.le_of_ble_eq_true rfl) ?_
  intro μ x hm p e s m args below meth c ls S hr hG hP hS hl
  exact wX1_giveBack_0 S hr hG ho h1 μ hm _ _ ls hP hS hl
-- X6_length
set_option maxHeartbeats 4000000 in
set_option maxRecDepth 100000 in
theorem wX6_length_0 (S : CallFix p m c cX6_length 1 s args TB RX6) (hr : meth.sig.returnType = (some .int) ∧ meth.locks = false) (hG : gok D cI cR n K L ad s) {o : Nat} (ho : isk n K o 6) {x : Int32 × Mem} : ∀ (μ : Mem), fX6_length L o μ = some x → WI p l e (rmL 0) s m args below meth c D cI cR n K L ad 1 x μ 0 [(0, .ref (ad o))] [] := by
  have hx := S.1
  have hb := S.2.1
  intro μ hm H locs ls hP hS hl
  unfold fX6_length at hm
  refine lv_aload_n hx hb dX6_length_0 rfl (lv_at hl 0 rfl) ?_
  refine r_geti S hG hP ho clX6 fX6_1 kX6_20 dX6_length_1 ?_
  exact r_iret S hr hG hP hS hm dX6_length_4
theorem tX6_length (l : Launch) (D : va_G) (cI cR : ClassId) (n : Nat) (K L ad : Nat → Nat) {o : Nat} (ho : isk n K o 6) : Ci l yX6_length cX6_length 1 (some .int) (rmL 0) D cI cR n K L ad [.ref (ad o)] (fX6_length L o) := by
  refine Ci.ofW (by decide) (Nat.le_of_ble_eq_true rfl) ?_
  intro μ x hm p e s m args below meth c ls S hr hG hP hS hl
  exact wX6_length_0 S hr hG ho μ hm _ _ ls hP hS hl
-- X6_letterAt
set_option maxHeartbeats 4000000 in
set_option maxRecDepth 100000 in
theorem wX6_letterAt_0 (S : CallFix p m c cX6_letterAt 2 s args TB RX6) (hr : meth.sig.returnType = (some .int) ∧ meth.locks = false) (hG : gok D cI cR n K L ad s) {o : Nat} (ho : isk n K o 6) {x : Int32 × Mem} : ∀ (v1 : Int32) (μ : Mem), fX6_letterAt L o v1 μ = some x → WI p l e (rmL 1) s m args below meth c D cI cR n K L ad 2 x μ 0 [(0, .ref (ad o)), (1, .int v1)] [] := by
  have hx := S.1
  have hb := S.2.1
  intro v1 μ hm H locs ls hP hS hl
  unfold fX6_letterAt at hm
  refine lv_iload_n hx hb dX6_letterAt_0 rfl (lv_at hl 1 rfl) ?_
  refine b_if_lt (tgt := 23) S dX6_letterAt_1 (by decide) hm (fun hm => ?_) (fun hm => ?_)
  · refine lv_iconst (v := (-1 : Int32)) hx hb dX6_letterAt_23 (by decide) ?_
    exact r_iret S hr hG hP hS hm dX6_letterAt_24
  · refine lv_iload_n hx hb dX6_letterAt_4 rfl (lv_at hl 1 rfl) ?_
    refine lv_aload_n hx hb dX6_letterAt_5 rfl (lv_at hl 0 rfl) ?_
    refine r_geti S hG hP ho clX6 fX6_1 kX6_20 dX6_letterAt_6 ?_
    refine b_icmp_ge (tgt := 23) S dX6_letterAt_9 (by decide) hm (fun hm => ?_) (fun hm => ?_)
    · refine lv_iconst (v := (-1 : Int32)) hx hb dX6_letterAt_23 (by decide) ?_
      exact r_iret S hr hG hP hS hm dX6_letterAt_24
    · refine lv_aload_n hx hb dX6_letterAt_12 rfl (lv_at hl 0 rfl) ?_
      refine r_getr S hG hP ho clX6 fX6_0 kX6_14 dX6_letterAt_13 ?_
      refine lv_iload_n hx hb dX6_letterAt_16 rfl (lv_at hl 1 rfl) ?_
      refine r_vcalli (As := [.int v1]) (rest := []) S hG hP hS mX3_get kX6_28 clX3 (chX6_0 hG ho) (tX3_get _ _ _ _ _ _ _ _ (chX6_0 hG ho) v1) ⟨rfl, rfl⟩ (rm_ok (by decide) (by decide)) hm hl.1 rfl (Nat.le_of_ble_eq_true rfl) ⟨Nat.zero_le _, Nat.zero_le _⟩ dX6_letterAt_17 (fun b2 μ1 H locs hm hP hS => ?_)
      refine lv_goto (tgt := 24) hx hb dX6_letterAt_20 (by decide) ?_
      exact r_iret S hr hG hP hS hm dX6_letterAt_24
theorem tX6_letterAt (l : Launch) (D : va_G) (cI cR : ClassId) (n : Nat) (K L ad : Nat → Nat) {o : Nat} (ho : isk n K o 6) (v1 : Int32) : Ci l yX6_letterAt cX6_letterAt 2 (some .int) (rmL 1) D cI cR n K L ad [.ref (ad o), .int v1] (fX6_letterAt L o v1) := by
  refine Ci.ofW (by decide) (Nat.le_of_ble_eq_true rfl) ?_
  intro μ x hm p e s m args below meth c ls S hr hG hP hS hl
  exact wX6_letterAt_0 S hr hG ho v1 μ hm _ _ ls hP hS hl
-- X2_numbersOf
set_option maxHeartbeats 4000000 in
set_option maxRecDepth 100000 in
theorem wX2_numbersOf_0 (S : CallFix p m c cX2_numbersOf 1 s args TB RX2) (hr : meth.sig.returnType = (some .int) ∧ meth.locks = false) (hG : gok D cI cR n K L ad s) {x : Int32 × Mem} : ∀ (v0 : Int32) (μ : Mem), fX2_numbersOf L v0 μ = some x → WI p l e (rmL 0) s m args below meth c D cI cR n K L ad 1 x μ 0 [(0, .int v0)] [] := by
  have hx := S.1
  have hb := S.2.1
  intro v0 μ hm H locs ls hP hS hl
  unfold fX2_numbersOf at hm
  refine lv_iload_n hx hb dX2_numbersOf_0 rfl (lv_at hl 0 rfl) ?_
  refine b_sw (k := (98 : Int32)) hm (fun hv1_0 hm => ?_) (fun hv1_0 hm => ?_)
  · refine lv_lookup (off := 57) (tgt := 58) hx hb dX2_numbersOf_1 (by decide) (by rw [hv1_0] <;> rfl) (by decide) ?_
    refine lv_iconst (v := (3 : Int32)) hx hb dX2_numbersOf_58 (by decide) ?_
    exact r_iret S hr hG hP hS hm dX2_numbersOf_59
  · refine b_sw (k := (99 : Int32)) hm (fun hv1_1 hm => ?_) (fun hv1_1 hm => ?_)
    · refine lv_lookup (off := 59) (tgt := 60) hx hb dX2_numbersOf_1 (by decide) (by rw [hv1_1] <;> rfl) (by decide) ?_
      refine lv_iconst (v := (4 : Int32)) hx hb dX2_numbersOf_60 (by decide) ?_
      exact r_iret S hr hG hP hS hm dX2_numbersOf_61
    · refine b_sw (k := (116 : Int32)) hm (fun hv1_2 hm => ?_) (fun hv1_2 hm => ?_)
      · refine lv_lookup (off := 51) (tgt := 52) hx hb dX2_numbersOf_1 (by decide) (by rw [hv1_2] <;> rfl) (by decide) ?_
        refine lv_iconst (v := (1 : Int32)) hx hb dX2_numbersOf_52 (by decide) ?_
        exact r_iret S hr hG hP hS hm dX2_numbersOf_53
      · refine b_sw (k := (117 : Int32)) hm (fun hv1_3 hm => ?_) (fun hv1_3 hm => ?_)
        · refine lv_lookup (off := 55) (tgt := 56) hx hb dX2_numbersOf_1 (by decide) (by rw [hv1_3] <;> rfl) (by decide) ?_
          refine lv_iconst (v := (3 : Int32)) hx hb dX2_numbersOf_56 (by decide) ?_
          exact r_iret S hr hG hP hS hm dX2_numbersOf_57
        · refine b_sw (k := (118 : Int32)) hm (fun hv1_4 hm => ?_) (fun hv1_4 hm => ?_)
          · refine lv_lookup (off := 53) (tgt := 54) hx hb dX2_numbersOf_1 (by decide) (by rw [hv1_4] <;> rfl) (by decide) ?_
            refine lv_iconst (v := (1 : Int32)) hx hb dX2_numbersOf_54 (by decide) ?_
            exact r_iret S hr hG hP hS hm dX2_numbersOf_55
          · refine lv_lookup (off := 61) (tgt := 62) hx hb dX2_numbersOf_1 (by decide) ((lv_osw hv1_0 rfl).trans ((lv_osw hv1_1 rfl).trans ((lv_osw hv1_2 rfl).trans ((lv_osw hv1_3 rfl).trans ((lv_osw hv1_4 rfl).trans rfl))))) (by decide) ?_
            refine lv_iconst (v := (0 : Int32)) hx hb dX2_numbersOf_62 (by decide) ?_
            exact r_iret S hr hG hP hS hm dX2_numbersOf_63
theorem tX2_numbersOf (l : Launch) (D : va_G) (cI cR : ClassId) (n : Nat) (K L ad : Nat → Nat) (v0 : Int32) : Ci l yX2_numbersOf cX2_numbersOf 1 (some .int) (rmL 0) D cI cR n K L ad [.int v0] (fX2_numbersOf L v0) := by
  refine Ci.ofW (by decide) (Nat.le_of_ble_eq_true rfl) ?_
  intro μ x hm p e s m args below meth c ls S hr hG hP hS hl
  exact wX2_numbersOf_0 S hr hG v0 μ hm _ _ ls hP hS hl
-- X2_isFigure
set_option maxHeartbeats 4000000 in
set_option maxRecDepth 100000 in
theorem wX2_isFigure_0 (S : CallFix p m c cX2_isFigure 1 s args TB RX2) (hr : meth.sig.returnType = (some .boolean) ∧ meth.locks = false) (hG : gok D cI cR n K L ad s) {x : Int32 × Mem} : ∀ (v0 : Int32) (μ : Mem), fX2_isFigure L v0 μ = some x → WI p l e (rmL 0) s m args below meth c D cI cR n K L ad 1 x μ 0 [(0, .int v0)] [] := by
  have hx := S.1
  have hb := S.2.1
  intro v0 μ hm H locs ls hP hS hl
  unfold fX2_isFigure at hm
  refine lv_iload_n hx hb dX2_isFigure_0 rfl (lv_at hl 0 rfl) ?_
  refine lv_bipush (v := (48 : Int32)) hx hb dX2_isFigure_1 (by decide) ?_
  refine b_icmp_lt (tgt := 16) S dX2_isFigure_3 (by decide) hm (fun hm => ?_) (fun hm => ?_)
  · refine lv_iconst (v := (0 : Int32)) hx hb dX2_isFigure_16 (by decide) ?_
    exact r_zretC S hr hG hP hS rfl hm dX2_isFigure_17
  · refine lv_iload_n hx hb dX2_isFigure_6 rfl (lv_at hl 0 rfl) ?_
    refine lv_bipush (v := (57 : Int32)) hx hb dX2_isFigure_7 (by decide) ?_
    refine b_icmp_gt (tgt := 16) S dX2_isFigure_9 (by decide) hm (fun hm => ?_) (fun hm => ?_)
    · refine lv_iconst (v := (0 : Int32)) hx hb dX2_isFigure_16 (by decide) ?_
      exact r_zretC S hr hG hP hS rfl hm dX2_isFigure_17
    · refine lv_iconst (v := (1 : Int32)) hx hb dX2_isFigure_12 (by decide) ?_
      refine lv_goto (tgt := 17) hx hb dX2_isFigure_13 (by decide) ?_
      exact r_zretC S hr hG hP hS rfl hm dX2_isFigure_17
theorem tX2_isFigure (l : Launch) (D : va_G) (cI cR : ClassId) (n : Nat) (K L ad : Nat → Nat) (v0 : Int32) : Ci l yX2_isFigure cX2_isFigure 1 (some .boolean) (rmL 0) D cI cR n K L ad [.int v0] (fX2_isFigure L v0) := by
  refine Ci.ofW (by decide) (Nat.le_of_ble_eq_true rfl) ?_
  intro μ x hm p e s m args below meth c ls S hr hG hP hS hl
  exact wX2_isFigure_0 S hr hG v0 μ hm _ _ ls hP hS hl
-- X2_readNumber
set_option maxHeartbeats 4000000 in
set_option maxRecDepth 100000 in
theorem wX2_readNumber_79 (S : CallFix p m c cX2_readNumber 4 s args TB RX2) (hr : meth.sig.returnType = (some .boolean) ∧ meth.locks = false) (hG : gok D cI cR n K L ad s) {o : Nat} {r1 : Nat} (ho : isk n K o 2) (h1 : isk n K r1 6) {x : Int32 × Mem} : ∀ (v2 v3 : Int32) (μ : Mem), fX2_readNumber_79 L o r1 v2 v3 μ = some x → WI p l e (rmL 2) s m args below meth c D cI cR n K L ad 4 x μ 79 [(0, .ref (ad o)), (2, .int v2), (3, .int v3)] [] := by
  have hx := S.1
  have hb := S.2.1
  intro v2 v3 μ hm H locs ls hP hS hl
  unfold fX2_readNumber_79 at hm
  refine lv_aload_n hx hb dX2_readNumber_79 rfl (lv_at hl 0 rfl) ?_
  refine r_getr S hG hP ho clX2 fX2_0 kX2_16 dX2_readNumber_80 ?_
  refine lv_iload_n hx hb dX2_readNumber_83 rfl (lv_at hl 1 rfl) ?_
  refine lv_iload_n hx hb dX2_readNumber_84 rfl (lv_at hl 2 rfl) ?_
  refine r_vcallv (As := [.int v2, .int v3]) (rest := []) S hG hP hS mX3_set kX2_64 clX3 (chX2_0 hG ho) (tX3_set _ _ _ _ _ _ _ _ (chX2_0 hG ho) v2 v3) ⟨rfl, rfl⟩ (rm_ok (by decide) (by decide)) hm hl.1 rfl (Nat.le_of_ble_eq_true rfl) ⟨Nat.zero_le _, Nat.zero_le _⟩ dX2_readNumber_85 (fun μ1 H locs hm hP hS => ?_)
  refine lv_iconst (v := (1 : Int32)) hx hb dX2_readNumber_88 (by decide) ?_
  exact r_zretC S hr hG hP hS rfl hm dX2_readNumber_89
set_option maxHeartbeats 4000000 in
set_option maxRecDepth 100000 in
theorem wX2_readNumber_0 (S : CallFix p m c cX2_readNumber 4 s args TB RX2) (hr : meth.sig.returnType = (some .boolean) ∧ meth.locks = false) (hG : gok D cI cR n K L ad s) {o : Nat} {r1 : Nat} (ho : isk n K o 2) (h1 : isk n K r1 6) {x : Int32 × Mem} : ∀ (v2 : Int32) (μ : Mem), fX2_readNumber L o r1 v2 μ = some x → WI p l e (rmL 2) s m args below meth c D cI cR n K L ad 4 x μ 0 [(0, .ref (ad o)), (1, .ref (ad r1)), (2, .int v2)] [] := by
  have hx := S.1
  have hb := S.2.1
  intro v2 μ hm H locs ls hP hS hl
  unfold fX2_readNumber at hm
  refine lv_aload_n hx hb dX2_readNumber_0 rfl (lv_at hl 1 rfl) ?_
  refine lv_aload_n hx hb dX2_readNumber_1 rfl (lv_at hl 0 rfl) ?_
  refine r_geti S hG hP ho clX2 fX2_1 kX2_25 dX2_readNumber_2 ?_
  refine r_vcalli (As := [.int (μ o 1)]) (rest := []) S hG hP hS mX6_letterAt kX2_42 clX6 h1 (tX6_letterAt _ _ _ _ _ _ _ _ h1 (μ o 1)) ⟨rfl, rfl⟩ (rm_ok (by decide) (by decide)) hm hl.1 rfl (Nat.le_of_ble_eq_true rfl) ⟨Nat.zero_le _, Nat.zero_le _⟩ dX2_readNumber_5 (fun b3 μ2 H locs hm hP hS => ?_)
  refine r_scalli (As := [.int b3]) (rest := []) S hG hP hS mX2_isFigure kX2_60 (tX2_isFigure _ _ _ _ _ _ _ _ b3) ⟨rfl, rfl⟩ (rm_ok (by decide) (by decide)) hm hl.1 rfl (Nat.le_of_ble_eq_true rfl) ⟨Nat.zero_le _, Nat.zero_le _⟩ dX2_readNumber_8 (fun b5 μ4 H locs hm hP hS => ?_)
  refine b_if_ne (tgt := 16) S dX2_readNumber_11 (by decide) hm (fun hm => ?_) (fun hm => ?_)
  · refine lv_aload_n hx hb dX2_readNumber_16 rfl (lv_at hl 1 rfl) ?_
    refine lv_aload_n hx hb dX2_readNumber_17 rfl (lv_at hl 0 rfl) ?_
    refine r_geti S hG hP ho clX2 fX2_1 kX2_25 dX2_readNumber_18 ?_
    refine r_vcalli (As := [.int (μ4 o 1)]) (rest := []) S hG hP hS mX6_letterAt kX2_42 clX6 h1 (tX6_letterAt _ _ _ _ _ _ _ _ h1 (μ4 o 1)) ⟨rfl, rfl⟩ (rm_ok (by decide) (by decide)) hm hl.1 rfl (Nat.le_of_ble_eq_true rfl) ⟨Nat.zero_le _, Nat.zero_le _⟩ dX2_readNumber_21 (fun b7 μ6 H locs hm hP hS => ?_)
    refine lv_bipush (v := (48 : Int32)) hx hb dX2_readNumber_24 (by decide) ?_
    refine lv_isub hx hb dX2_readNumber_26 ?_
    refine r_top hm (fun a8 hm => ?_)
    refine lv_istore_n (lv' := [(3, .int a8), (0, .ref (ad o)), (1, .ref (ad r1)), (2, .int v2)]) hx hb dX2_readNumber_27 rfl hl (by decide) rfl (fun ls hl => ?_)
    refine lv_aload_n hx hb dX2_readNumber_28 rfl (lv_at hl 1 rfl) ?_
    refine lv_dup hx hb dX2_readNumber_29 rfl ?_
    refine r_geti S hG hP ho clX2 fX2_1 kX2_25 dX2_readNumber_30 ?_
    refine lv_iconst (v := (1 : Int32)) hx hb dX2_readNumber_33 (by decide) ?_
    refine lv_iadd hx hb dX2_readNumber_34 ?_
    refine r_puti S hG hP hS ho clX2 fX2_1 kX2_25 hm dX2_readNumber_35 (fun μ9 H locs hm hP hS => ?_)
    refine lv_aload_n hx hb dX2_readNumber_38 rfl (lv_at hl 2 rfl) ?_
    refine lv_aload_n hx hb dX2_readNumber_39 rfl (lv_at hl 1 rfl) ?_
    refine r_geti S hG hP ho clX2 fX2_1 kX2_25 dX2_readNumber_40 ?_
    refine r_vcalli (As := [.int (μ9 o 1)]) (rest := []) S hG hP hS mX6_letterAt kX2_42 clX6 h1 (tX6_letterAt _ _ _ _ _ _ _ _ h1 (μ9 o 1)) ⟨rfl, rfl⟩ (rm_ok (by decide) (by decide)) hm hl.1 rfl (Nat.le_of_ble_eq_true rfl) ⟨Nat.zero_le _, Nat.zero_le _⟩ dX2_readNumber_43 (fun b11 μ10 H locs hm hP hS => ?_)
    refine r_scalli (As := [.int b11]) (rest := []) S hG hP hS mX2_isFigure kX2_60 (tX2_isFigure _ _ _ _ _ _ _ _ b11) ⟨rfl, rfl⟩ (rm_ok (by decide) (by decide)) hm hl.1 rfl (Nat.le_of_ble_eq_true rfl) ⟨Nat.zero_le _, Nat.zero_le _⟩ dX2_readNumber_46 (fun b13 μ12 H locs hm hP hS => ?_)
    refine b_if_eq (tgt := 79) S dX2_readNumber_49 (by decide) hm (fun hm => ?_) (fun hm => ?_)
    · exact wX2_readNumber_79 S hr hG ho h1 v2 a8 μ12 hm H locs ls hP hS (lv_sub hl [1, 3, 0] rfl)
    · refine lv_bipush (v := (10 : Int32)) hx hb dX2_readNumber_52 (by decide) ?_
      refine lv_iload_n hx hb dX2_readNumber_54 rfl (lv_at hl 0 rfl) ?_
      refine lv_imul hx hb dX2_readNumber_55 ?_
      refine lv_aload_n hx hb dX2_readNumber_56 rfl (lv_at hl 2 rfl) ?_
      refine lv_aload_n hx hb dX2_readNumber_57 rfl (lv_at hl 1 rfl) ?_
      refine r_geti S hG hP ho clX2 fX2_1 kX2_25 dX2_readNumber_58 ?_
      refine r_vcalli (As := [.int (μ12 o 1)]) (rest := [.int ((10 : Int32) * a8)]) S hG hP hS mX6_letterAt kX2_42 clX6 h1 (tX6_letterAt _ _ _ _ _ _ _ _ h1 (μ12 o 1)) ⟨rfl, rfl⟩ (rm_ok (by decide) (by decide)) hm hl.1 rfl (Nat.le_of_ble_eq_true rfl) ⟨Nat.zero_le _, Nat.zero_le _⟩ dX2_readNumber_61 (fun b15 μ14 H locs hm hP hS => ?_)
      refine lv_iadd hx hb dX2_readNumber_64 ?_
      refine lv_bipush (v := (48 : Int32)) hx hb dX2_readNumber_65 (by decide) ?_
      refine lv_isub hx hb dX2_readNumber_67 ?_
      refine r_top hm (fun a16 hm => ?_)
      refine lv_istore_n (lv' := [(3, .int a16), (0, .ref (ad o)), (1, .ref (ad r1)), (2, .int v2)]) hx hb dX2_readNumber_68 rfl hl (by decide) rfl (fun ls hl => ?_)
      refine lv_aload_n hx hb dX2_readNumber_69 rfl (lv_at hl 1 rfl) ?_
      refine lv_dup hx hb dX2_readNumber_70 rfl ?_
      refine r_geti S hG hP ho clX2 fX2_1 kX2_25 dX2_readNumber_71 ?_
      refine lv_iconst (v := (1 : Int32)) hx hb dX2_readNumber_74 (by decide) ?_
      refine lv_iadd hx hb dX2_readNumber_75 ?_
      refine r_puti S hG hP hS ho clX2 fX2_1 kX2_25 hm dX2_readNumber_76 (fun μ17 H locs hm hP hS => ?_)
      exact wX2_readNumber_79 S hr hG ho h1 v2 a16 μ17 hm H locs ls hP hS (lv_sub hl [1, 3, 0] rfl)
  · refine lv_iconst (v := (0 : Int32)) hx hb dX2_readNumber_14 (by decide) ?_
    exact r_zretC S hr hG hP hS rfl hm dX2_readNumber_15
theorem tX2_readNumber (l : Launch) (D : va_G) (cI cR : ClassId) (n : Nat) (K L ad : Nat → Nat) {o : Nat} (ho : isk n K o 2) {r1 : Nat} (h1 : isk n K r1 6) (v2 : Int32) : Ci l yX2_readNumber cX2_readNumber 4 (some .boolean) (rmL 2) D cI cR n K L ad [.ref (ad o), .ref (ad r1), .int v2] (fX2_readNumber L o r1 v2) := by
  refine Ci.ofW (by decide) (Nat.le_of_ble_eq_true rfl) ?_
  intro μ x hm p e s m args below meth c ls S hr hG hP hS hl
  exact wX2_readNumber_0 S hr hG ho h1 v2 μ hm _ _ ls hP hS hl
-- X2_readNumbers
set_option maxHeartbeats 4000000 in
set_option maxRecDepth 100000 in
theorem wX2_readNumbers_21 (S : CallFix p m c cX2_readNumbers 5 s args TB RX2) (hr : meth.sig.returnType = (some .boolean) ∧ meth.locks = false) (hG : gok D cI cR n K L ad s) {o : Nat} {r1 : Nat} (ho : isk n K o 2) (h1 : isk n K r1 6) {x : Int32 × Mem} {self2 : Int32 → Int32 → Mem → Option (Int32 × Mem)} (hs2 : ∀ (v2 v3 : Int32) (μ : Mem), self2 v2 v3 μ = some x → WI p l e (rmL 3) s m args below meth c D cI cR n K L ad 5 x μ 2 [(0, .ref (ad o)), (1, .ref (ad r1)), (2, .int v2), (3, .int v3)] []) : ∀ (v2 v3 s0 : Int32) (μ : Mem), fX2_readNumbers_21 L o r1 self2 v2 v3 s0 μ = some x → WI p l e (rmL 3) s m args below meth c D cI cR n K L ad 5 x μ 21 [(0, .ref (ad o)), (1, .ref (ad r1)), (2, .int v2), (3, .int v3)] [.int s0] := by
  have hx := S.1
  have hb := S.2.1
  intro v2 v3 s0 μ hm H locs ls hP hS hl
  unfold fX2_readNumbers_21 at hm
  refine lv_istore (lv' := [(4, .int s0), (0, .ref (ad o)), (1, .ref (ad r1)), (2, .int v2), (3, .int v3)]) hx hb dX2_readNumbers_21 hl (by decide) rfl (fun ls hl => ?_)
  refine lv_aload_n hx hb dX2_readNumbers_23 rfl (lv_at hl 1 rfl) ?_
  refine lv_aload_n hx hb dX2_readNumbers_24 rfl (lv_at hl 2 rfl) ?_
  refine lv_iload_n hx hb dX2_readNumbers_25 rfl (lv_at hl 4 rfl) ?_
  refine r_vcalli (As := [.ref (ad r1), .int v3]) (rest := []) S hG hP hS mX2_readNumber kX2_57 clX2 ho (tX2_readNumber _ _ _ _ _ _ _ _ ho h1 v3) ⟨rfl, rfl⟩ (rm_ok (by decide) (by decide)) hm hl.1 rfl (Nat.le_of_ble_eq_true rfl) ⟨Nat.zero_le _, Nat.zero_le _⟩ dX2_readNumbers_26 (fun b2 μ1 H locs hm hP hS => ?_)
  refine b_if_eq (tgt := 45) S dX2_readNumbers_29 (by decide) hm (fun hm => ?_) (fun hm => ?_)
  · refine lv_iconst (v := (0 : Int32)) hx hb dX2_readNumbers_45 (by decide) ?_
    exact r_zretC S hr hG hP hS rfl hm dX2_readNumbers_46
  · refine lv_aload_n hx hb dX2_readNumbers_32 rfl (lv_at hl 2 rfl) ?_
    refine lv_aload_n hx hb dX2_readNumbers_33 rfl (lv_at hl 1 rfl) ?_
    refine r_geti S hG hP ho clX2 fX2_1 kX2_25 dX2_readNumbers_34 ?_
    refine r_vcalli (As := [.int (μ1 o 1)]) (rest := []) S hG hP hS mX6_letterAt kX2_42 clX6 h1 (tX6_letterAt _ _ _ _ _ _ _ _ h1 (μ1 o 1)) ⟨rfl, rfl⟩ (rm_ok (by decide) (by decide)) hm hl.1 rfl (Nat.le_of_ble_eq_true rfl) ⟨Nat.zero_le _, Nat.zero_le _⟩ dX2_readNumbers_37 (fun b4 μ3 H locs hm hP hS => ?_)
    refine lv_iload hx hb dX2_readNumbers_40 (lv_at hl 0 rfl) ?_
    refine b_icmp_eq (tgt := 47) S dX2_readNumbers_42 (by decide) hm (fun hm => ?_) (fun hm => ?_)
    · refine lv_aload_n hx hb dX2_readNumbers_47 rfl (lv_at hl 1 rfl) ?_
      refine lv_dup hx hb dX2_readNumbers_48 rfl ?_
      refine r_geti S hG hP ho clX2 fX2_1 kX2_25 dX2_readNumbers_49 ?_
      refine lv_iconst (v := (1 : Int32)) hx hb dX2_readNumbers_52 (by decide) ?_
      refine lv_iadd hx hb dX2_readNumbers_53 ?_
      refine r_puti S hG hP hS ho clX2 fX2_1 kX2_25 hm dX2_readNumbers_54 (fun μ5 H locs hm hP hS => ?_)
      refine r_iinc (b := (1 : Int32)) (k := 4) S hm dX2_readNumbers_57 hl rfl (by decide) (by decide) (fun a6 ls hm hl => ?_)
      have hl : lv_has ls 5 [(3, .int a6), (4, .int s0), (0, .ref (ad o)), (1, .ref (ad r1)), (2, .int v2)] := hl
      refine lv_goto (tgt := 2) hx hb dX2_readNumbers_60 (by decide) ?_
      exact hs2 v2 a6 μ5 hm H locs ls hP hS (lv_sub hl [2, 3, 4, 0] rfl)
    · refine lv_iconst (v := (0 : Int32)) hx hb dX2_readNumbers_45 (by decide) ?_
      exact r_zretC S hr hG hP hS rfl hm dX2_readNumbers_46
set_option maxHeartbeats 4000000 in
set_option maxRecDepth 100000 in
theorem wX2_readNumbers_2 (S : CallFix p m c cX2_readNumbers 5 s args TB RX2) (hr : meth.sig.returnType = (some .boolean) ∧ meth.locks = false) (hG : gok D cI cR n K L ad s) {o : Nat} {r1 : Nat} (ho : isk n K o 2) (h1 : isk n K r1 6) {x : Int32 × Mem} : ∀ (k : Nat) (v2 v3 : Int32) (μ : Mem), fX2_readNumbers_2 L o r1 k v2 v3 μ = some x → WI p l e (rmL 3) s m args below meth c D cI cR n K L ad 5 x μ 2 [(0, .ref (ad o)), (1, .ref (ad r1)), (2, .int v2), (3, .int v3)] [] := by
  have hx := S.1
  have hb := S.2.1
  intro k
  induction k with
  | zero => intro v2 v3 μ hm; exact absurd (show none = some x from hm) (fun h => by cases h)
  | succ k ih =>
    intro v2 v3 μ hm H locs ls hP hS hl
    have hm : fX2_readNumbers_2_b L o r1 (fX2_readNumbers_2 L o r1 k) v2 v3 μ = some x := hm
    unfold fX2_readNumbers_2_b at hm
    refine lv_iload_n hx hb dX2_readNumbers_2 rfl (lv_at hl 3 rfl) ?_
    refine lv_iload_n hx hb dX2_readNumbers_3 rfl (lv_at hl 2 rfl) ?_
    refine b_icmp_ge (tgt := 63) S dX2_readNumbers_4 (by decide) hm (fun hm => ?_) (fun hm => ?_)
    · refine lv_iconst (v := (1 : Int32)) hx hb dX2_readNumbers_63 (by decide) ?_
      exact r_zretC S hr hG hP hS rfl hm dX2_readNumbers_64
    · refine lv_iload_n hx hb dX2_readNumbers_7 rfl (lv_at hl 3 rfl) ?_
      refine lv_iload_n hx hb dX2_readNumbers_8 rfl (lv_at hl 2 rfl) ?_
      refine lv_iconst (v := (1 : Int32)) hx hb dX2_readNumbers_9 (by decide) ?_
      refine lv_isub hx hb dX2_readNumbers_10 ?_
      refine b_icmp_ne (tgt := 19) S dX2_readNumbers_11 (by decide) hm (fun hm => ?_) (fun hm => ?_)
      · refine lv_bipush (v := (44 : Int32)) hx hb dX2_readNumbers_19 (by decide) ?_
        exact wX2_readNumbers_21 S hr hG ho h1 ih v2 v3 (44 : Int32) μ hm H locs ls hP hS (lv_sub hl [0, 1, 2, 3] rfl)
      · refine lv_bipush (v := (59 : Int32)) hx hb dX2_readNumbers_14 (by decide) ?_
        refine lv_goto (tgt := 21) hx hb dX2_readNumbers_16 (by decide) ?_
        exact wX2_readNumbers_21 S hr hG ho h1 ih v2 v3 (59 : Int32) μ hm H locs ls hP hS (lv_sub hl [0, 1, 2, 3] rfl)
set_option maxHeartbeats 4000000 in
set_option maxRecDepth 100000 in
theorem wX2_readNumbers_0 (S : CallFix p m c cX2_readNumbers 5 s args TB RX2) (hr : meth.sig.returnType = (some .boolean) ∧ meth.locks = false) (hG : gok D cI cR n K L ad s) {o : Nat} {r1 : Nat} (ho : isk n K o 2) (h1 : isk n K r1 6) {x : Int32 × Mem} : ∀ (v2 : Int32) (μ : Mem), fX2_readNumbers L o r1 v2 μ = some x → WI p l e (rmL 3) s m args below meth c D cI cR n K L ad 5 x μ 0 [(0, .ref (ad o)), (1, .ref (ad r1)), (2, .int v2)] [] := by
  have hx := S.1
  have hb := S.2.1
  intro v2 μ hm H locs ls hP hS hl
  unfold fX2_readNumbers at hm
  refine lv_iconst (v := (0 : Int32)) hx hb dX2_readNumbers_0 (by decide) ?_
  refine lv_istore_n (lv' := [(3, .int (0 : Int32)), (0, .ref (ad o)), (1, .ref (ad r1)), (2, .int v2)]) hx hb dX2_readNumbers_1 rfl hl (by decide) rfl (fun ls hl => ?_)
  exact wX2_readNumbers_2 S hr hG ho h1 FU v2 (0 : Int32) μ hm H locs ls hP hS (lv_sub hl [1, 2, 3, 0] rfl)
theorem tX2_readNumbers (l : Launch) (D : va_G) (cI cR : ClassId) (n : Nat) (K L ad : Nat → Nat) {o : Nat} (ho : isk n K o 2) {r1 : Nat} (h1 : isk n K r1 6) (v2 : Int32) : Ci l yX2_readNumbers cX2_readNumbers 5 (some .boolean) (rmL 3) D cI cR n K L ad [.ref (ad o), .ref (ad r1), .int v2] (fX2_readNumbers L o r1 v2) := by
  refine Ci.ofW (by decide) (Nat.le_of_ble_eq_true rfl) ?_
  intro μ x hm p e s m args below meth c ls S hr hG hP hS hl
  exact wX2_readNumbers_0 S hr hG ho h1 v2 μ hm _ _ ls hP hS hl
-- X2_tell
set_option maxHeartbeats 4000000 in
set_option maxRecDepth 100000 in
theorem wX2_tell_0 (S : CallFix p m c cX2_tell 6 s args TB RX2) (hr : meth.sig.returnType = (some .boolean) ∧ meth.locks = false) (hG : gok D cI cR n K L ad s) {o : Nat} {r2 : Nat} (ho : isk n K o 2) (h2 : isk n K r2 0) {x : Int32 × Mem} : ∀ (v1 : Int32) (μ : Mem), fX2_tell L o r2 v1 μ = some x → WI p l e (rmL 4) s m args below meth c D cI cR n K L ad 6 x μ 0 [(0, .ref (ad o)), (1, .int v1), (2, .ref (ad r2))] [] := by
  have hx := S.1
  have hb := S.2.1
  intro v1 μ hm H locs ls hP hS hl
  unfold fX2_tell at hm
  refine lv_aload_n hx hb dX2_tell_0 rfl (lv_at hl 0 rfl) ?_
  refine r_getr S hG hP ho clX2 fX2_0 kX2_16 dX2_tell_1 ?_
  refine lv_iconst (v := (0 : Int32)) hx hb dX2_tell_4 (by decide) ?_
  refine r_vcalli (As := [.int (0 : Int32)]) (rest := []) S hG hP hS mX3_get kX2_68 clX3 (chX2_0 hG ho) (tX3_get _ _ _ _ _ _ _ _ (chX2_0 hG ho) (0 : Int32)) ⟨rfl, rfl⟩ (rm_ok (by decide) (by decide)) hm hl.1 rfl (Nat.le_of_ble_eq_true rfl) ⟨Nat.zero_le _, Nat.zero_le _⟩ dX2_tell_5 (fun b2 μ1 H locs hm hP hS => ?_)
  refine lv_istore_n (lv' := [(3, .int b2), (0, .ref (ad o)), (1, .int v1), (2, .ref (ad r2))]) hx hb dX2_tell_8 rfl hl (by decide) rfl (fun ls hl => ?_)
  refine lv_aload_n hx hb dX2_tell_9 rfl (lv_at hl 1 rfl) ?_
  refine r_getr S hG hP ho clX2 fX2_0 kX2_16 dX2_tell_10 ?_
  refine lv_iconst (v := (1 : Int32)) hx hb dX2_tell_13 (by decide) ?_
  refine r_vcalli (As := [.int (1 : Int32)]) (rest := []) S hG hP hS mX3_get kX2_68 clX3 (chX2_0 hG ho) (tX3_get _ _ _ _ _ _ _ _ (chX2_0 hG ho) (1 : Int32)) ⟨rfl, rfl⟩ (rm_ok (by decide) (by decide)) hm hl.1 rfl (Nat.le_of_ble_eq_true rfl) ⟨Nat.zero_le _, Nat.zero_le _⟩ dX2_tell_14 (fun b4 μ3 H locs hm hP hS => ?_)
  refine lv_istore (lv' := [(4, .int b4), (3, .int b2), (0, .ref (ad o)), (1, .int v1), (2, .ref (ad r2))]) hx hb dX2_tell_17 hl (by decide) rfl (fun ls hl => ?_)
  refine lv_aload_n hx hb dX2_tell_19 rfl (lv_at hl 2 rfl) ?_
  refine r_getr S hG hP ho clX2 fX2_0 kX2_16 dX2_tell_20 ?_
  refine lv_iconst (v := (2 : Int32)) hx hb dX2_tell_23 (by decide) ?_
  refine r_vcalli (As := [.int (2 : Int32)]) (rest := []) S hG hP hS mX3_get kX2_68 clX3 (chX2_0 hG ho) (tX3_get _ _ _ _ _ _ _ _ (chX2_0 hG ho) (2 : Int32)) ⟨rfl, rfl⟩ (rm_ok (by decide) (by decide)) hm hl.1 rfl (Nat.le_of_ble_eq_true rfl) ⟨Nat.zero_le _, Nat.zero_le _⟩ dX2_tell_24 (fun b6 μ5 H locs hm hP hS => ?_)
  refine lv_istore (lv' := [(5, .int b6), (4, .int b4), (3, .int b2), (0, .ref (ad o)), (1, .int v1), (2, .ref (ad r2))]) hx hb dX2_tell_27 hl (by decide) rfl (fun ls hl => ?_)
  refine lv_iload_n hx hb dX2_tell_29 rfl (lv_at hl 4 rfl) ?_
  refine b_sw (k := (98 : Int32)) hm (fun hv30_0 hm => ?_) (fun hv30_0 hm => ?_)
  · refine lv_lookup (off := 72) (tgt := 102) hx hb dX2_tell_30 (by decide) (by rw [hv30_0] <;> rfl) (by decide) ?_
    refine lv_aload_n hx hb dX2_tell_102 rfl (lv_at hl 5 rfl) ?_
    refine lv_iload_n hx hb dX2_tell_103 rfl (lv_at hl 2 rfl) ?_
    refine lv_iload hx hb dX2_tell_104 (lv_at hl 1 rfl) ?_
    refine lv_iload hx hb dX2_tell_106 (lv_at hl 0 rfl) ?_
    refine r_vcalli (As := [.int b2, .int b4, .int b6]) (rest := []) S hG hP hS mX0_addTable kX2_81 clX0 h2 (tX0_addTable _ _ _ _ _ _ _ _ h2 b2 b4 b6) ⟨rfl, rfl⟩ (rm_ok (by decide) (by decide)) hm hl.1 rfl (Nat.le_of_ble_eq_true rfl) ⟨Nat.zero_le _, Nat.zero_le _⟩ dX2_tell_108 (fun b8 μ7 H locs hm hP hS => ?_)
    exact r_zret S hr hG hP hS hm dX2_tell_111
  · refine b_sw (k := (99 : Int32)) hm (fun hv30_1 hm => ?_) (fun hv30_1 hm => ?_)
    · refine lv_lookup (off := 82) (tgt := 112) hx hb dX2_tell_30 (by decide) (by rw [hv30_1] <;> rfl) (by decide) ?_
      refine lv_aload_n hx hb dX2_tell_112 rfl (lv_at hl 5 rfl) ?_
      refine lv_iload_n hx hb dX2_tell_113 rfl (lv_at hl 2 rfl) ?_
      refine lv_iload hx hb dX2_tell_114 (lv_at hl 1 rfl) ?_
      refine lv_iload hx hb dX2_tell_116 (lv_at hl 0 rfl) ?_
      refine lv_aload_n hx hb dX2_tell_118 rfl (lv_at hl 3 rfl) ?_
      refine r_getr S hG hP ho clX2 fX2_0 kX2_16 dX2_tell_119 ?_
      refine lv_iconst (v := (3 : Int32)) hx hb dX2_tell_122 (by decide) ?_
      refine r_vcalli (As := [.int (3 : Int32)]) (rest := [.int b6, .int b4, .int b2, .ref (ad r2)]) S hG hP hS mX3_get kX2_68 clX3 (chX2_0 hG ho) (tX3_get _ _ _ _ _ _ _ _ (chX2_0 hG ho) (3 : Int32)) ⟨rfl, rfl⟩ (rm_ok (by decide) (by decide)) hm hl.1 rfl (Nat.le_of_ble_eq_true rfl) ⟨Nat.zero_le _, Nat.zero_le _⟩ dX2_tell_123 (fun b10 μ9 H locs hm hP hS => ?_)
      refine r_vcalli (As := [.int b2, .int b4, .int b6, .int b10]) (rest := []) S hG hP hS mX0_tellPair kX2_84 clX0 h2 (tX0_tellPair _ _ _ _ _ _ _ _ h2 b2 b4 b6 b10) ⟨rfl, rfl⟩ (rm_ok (by decide) (by decide)) hm hl.1 rfl (Nat.le_of_ble_eq_true rfl) ⟨Nat.zero_le _, Nat.zero_le _⟩ dX2_tell_126 (fun b12 μ11 H locs hm hP hS => ?_)
      exact r_zret S hr hG hP hS hm dX2_tell_129
    · refine b_sw (k := (116 : Int32)) hm (fun hv30_2 hm => ?_) (fun hv30_2 hm => ?_)
      · refine lv_lookup (off := 50) (tgt := 80) hx hb dX2_tell_30 (by decide) (by rw [hv30_2] <;> rfl) (by decide) ?_
        refine lv_aload_n hx hb dX2_tell_80 rfl (lv_at hl 5 rfl) ?_
        refine lv_iload_n hx hb dX2_tell_81 rfl (lv_at hl 2 rfl) ?_
        refine r_vcalli (As := [.int b2]) (rest := []) S hG hP hS mX0_tellTop kX2_71 clX0 h2 (tX0_tellTop _ _ _ _ _ _ _ _ h2 b2) ⟨rfl, rfl⟩ (rm_ok (by decide) (by decide)) hm hl.1 rfl (Nat.le_of_ble_eq_true rfl) ⟨Nat.zero_le _, Nat.zero_le _⟩ dX2_tell_82 (fun b14 μ13 H locs hm hP hS => ?_)
        exact r_zret S hr hG hP hS hm dX2_tell_85
      · refine b_sw (k := (117 : Int32)) hm (fun hv30_3 hm => ?_) (fun hv30_3 hm => ?_)
        · refine lv_lookup (off := 62) (tgt := 92) hx hb dX2_tell_30 (by decide) (by rw [hv30_3] <;> rfl) (by decide) ?_
          refine lv_aload_n hx hb dX2_tell_92 rfl (lv_at hl 5 rfl) ?_
          refine lv_iload_n hx hb dX2_tell_93 rfl (lv_at hl 2 rfl) ?_
          refine lv_iload hx hb dX2_tell_94 (lv_at hl 1 rfl) ?_
          refine lv_iload hx hb dX2_tell_96 (lv_at hl 0 rfl) ?_
          refine r_vcalli (As := [.int b2, .int b4, .int b6]) (rest := []) S hG hP hS mX0_tellSingle kX2_77 clX0 h2 (tX0_tellSingle _ _ _ _ _ _ _ _ h2 b2 b4 b6) ⟨rfl, rfl⟩ (rm_ok (by decide) (by decide)) hm hl.1 rfl (Nat.le_of_ble_eq_true rfl) ⟨Nat.zero_le _, Nat.zero_le _⟩ dX2_tell_98 (fun b16 μ15 H locs hm hP hS => ?_)
          exact r_zret S hr hG hP hS hm dX2_tell_101
        · refine b_sw (k := (118 : Int32)) hm (fun hv30_4 hm => ?_) (fun hv30_4 hm => ?_)
          · refine lv_lookup (off := 56) (tgt := 86) hx hb dX2_tell_30 (by decide) (by rw [hv30_4] <;> rfl) (by decide) ?_
            refine lv_aload_n hx hb dX2_tell_86 rfl (lv_at hl 5 rfl) ?_
            refine lv_iload_n hx hb dX2_tell_87 rfl (lv_at hl 2 rfl) ?_
            refine r_vcalli (As := [.int b2]) (rest := []) S hG hP hS mX0_addName kX2_74 clX0 h2 (tX0_addName _ _ _ _ _ _ _ _ h2 b2) ⟨rfl, rfl⟩ (rm_ok (by decide) (by decide)) hm hl.1 rfl (Nat.le_of_ble_eq_true rfl) ⟨Nat.zero_le _, Nat.zero_le _⟩ dX2_tell_88 (fun b18 μ17 H locs hm hP hS => ?_)
            exact r_zret S hr hG hP hS hm dX2_tell_91
          · refine lv_lookup (off := 100) (tgt := 130) hx hb dX2_tell_30 (by decide) ((lv_osw hv30_0 rfl).trans ((lv_osw hv30_1 rfl).trans ((lv_osw hv30_2 rfl).trans ((lv_osw hv30_3 rfl).trans ((lv_osw hv30_4 rfl).trans rfl))))) (by decide) ?_
            refine lv_iconst (v := (0 : Int32)) hx hb dX2_tell_130 (by decide) ?_
            exact r_zretC S hr hG hP hS rfl hm dX2_tell_131
theorem tX2_tell (l : Launch) (D : va_G) (cI cR : ClassId) (n : Nat) (K L ad : Nat → Nat) {o : Nat} (ho : isk n K o 2) (v1 : Int32) {r2 : Nat} (h2 : isk n K r2 0) : Ci l yX2_tell cX2_tell 6 (some .boolean) (rmL 4) D cI cR n K L ad [.ref (ad o), .int v1, .ref (ad r2)] (fX2_tell L o r2 v1) := by
  refine Ci.ofW (by decide) (Nat.le_of_ble_eq_true rfl) ?_
  intro μ x hm p e s m args below meth c ls S hr hG hP hS hl
  exact wX2_tell_0 S hr hG ho h2 v1 μ hm _ _ ls hP hS hl
-- X2_readItem
set_option maxHeartbeats 4000000 in
set_option maxRecDepth 100000 in
theorem wX2_readItem_0 (S : CallFix p m c cX2_readItem 5 s args TB RX2) (hr : meth.sig.returnType = (some .boolean) ∧ meth.locks = false) (hG : gok D cI cR n K L ad s) {o : Nat} {r1 : Nat} {r2 : Nat} (ho : isk n K o 2) (h1 : isk n K r1 6) (h2 : isk n K r2 0) {x : Int32 × Mem} : ∀ (μ : Mem), fX2_readItem L o r1 r2 μ = some x → WI p l e (rmL 5) s m args below meth c D cI cR n K L ad 5 x μ 0 [(0, .ref (ad o)), (1, .ref (ad r1)), (2, .ref (ad r2))] [] := by
  have hx := S.1
  have hb := S.2.1
  intro μ hm H locs ls hP hS hl
  unfold fX2_readItem at hm
  refine lv_aload_n hx hb dX2_readItem_0 rfl (lv_at hl 1 rfl) ?_
  refine lv_aload_n hx hb dX2_readItem_1 rfl (lv_at hl 0 rfl) ?_
  refine r_geti S hG hP ho clX2 fX2_1 kX2_25 dX2_readItem_2 ?_
  refine r_vcalli (As := [.int (μ o 1)]) (rest := []) S hG hP hS mX6_letterAt kX2_42 clX6 h1 (tX6_letterAt _ _ _ _ _ _ _ _ h1 (μ o 1)) ⟨rfl, rfl⟩ (rm_ok (by decide) (by decide)) hm hl.1 rfl (Nat.le_of_ble_eq_true rfl) ⟨Nat.zero_le _, Nat.zero_le _⟩ dX2_readItem_5 (fun b2 μ1 H locs hm hP hS => ?_)
  refine lv_istore_n (lv' := [(3, .int b2), (0, .ref (ad o)), (1, .ref (ad r1)), (2, .ref (ad r2))]) hx hb dX2_readItem_8 rfl hl (by decide) rfl (fun ls hl => ?_)
  refine lv_aload_n hx hb dX2_readItem_9 rfl (lv_at hl 1 rfl) ?_
  refine lv_dup hx hb dX2_readItem_10 rfl ?_
  refine r_geti S hG hP ho clX2 fX2_1 kX2_25 dX2_readItem_11 ?_
  refine lv_iconst (v := (1 : Int32)) hx hb dX2_readItem_14 (by decide) ?_
  refine lv_iadd hx hb dX2_readItem_15 ?_
  refine r_puti S hG hP hS ho clX2 fX2_1 kX2_25 hm dX2_readItem_16 (fun μ3 H locs hm hP hS => ?_)
  refine lv_iload_n hx hb dX2_readItem_19 rfl (lv_at hl 0 rfl) ?_
  refine r_scalli (As := [.int b2]) (rest := []) S hG hP hS mX2_numbersOf kX2_46 (tX2_numbersOf _ _ _ _ _ _ _ _ b2) ⟨rfl, rfl⟩ (rm_ok (by decide) (by decide)) hm hl.1 rfl (Nat.le_of_ble_eq_true rfl) ⟨Nat.zero_le _, Nat.zero_le _⟩ dX2_readItem_20 (fun b5 μ4 H locs hm hP hS => ?_)
  refine lv_istore (lv' := [(4, .int b5), (3, .int b2), (0, .ref (ad o)), (1, .ref (ad r1)), (2, .ref (ad r2))]) hx hb dX2_readItem_23 hl (by decide) rfl (fun ls hl => ?_)
  refine lv_iload hx hb dX2_readItem_25 (lv_at hl 0 rfl) ?_
  refine b_if_le (tgt := 53) S dX2_readItem_27 (by decide) hm (fun hm => ?_) (fun hm => ?_)
  · refine lv_iconst (v := (0 : Int32)) hx hb dX2_readItem_53 (by decide) ?_
    exact r_zretC S hr hG hP hS rfl hm dX2_readItem_54
  · refine lv_aload_n hx hb dX2_readItem_30 rfl (lv_at hl 2 rfl) ?_
    refine lv_aload_n hx hb dX2_readItem_31 rfl (lv_at hl 3 rfl) ?_
    refine lv_iload hx hb dX2_readItem_32 (lv_at hl 0 rfl) ?_
    refine r_vcalli (As := [.ref (ad r1), .int b5]) (rest := []) S hG hP hS mX2_readNumbers kX2_49 clX2 ho (tX2_readNumbers _ _ _ _ _ _ _ _ ho h1 b5) ⟨rfl, rfl⟩ (rm_ok (by decide) (by decide)) hm hl.1 rfl (Nat.le_of_ble_eq_true rfl) ⟨Nat.zero_le _, Nat.zero_le _⟩ dX2_readItem_34 (fun b7 μ6 H locs hm hP hS => ?_)
    refine b_if_eq (tgt := 53) S dX2_readItem_37 (by decide) hm (fun hm => ?_) (fun hm => ?_)
    · refine lv_iconst (v := (0 : Int32)) hx hb dX2_readItem_53 (by decide) ?_
      exact r_zretC S hr hG hP hS rfl hm dX2_readItem_54
    · refine lv_aload_n hx hb dX2_readItem_40 rfl (lv_at hl 2 rfl) ?_
      refine lv_iload_n hx hb dX2_readItem_41 rfl (lv_at hl 1 rfl) ?_
      refine lv_aload_n hx hb dX2_readItem_42 rfl (lv_at hl 4 rfl) ?_
      refine r_vcalli (As := [.int b2, .ref (ad r2)]) (rest := []) S hG hP hS mX2_tell kX2_53 clX2 ho (tX2_tell _ _ _ _ _ _ _ _ ho b2 h2) ⟨rfl, rfl⟩ (rm_ok (by decide) (by decide)) hm hl.1 rfl (Nat.le_of_ble_eq_true rfl) ⟨Nat.zero_le _, Nat.zero_le _⟩ dX2_readItem_43 (fun b9 μ8 H locs hm hP hS => ?_)
      refine b_if_eq (tgt := 53) S dX2_readItem_46 (by decide) hm (fun hm => ?_) (fun hm => ?_)
      · refine lv_iconst (v := (0 : Int32)) hx hb dX2_readItem_53 (by decide) ?_
        exact r_zretC S hr hG hP hS rfl hm dX2_readItem_54
      · refine lv_iconst (v := (1 : Int32)) hx hb dX2_readItem_49 (by decide) ?_
        refine lv_goto (tgt := 54) hx hb dX2_readItem_50 (by decide) ?_
        exact r_zretC S hr hG hP hS rfl hm dX2_readItem_54
theorem tX2_readItem (l : Launch) (D : va_G) (cI cR : ClassId) (n : Nat) (K L ad : Nat → Nat) {o : Nat} (ho : isk n K o 2) {r1 : Nat} (h1 : isk n K r1 6) {r2 : Nat} (h2 : isk n K r2 0) : Ci l yX2_readItem cX2_readItem 5 (some .boolean) (rmL 5) D cI cR n K L ad [.ref (ad o), .ref (ad r1), .ref (ad r2)] (fX2_readItem L o r1 r2) := by
  refine Ci.ofW (by decide) (Nat.le_of_ble_eq_true rfl) ?_
  intro μ x hm p e s m args below meth c ls S hr hG hP hS hl
  exact wX2_readItem_0 S hr hG ho h1 h2 μ hm _ _ ls hP hS hl
-- X2_readAll
set_option maxHeartbeats 4000000 in
set_option maxRecDepth 100000 in
theorem wX2_readAll_53 (S : CallFix p m c cX2_readAll 5 s args TB RX2) (hr : meth.sig.returnType = (some .int) ∧ meth.locks = false) (hG : gok D cI cR n K L ad s) {o : Nat} {r1 : Nat} {r2 : Nat} (ho : isk n K o 2) (h1 : isk n K r1 6) (h2 : isk n K r2 0) {x : Int32 × Mem} : ∀ (μ : Mem), fX2_readAll_53 L o r1 r2 μ = some x → WI p l e (rmL 6) s m args below meth c D cI cR n K L ad 5 x μ 53 [(2, .ref (ad r2))] [] := by
  have hx := S.1
  have hb := S.2.1
  intro μ hm H locs ls hP hS hl
  unfold fX2_readAll_53 at hm
  refine lv_aload_n hx hb dX2_readAll_53 rfl (lv_at hl 0 rfl) ?_
  refine r_vcallv (As := []) (rest := []) S hG hP hS mX0_keepToTop kX2_39 clX0 h2 (tX0_keepToTop _ _ _ _ _ _ _ _ h2) ⟨rfl, rfl⟩ (rm_ok (by decide) (by decide)) hm hl.1 rfl (Nat.le_of_ble_eq_true rfl) ⟨Nat.zero_le _, Nat.zero_le _⟩ dX2_readAll_54 (fun μ1 H locs hm hP hS => ?_)
  refine lv_bipush (v := (-4 : Int32)) hx hb dX2_readAll_57 (by decide) ?_
  exact r_iret S hr hG hP hS hm dX2_readAll_59
set_option maxHeartbeats 4000000 in
set_option maxRecDepth 100000 in
theorem wX2_readAll_11 (S : CallFix p m c cX2_readAll 5 s args TB RX2) (hr : meth.sig.returnType = (some .int) ∧ meth.locks = false) (hG : gok D cI cR n K L ad s) {o : Nat} {r1 : Nat} {r2 : Nat} (ho : isk n K o 2) (h1 : isk n K r1 6) (h2 : isk n K r2 0) {x : Int32 × Mem} : ∀ (k : Nat) (v3 : Int32) (μ : Mem), fX2_readAll_11 L o r1 r2 k v3 μ = some x → WI p l e (rmL 6) s m args below meth c D cI cR n K L ad 5 x μ 11 [(0, .ref (ad o)), (1, .ref (ad r1)), (2, .ref (ad r2)), (3, .int v3)] [] := by
  have hx := S.1
  have hb := S.2.1
  intro k
  induction k with
  | zero => intro v3 μ hm; exact absurd (show none = some x from hm) (fun h => by cases h)
  | succ k ih =>
    intro v3 μ hm H locs ls hP hS hl
    have hm : fX2_readAll_11_b L o r1 r2 (fX2_readAll_11 L o r1 r2 k) v3 μ = some x := hm
    unfold fX2_readAll_11_b at hm
    refine lv_iload_n hx hb dX2_readAll_11 rfl (lv_at hl 3 rfl) ?_
    refine lv_sipush (v := (200 : Int32)) hx hb dX2_readAll_12 (by decide) ?_
    refine b_icmp_ge (tgt := 53) S dX2_readAll_15 (by decide) hm (fun hm => ?_) (fun hm => ?_)
    · exact wX2_readAll_53 S hr hG ho h1 h2 μ hm H locs ls hP hS (lv_sub hl [2] rfl)
    · refine lv_aload_n hx hb dX2_readAll_18 rfl (lv_at hl 0 rfl) ?_
      refine r_geti S hG hP ho clX2 fX2_1 kX2_25 dX2_readAll_19 ?_
      refine lv_aload_n hx hb dX2_readAll_22 rfl (lv_at hl 1 rfl) ?_
      refine r_vcalli (As := []) (rest := [.int (μ o 1)]) S hG hP hS mX6_length kX2_29 clX6 h1 (tX6_length _ _ _ _ _ _ _ _ h1) ⟨rfl, rfl⟩ (rm_ok (by decide) (by decide)) hm hl.1 rfl (Nat.le_of_ble_eq_true rfl) ⟨Nat.zero_le _, Nat.zero_le _⟩ dX2_readAll_23 (fun b3 μ2 H locs hm hP hS => ?_)
      refine b_icmp_ge (tgt := 53) S dX2_readAll_26 (by decide) hm (fun hm => ?_) (fun hm => ?_)
      · exact wX2_readAll_53 S hr hG ho h1 h2 μ2 hm H locs ls hP hS (lv_sub hl [2] rfl)
      · refine lv_aload_n hx hb dX2_readAll_29 rfl (lv_at hl 0 rfl) ?_
        refine r_geti S hG hP ho clX2 fX2_1 kX2_25 dX2_readAll_30 ?_
        refine r_top hm (fun a4 hm => ?_)
        refine lv_istore (lv' := [(4, .int a4), (0, .ref (ad o)), (1, .ref (ad r1)), (2, .ref (ad r2)), (3, .int v3)]) hx hb dX2_readAll_33 hl (by decide) rfl (fun ls hl => ?_)
        refine lv_aload_n hx hb dX2_readAll_35 rfl (lv_at hl 1 rfl) ?_
        refine lv_aload_n hx hb dX2_readAll_36 rfl (lv_at hl 2 rfl) ?_
        refine lv_aload_n hx hb dX2_readAll_37 rfl (lv_at hl 3 rfl) ?_
        refine r_vcalli (As := [.ref (ad r1), .ref (ad r2)]) (rest := []) S hG hP hS mX2_readItem kX2_35 clX2 ho (tX2_readItem _ _ _ _ _ _ _ _ ho h1 h2) ⟨rfl, rfl⟩ (rm_ok (by decide) (by decide)) hm hl.1 rfl (Nat.le_of_ble_eq_true rfl) ⟨Nat.zero_le _, Nat.zero_le _⟩ dX2_readAll_38 (fun b6 μ5 H locs hm hP hS => ?_)
        refine b_if_ne (tgt := 47) S dX2_readAll_41 (by decide) hm (fun hm => ?_) (fun hm => ?_)
        · refine r_iinc (b := (1 : Int32)) (k := 4) S hm dX2_readAll_47 hl rfl (by decide) (by decide) (fun a7 ls hm hl => ?_)
          have hl : lv_has ls 5 [(3, .int a7), (4, .int a4), (0, .ref (ad o)), (1, .ref (ad r1)), (2, .ref (ad r2))] := hl
          refine lv_goto (tgt := 11) hx hb dX2_readAll_50 (by decide) ?_
          exact ih a7 μ5 hm H locs ls hP hS (lv_sub hl [2, 3, 4, 0] rfl)
        · refine lv_iload hx hb dX2_readAll_44 (lv_at hl 0 rfl) ?_
          exact r_iret S hr hG hP hS hm dX2_readAll_46
set_option maxHeartbeats 4000000 in
set_option maxRecDepth 100000 in
theorem wX2_readAll_0 (S : CallFix p m c cX2_readAll 5 s args TB RX2) (hr : meth.sig.returnType = (some .int) ∧ meth.locks = false) (hG : gok D cI cR n K L ad s) {o : Nat} {r1 : Nat} {r2 : Nat} (ho : isk n K o 2) (h1 : isk n K r1 6) (h2 : isk n K r2 0) {x : Int32 × Mem} : ∀ (μ : Mem), fX2_readAll L o r1 r2 μ = some x → WI p l e (rmL 6) s m args below meth c D cI cR n K L ad 5 x μ 0 [(0, .ref (ad o)), (1, .ref (ad r1)), (2, .ref (ad r2))] [] := by
  have hx := S.1
  have hb := S.2.1
  intro μ hm H locs ls hP hS hl
  unfold fX2_readAll at hm
  refine lv_aload_n hx hb dX2_readAll_0 rfl (lv_at hl 2 rfl) ?_
  refine r_vcallv (As := []) (rest := []) S hG hP hS mX0_clear kX2_20 clX0 h2 (tX0_clear _ _ _ _ _ _ _ _ h2) ⟨rfl, rfl⟩ (rm_ok (by decide) (by decide)) hm hl.1 rfl (Nat.le_of_ble_eq_true rfl) ⟨Nat.zero_le _, Nat.zero_le _⟩ dX2_readAll_1 (fun μ8 H locs hm hP hS => ?_)
  refine lv_aload_n hx hb dX2_readAll_4 rfl (lv_at hl 0 rfl) ?_
  refine lv_iconst (v := (0 : Int32)) hx hb dX2_readAll_5 (by decide) ?_
  refine r_puti S hG hP hS ho clX2 fX2_1 kX2_25 hm dX2_readAll_6 (fun μ9 H locs hm hP hS => ?_)
  refine lv_iconst (v := (0 : Int32)) hx hb dX2_readAll_9 (by decide) ?_
  refine lv_istore_n (lv' := [(3, .int (0 : Int32)), (0, .ref (ad o)), (1, .ref (ad r1)), (2, .ref (ad r2))]) hx hb dX2_readAll_10 rfl hl (by decide) rfl (fun ls hl => ?_)
  exact wX2_readAll_11 S hr hG ho h1 h2 FU (0 : Int32) μ9 hm H locs ls hP hS (lv_sub hl [1, 2, 3, 0] rfl)
theorem tX2_readAll (l : Launch) (D : va_G) (cI cR : ClassId) (n : Nat) (K L ad : Nat → Nat) {o : Nat} (ho : isk n K o 2) {r1 : Nat} (h1 : isk n K r1 6) {r2 : Nat} (h2 : isk n K r2 0) : Ci l yX2_readAll cX2_readAll 5 (some .int) (rmL 6) D cI cR n K L ad [.ref (ad o), .ref (ad r1), .ref (ad r2)] (fX2_readAll L o r1 r2) := by
  refine Ci.ofW (by decide) (Nat.le_of_ble_eq_true rfl) ?_
  intro μ x hm p e s m args below meth c ls S hr hG hP hS hl
  exact wX2_readAll_0 S hr hG ho h1 h2 μ hm _ _ ls hP hS hl
-- X6_clear
set_option maxHeartbeats 4000000 in
set_option maxRecDepth 100000 in
theorem wX6_clear_0 (S : CallFix p m c cX6_clear 1 s args TB RX6) (hr : meth.sig.returnType = none ∧ meth.locks = false) (hG : gok D cI cR n K L ad s) {o : Nat} (ho : isk n K o 6) {x : Mem} : ∀ (μ : Mem), fX6_clear L o μ = some x → WV p l e (rmL 0) s m args below meth c D cI cR n K L ad 1 x μ 0 [(0, .ref (ad o))] [] := by
  have hx := S.1
  have hb := S.2.1
  intro μ hm H locs ls hP hS hl
  unfold fX6_clear at hm
  refine lv_aload_n hx hb dX6_clear_0 rfl (lv_at hl 0 rfl) ?_
  refine lv_iconst (v := (0 : Int32)) hx hb dX6_clear_1 (by decide) ?_
  refine r_puti S hG hP hS ho clX6 fX6_1 kX6_20 hm dX6_clear_2 (fun μ1 H locs hm hP hS => ?_)
  exact r_vret S hr hG hP hS hm dX6_clear_5
theorem tX6_clear (l : Launch) (D : va_G) (cI cR : ClassId) (n : Nat) (K L ad : Nat → Nat) {o : Nat} (ho : isk n K o 6) : Cv l yX6_clear cX6_clear 1 none (rmL 0) D cI cR n K L ad [.ref (ad o)] (fX6_clear L o) := by
  refine Cv.ofW (by decide) (Nat.le_of_ble_eq_true rfl) ?_
  intro μ x hm p e s m args below meth c ls S hr hG hP hS hl
  exact wX6_clear_0 S hr hG ho μ hm _ _ ls hP hS hl
-- X6_add
set_option maxHeartbeats 4000000 in
set_option maxRecDepth 100000 in
theorem wX6_add_0 (S : CallFix p m c cX6_add 2 s args TB RX6) (hr : meth.sig.returnType = (some .boolean) ∧ meth.locks = false) (hG : gok D cI cR n K L ad s) {o : Nat} (ho : isk n K o 6) {x : Int32 × Mem} : ∀ (v1 : Int32) (μ : Mem), fX6_add L o v1 μ = some x → WI p l e (rmL 1) s m args below meth c D cI cR n K L ad 2 x μ 0 [(0, .ref (ad o)), (1, .int v1)] [] := by
  have hx := S.1
  have hb := S.2.1
  intro v1 μ hm H locs ls hP hS hl
  unfold fX6_add at hm
  refine lv_aload_n hx hb dX6_add_0 rfl (lv_at hl 0 rfl) ?_
  refine r_geti S hG hP ho clX6 fX6_1 kX6_20 dX6_add_1 ?_
  refine lv_sipush (v := (200 : Int32)) hx hb dX6_add_4 (by decide) ?_
  refine b_icmp_lt (tgt := 12) S dX6_add_7 (by decide) hm (fun hm => ?_) (fun hm => ?_)
  · refine lv_aload_n hx hb dX6_add_12 rfl (lv_at hl 0 rfl) ?_
    refine r_getr S hG hP ho clX6 fX6_0 kX6_14 dX6_add_13 ?_
    refine lv_aload_n hx hb dX6_add_16 rfl (lv_at hl 0 rfl) ?_
    refine r_geti S hG hP ho clX6 fX6_1 kX6_20 dX6_add_17 ?_
    refine lv_iload_n hx hb dX6_add_20 rfl (lv_at hl 1 rfl) ?_
    refine r_vcallv (As := [.int (μ o 1), .int v1]) (rest := []) S hG hP hS mX3_set kX6_24 clX3 (chX6_0 hG ho) (tX3_set _ _ _ _ _ _ _ _ (chX6_0 hG ho) (μ o 1) v1) ⟨rfl, rfl⟩ (rm_ok (by decide) (by decide)) hm hl.1 rfl (Nat.le_of_ble_eq_true rfl) ⟨Nat.zero_le _, Nat.zero_le _⟩ dX6_add_21 (fun μ1 H locs hm hP hS => ?_)
    refine lv_aload_n hx hb dX6_add_24 rfl (lv_at hl 0 rfl) ?_
    refine lv_dup hx hb dX6_add_25 rfl ?_
    refine r_geti S hG hP ho clX6 fX6_1 kX6_20 dX6_add_26 ?_
    refine lv_iconst (v := (1 : Int32)) hx hb dX6_add_29 (by decide) ?_
    refine lv_iadd hx hb dX6_add_30 ?_
    refine r_puti S hG hP hS ho clX6 fX6_1 kX6_20 hm dX6_add_31 (fun μ2 H locs hm hP hS => ?_)
    refine lv_iconst (v := (1 : Int32)) hx hb dX6_add_34 (by decide) ?_
    exact r_zretC S hr hG hP hS rfl hm dX6_add_35
  · refine lv_iconst (v := (0 : Int32)) hx hb dX6_add_10 (by decide) ?_
    exact r_zretC S hr hG hP hS rfl hm dX6_add_11
theorem tX6_add (l : Launch) (D : va_G) (cI cR : ClassId) (n : Nat) (K L ad : Nat → Nat) {o : Nat} (ho : isk n K o 6) (v1 : Int32) : Ci l yX6_add cX6_add 2 (some .boolean) (rmL 1) D cI cR n K L ad [.ref (ad o), .int v1] (fX6_add L o v1) := by
  refine Ci.ofW (by decide) (Nat.le_of_ble_eq_true rfl) ?_
  intro μ x hm p e s m args below meth c ls S hr hG hP hS hl
  exact wX6_add_0 S hr hG ho v1 μ hm _ _ ls hP hS hl
end WALKC
