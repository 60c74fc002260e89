section WALKF
variable {p : Program} {l : Launch} {e : Env} {s : State} {m : MethodId} {args : Array Value} {below : List Frame} {meth : Method} {c : Code} {D : va_G} {cI cR : ClassId} {n : Nat} {K L ad : Nat → Nat}
-- X9_begins
set_option maxHeartbeats 4000000 in
set_option maxRecDepth 100000 in
theorem wX9_begins_67 (S : CallFix p m c cX9_begins 6 s args TB RX9) (hr : meth.sig.returnType = none ∧ meth.locks = false) (hG : gok D cI cR n K L ad s) {o : Nat} (ho : isk n K o 9) {x : Mem} {self17 : Int32 → Int32 → Int32 → Int32 → Int32 → Mem → Option Mem} (hs17 : ∀ (v1 v2 v3 v4 v5 : Int32) (μ : Mem), self17 v1 v2 v3 v4 v5 μ = some x → WV p l e (rmL 0) s m args below meth c D cI cR n K L ad 6 x μ 17 [(0, .ref (ad o)), (1, .int v1), (2, .int v2), (3, .int v3), (4, .int v4), (5, .int v5)] []) : ∀ (v1 v2 v3 v4 v5 s0 s1 : Int32) (μ : Mem), fX9_begins_67 L o self17 v1 v2 v3 v4 v5 s0 s1 μ = some x → WV p l e (rmL 0) s m args below meth c D cI cR n K L ad 6 x μ 67 [(0, .ref (ad o)), (1, .int v1), (2, .int v2), (3, .int v3), (4, .int v4), (5, .int v5)] [.int s0, .int s1, .ref (ad (o + 6))] := by
  have hx := S.1
  have hb := S.2.1
  intro v1 v2 v3 v4 v5 s0 s1 μ hm H locs ls hP hS hl
  unfold fX9_begins_67 at hm
  refine r_iast S hG hP hS (chX9_9 hG ho) hm dX9_begins_67 (fun μ1 H locs hm hP hS => ?_)
  refine r_iinc (b := (1 : Int32)) (k := 5) S hm dX9_begins_68 hl rfl (by decide) (by decide) (fun a2 ls hm hl => ?_)
  have hl : lv_has ls 6 [(5, .int a2), (0, .ref (ad o)), (1, .int v1), (2, .int v2), (3, .int v3), (4, .int v4)] := hl
  refine lv_goto (tgt := 17) hx hb dX9_begins_71 (by decide) ?_
  exact hs17 v1 v2 v3 v4 a2 μ1 hm H locs ls hP hS (lv_sub hl [1, 2, 3, 4, 5, 0] rfl)
set_option maxHeartbeats 4000000 in
set_option maxRecDepth 100000 in
theorem wX9_begins_66 (S : CallFix p m c cX9_begins 6 s args TB RX9) (hr : meth.sig.returnType = none ∧ meth.locks = false) (hG : gok D cI cR n K L ad s) {o : Nat} (ho : isk n K o 9) {x : Mem} {self17 : Int32 → Int32 → Int32 → Int32 → Int32 → Mem → Option Mem} (hs17 : ∀ (v1 v2 v3 v4 v5 : Int32) (μ : Mem), self17 v1 v2 v3 v4 v5 μ = some x → WV p l e (rmL 0) s m args below meth c D cI cR n K L ad 6 x μ 17 [(0, .ref (ad o)), (1, .int v1), (2, .int v2), (3, .int v3), (4, .int v4), (5, .int v5)] []) : ∀ (v1 v2 v3 v4 v5 s0 : Int32) (μ : Mem), fX9_begins_66 L o self17 v1 v2 v3 v4 v5 s0 μ = some x → WV p l e (rmL 0) s m args below meth c D cI cR n K L ad 6 x μ 66 [(0, .ref (ad o)), (1, .int v1), (2, .int v2), (3, .int v3), (4, .int v4), (5, .int v5)] [.int s0, .ref (ad (o + 6))] := by
  have hx := S.1
  have hb := S.2.1
  intro v1 v2 v3 v4 v5 s0 μ hm H locs ls hP hS hl
  unfold fX9_begins_66 at hm
  refine lv_iconst (v := (0 : Int32)) hx hb dX9_begins_66 (by decide) ?_
  exact wX9_begins_67 S hr hG ho hs17 v1 v2 v3 v4 v5 (0 : Int32) s0 μ hm H locs ls hP hS (lv_sub hl [0, 1, 2, 3, 4, 5] rfl)
set_option maxHeartbeats 4000000 in
set_option maxRecDepth 100000 in
theorem wX9_begins_17 (S : CallFix p m c cX9_begins 6 s args TB RX9) (hr : meth.sig.returnType = none ∧ meth.locks = false) (hG : gok D cI cR n K L ad s) {o : Nat} (ho : isk n K o 9) {x : Mem} : ∀ (k : Nat) (v1 v2 v3 v4 v5 : Int32) (μ : Mem), fX9_begins_17 L o k v1 v2 v3 v4 v5 μ = some x → WV p l e (rmL 0) s m args below meth c D cI cR n K L ad 6 x μ 17 [(0, .ref (ad o)), (1, .int v1), (2, .int v2), (3, .int v3), (4, .int v4), (5, .int v5)] [] := by
  have hx := S.1
  have hb := S.2.1
  intro k
  induction k with
  | zero => intro v1 v2 v3 v4 v5 μ hm; exact absurd (show none = some x from hm) (fun h => by cases h)
  | succ k ih =>
    intro v1 v2 v3 v4 v5 μ hm H locs ls hP hS hl
    have hm : fX9_begins_17_b L o (fX9_begins_17 L o k) v1 v2 v3 v4 v5 μ = some x := hm
    unfold fX9_begins_17_b at hm
    refine lv_iload hx hb dX9_begins_17 (lv_at hl 5 rfl) ?_
    refine lv_iconst (v := (4 : Int32)) hx hb dX9_begins_19 (by decide) ?_
    refine b_icmp_ge (tgt := 74) S dX9_begins_20 (by decide) hm (fun hm => ?_) (fun hm => ?_)
    · exact r_vret S hr hG hP hS hm dX9_begins_74
    · refine lv_aload_n hx hb dX9_begins_23 rfl (lv_at hl 0 rfl) ?_
      refine r_getr S hG hP ho clX9 fX9_9 kX9_25 dX9_begins_24 ?_
      refine lv_bipush (v := (24 : Int32)) hx hb dX9_begins_27 (by decide) ?_
      refine lv_bipush (v := (16 : Int32)) hx hb dX9_begins_29 (by decide) ?_
      refine lv_iload_n hx hb dX9_begins_31 rfl (lv_at hl 1 rfl) ?_
      refine lv_imul hx hb dX9_begins_32 ?_
      refine lv_iadd hx hb dX9_begins_33 ?_
      refine lv_iconst (v := (5 : Int32)) hx hb dX9_begins_34 (by decide) ?_
      refine lv_iload hx hb dX9_begins_35 (lv_at hl 5 rfl) ?_
      refine lv_imul hx hb dX9_begins_37 ?_
      refine lv_iadd hx hb dX9_begins_38 ?_
      refine lv_iload hx hb dX9_begins_39 (lv_at hl 5 rfl) ?_
      refine lv_aload_n hx hb dX9_begins_41 rfl (lv_at hl 0 rfl) ?_
      refine r_getr S hG hP ho clX9 fX9_3 kX9_13 dX9_begins_42 ?_
      refine lv_iload_n hx hb dX9_begins_45 rfl (lv_at hl 2 rfl) ?_
      refine r_iald S hG hP (chX9_3 hG ho) hm dX9_begins_46 (fun a3 hm => ?_)
      refine b_icmp_ge (tgt := 66) S dX9_begins_47 (by decide) hm (fun hm => ?_) (fun hm => ?_)
      · exact wX9_begins_66 S hr hG ho ih v1 v2 v3 v4 v5 (((24 : Int32) + ((16 : Int32) * v1)) + ((5 : Int32) * v5)) μ hm H locs ls hP hS (lv_sub hl [0, 1, 2, 3, 4, 5] rfl)
      · refine lv_iload hx hb dX9_begins_50 (lv_at hl 5 rfl) ?_
        refine lv_aload_n hx hb dX9_begins_52 rfl (lv_at hl 0 rfl) ?_
        refine r_getr S hG hP ho clX9 fX9_3 kX9_13 dX9_begins_53 ?_
        refine lv_iload_n hx hb dX9_begins_56 rfl (lv_at hl 3 rfl) ?_
        refine r_iald S hG hP (chX9_3 hG ho) hm dX9_begins_57 (fun a4 hm => ?_)
        refine b_icmp_ge (tgt := 66) S dX9_begins_58 (by decide) hm (fun hm => ?_) (fun hm => ?_)
        · exact wX9_begins_66 S hr hG ho ih v1 v2 v3 v4 v5 (((24 : Int32) + ((16 : Int32) * v1)) + ((5 : Int32) * v5)) μ hm H locs ls hP hS (lv_sub hl [0, 1, 2, 3, 4, 5] rfl)
        · refine lv_iload hx hb dX9_begins_61 (lv_at hl 4 rfl) ?_
          refine lv_goto (tgt := 67) hx hb dX9_begins_63 (by decide) ?_
          exact wX9_begins_67 S hr hG ho ih v1 v2 v3 v4 v5 v4 (((24 : Int32) + ((16 : Int32) * v1)) + ((5 : Int32) * v5)) μ hm H locs ls hP hS (lv_sub hl [0, 1, 2, 3, 4, 5] rfl)
set_option maxHeartbeats 4000000 in
set_option maxRecDepth 100000 in
theorem wX9_begins_0 (S : CallFix p m c cX9_begins 6 s args TB RX9) (hr : meth.sig.returnType = none ∧ meth.locks = false) (hG : gok D cI cR n K L ad s) {o : Nat} (ho : isk n K o 9) {x : Mem} : ∀ (v1 v2 v3 v4 : Int32) (μ : Mem), fX9_begins L o v1 v2 v3 v4 μ = some x → WV p l e (rmL 0) s m args below meth c D cI cR n K L ad 6 x μ 0 [(0, .ref (ad o)), (1, .int v1), (2, .int v2), (3, .int v3), (4, .int v4)] [] := by
  have hx := S.1
  have hb := S.2.1
  intro v1 v2 v3 v4 μ hm H locs ls hP hS hl
  unfold fX9_begins at hm
  refine lv_aload_n hx hb dX9_begins_0 rfl (lv_at hl 0 rfl) ?_
  refine r_getr S hG hP ho clX9 fX9_5 kX9_16 dX9_begins_1 ?_
  refine lv_iload_n hx hb dX9_begins_4 rfl (lv_at hl 1 rfl) ?_
  refine lv_iload_n hx hb dX9_begins_5 rfl (lv_at hl 2 rfl) ?_
  refine r_iast S hG hP hS (chX9_5 hG ho) hm dX9_begins_6 (fun μ5 H locs hm hP hS => ?_)
  refine lv_aload_n hx hb dX9_begins_7 rfl (lv_at hl 0 rfl) ?_
  refine r_getr S hG hP ho clX9 fX9_6 kX9_19 dX9_begins_8 ?_
  refine lv_iload_n hx hb dX9_begins_11 rfl (lv_at hl 1 rfl) ?_
  refine lv_iload_n hx hb dX9_begins_12 rfl (lv_at hl 3 rfl) ?_
  refine r_iast S hG hP hS (chX9_6 hG ho) hm dX9_begins_13 (fun μ6 H locs hm hP hS => ?_)
  refine lv_iconst (v := (0 : Int32)) hx hb dX9_begins_14 (by decide) ?_
  refine lv_istore (lv' := [(5, .int (0 : Int32)), (0, .ref (ad o)), (1, .int v1), (2, .int v2), (3, .int v3), (4, .int v4)]) hx hb dX9_begins_15 hl (by decide) rfl (fun ls hl => ?_)
  exact wX9_begins_17 S hr hG ho FU v1 v2 v3 v4 (0 : Int32) μ6 hm H locs ls hP hS (lv_sub hl [1, 2, 3, 4, 5, 0] rfl)
theorem tX9_begins (l : Launch) (D : va_G) (cI cR : ClassId) (n : Nat) (K L ad : Nat → Nat) {o : Nat} (ho : isk n K o 9) (v1 : Int32) (v2 : Int32) (v3 : Int32) (v4 : Int32) : Cv l yX9_begins cX9_begins 6 none (rmL 0) D cI cR n K L ad [.ref (ad o), .int v1, .int v2, .int v3, .int v4] (fX9_begins L o v1 v2 v3 v4) := by
  refine Cv.ofW (by decide) (Nat.le_of_ble_eq_true rfl) ?_
  intro μ x hm p e s m args below meth c ls S hr hG hP hS hl
  exact wX9_begins_0 S hr hG ho v1 v2 v3 v4 μ hm _ _ ls hP hS hl
-- X9_isIn
set_option maxHeartbeats 4000000 in
set_option maxRecDepth 100000 in
theorem wX9_isIn_0 (S : CallFix p m c cX9_isIn 3 s args TB RX9) (hr : meth.sig.returnType = (some .boolean) ∧ meth.locks = false) (hG : gok D cI cR n K L ad s) {x : Int32 × Mem} : ∀ (v0 v1 v2 : Int32) (μ : Mem), fX9_isIn L v0 v1 v2 μ = some x → WI p l e (rmL 0) s m args below meth c D cI cR n K L ad 3 x μ 0 [(0, .int v0), (1, .int v1), (2, .int v2)] [] := by
  have hx := S.1
  have hb := S.2.1
  intro v0 v1 v2 μ hm H locs ls hP hS hl
  unfold fX9_isIn at hm
  refine lv_iload_n hx hb dX9_isIn_0 rfl (lv_at hl 0 rfl) ?_
  refine lv_iload_n hx hb dX9_isIn_1 rfl (lv_at hl 1 rfl) ?_
  refine b_icmp_lt (tgt := 14) S dX9_isIn_2 (by decide) hm (fun hm => ?_) (fun hm => ?_)
  · refine lv_iconst (v := (0 : Int32)) hx hb dX9_isIn_14 (by decide) ?_
    exact r_zretC S hr hG hP hS rfl hm dX9_isIn_15
  · refine lv_iload_n hx hb dX9_isIn_5 rfl (lv_at hl 0 rfl) ?_
    refine lv_iload_n hx hb dX9_isIn_6 rfl (lv_at hl 2 rfl) ?_
    refine b_icmp_gt (tgt := 14) S dX9_isIn_7 (by decide) hm (fun hm => ?_) (fun hm => ?_)
    · refine lv_iconst (v := (0 : Int32)) hx hb dX9_isIn_14 (by decide) ?_
      exact r_zretC S hr hG hP hS rfl hm dX9_isIn_15
    · refine lv_iconst (v := (1 : Int32)) hx hb dX9_isIn_10 (by decide) ?_
      refine lv_goto (tgt := 15) hx hb dX9_isIn_11 (by decide) ?_
      exact r_zretC S hr hG hP hS rfl hm dX9_isIn_15
theorem tX9_isIn (l : Launch) (D : va_G) (cI cR : ClassId) (n : Nat) (K L ad : Nat → Nat) (v0 : Int32) (v1 : Int32) (v2 : Int32) : Ci l yX9_isIn cX9_isIn 3 (some .boolean) (rmL 0) D cI cR n K L ad [.int v0, .int v1, .int v2] (fX9_isIn L v0 v1 v2) := by
  refine Ci.ofW (by decide) (Nat.le_of_ble_eq_true rfl) ?_
  intro μ x hm p e s m args below meth c ls S hr hG hP hS hl
  exact wX9_isIn_0 S hr hG v0 v1 v2 μ hm _ _ ls hP hS hl
-- X9_letterAt
set_option maxHeartbeats 4000000 in
set_option maxRecDepth 100000 in
theorem wX9_letterAt_0 (S : CallFix p m c cX9_letterAt 2 s args TB RX9) (hr : meth.sig.returnType = (some .int) ∧ meth.locks = false) (hG : gok D cI cR n K L ad s) {o : Nat} (ho : isk n K o 9) {x : Int32 × Mem} : ∀ (v1 : Int32) (μ : Mem), fX9_letterAt L o v1 μ = some x → WI p l e (rmL 0) s m args below meth c D cI cR n K L ad 2 x μ 0 [(0, .ref (ad o)), (1, .int v1)] [] := by
  have hx := S.1
  have hb := S.2.1
  intro v1 μ hm H locs ls hP hS hl
  unfold fX9_letterAt at hm
  refine lv_iload_n hx hb dX9_letterAt_0 rfl (lv_at hl 1 rfl) ?_
  refine lv_aload_n hx hb dX9_letterAt_1 rfl (lv_at hl 0 rfl) ?_
  refine r_geti S hG hP ho clX9 fX9_0 kX9_72 dX9_letterAt_2 ?_
  refine b_icmp_ge (tgt := 17) S dX9_letterAt_5 (by decide) hm (fun hm => ?_) (fun hm => ?_)
  · refine lv_iconst (v := (0 : Int32)) hx hb dX9_letterAt_17 (by decide) ?_
    exact r_iret S hr hG hP hS hm dX9_letterAt_18
  · refine lv_aload_n hx hb dX9_letterAt_8 rfl (lv_at hl 0 rfl) ?_
    refine r_getr S hG hP ho clX9 fX9_1 kX9_7 dX9_letterAt_9 ?_
    refine lv_iload_n hx hb dX9_letterAt_12 rfl (lv_at hl 1 rfl) ?_
    refine r_iald S hG hP (chX9_1 hG ho) hm dX9_letterAt_13 (fun a1 hm => ?_)
    refine lv_goto (tgt := 18) hx hb dX9_letterAt_14 (by decide) ?_
    exact r_iret S hr hG hP hS hm dX9_letterAt_18
theorem tX9_letterAt (l : Launch) (D : va_G) (cI cR : ClassId) (n : Nat) (K L ad : Nat → Nat) {o : Nat} (ho : isk n K o 9) (v1 : Int32) : Ci l yX9_letterAt cX9_letterAt 2 (some .int) (rmL 0) D cI cR n K L ad [.ref (ad o), .int v1] (fX9_letterAt L o v1) := by
  refine Ci.ofW (by decide) (Nat.le_of_ble_eq_true rfl) ?_
  intro μ x hm p e s m args below meth c ls S hr hG hP hS hl
  exact wX9_letterAt_0 S hr hG ho v1 μ hm _ _ ls hP hS hl
-- X9_number
set_option maxHeartbeats 4000000 in
set_option maxRecDepth 100000 in
theorem wX9_number_65 (S : CallFix p m c cX9_number 5 s args TB RX9) (hr : meth.sig.returnType = (some .boolean) ∧ meth.locks = false) (hG : gok D cI cR n K L ad s) {o : Nat} (ho : isk n K o 9) {x : Int32 × Mem} : ∀ (v1 v2 v3 v4 : Int32) (μ : Mem), fX9_number_65 L o v1 v2 v3 v4 μ = some x → WI p l e (rmL 1) s m args below meth c D cI cR n K L ad 5 x μ 65 [(0, .ref (ad o)), (1, .int v1), (2, .int v2), (3, .int v3), (4, .int v4)] [] := by
  have hx := S.1
  have hb := S.2.1
  intro v1 v2 v3 v4 μ hm H locs ls hP hS hl
  unfold fX9_number_65 at hm
  refine lv_aload_n hx hb dX9_number_65 rfl (lv_at hl 0 rfl) ?_
  refine lv_iload hx hb dX9_number_66 (lv_at hl 4 rfl) ?_
  refine r_puti S hG hP hS ho clX9 fX9_21 kX9_82 hm dX9_number_68 (fun μ1 H locs hm hP hS => ?_)
  refine lv_iload hx hb dX9_number_71 (lv_at hl 4 rfl) ?_
  refine lv_iload_n hx hb dX9_number_73 rfl (lv_at hl 1 rfl) ?_
  refine b_icmp_le (tgt := 93) S dX9_number_74 (by decide) hm (fun hm => ?_) (fun hm => ?_)
  · refine lv_iconst (v := (0 : Int32)) hx hb dX9_number_93 (by decide) ?_
    exact r_zretC S hr hG hP hS rfl hm dX9_number_94
  · refine lv_aload_n hx hb dX9_number_77 rfl (lv_at hl 0 rfl) ?_
    refine r_geti S hG hP ho clX9 fX9_20 kX9_75 dX9_number_78 ?_
    refine lv_iload_n hx hb dX9_number_81 rfl (lv_at hl 2 rfl) ?_
    refine lv_iload_n hx hb dX9_number_82 rfl (lv_at hl 3 rfl) ?_
    refine r_scalli (As := [.int (μ1 o 20), .int v2, .int v3]) (rest := []) S hG hP hS mX9_isIn kX9_85 (tX9_isIn _ _ _ _ _ _ _ _ (μ1 o 20) v2 v3) ⟨rfl, rfl⟩ (rm_ok (by decide) (by decide)) hm hl.1 rfl (Nat.le_of_ble_eq_true rfl) ⟨Nat.zero_le _, Nat.zero_le _⟩ dX9_number_83 (fun b3 μ2 H locs hm hP hS => ?_)
    refine b_if_eq (tgt := 93) S dX9_number_86 (by decide) hm (fun hm => ?_) (fun hm => ?_)
    · refine lv_iconst (v := (0 : Int32)) hx hb dX9_number_93 (by decide) ?_
      exact r_zretC S hr hG hP hS rfl hm dX9_number_94
    · refine lv_iconst (v := (1 : Int32)) hx hb dX9_number_89 (by decide) ?_
      refine lv_goto (tgt := 94) hx hb dX9_number_90 (by decide) ?_
      exact r_zretC S hr hG hP hS rfl hm dX9_number_94
set_option maxHeartbeats 4000000 in
set_option maxRecDepth 100000 in
theorem wX9_number_8 (S : CallFix p m c cX9_number 5 s args TB RX9) (hr : meth.sig.returnType = (some .boolean) ∧ meth.locks = false) (hG : gok D cI cR n K L ad s) {o : Nat} (ho : isk n K o 9) {x : Int32 × Mem} : ∀ (k : Nat) (v1 v2 v3 v4 : Int32) (μ : Mem), fX9_number_8 L o k v1 v2 v3 v4 μ = some x → WI p l e (rmL 1) s m args below meth c D cI cR n K L ad 5 x μ 8 [(0, .ref (ad o)), (1, .int v1), (2, .int v2), (3, .int v3), (4, .int v4)] [] := by
  have hx := S.1
  have hb := S.2.1
  intro k
  induction k with
  | zero => intro v1 v2 v3 v4 μ hm; exact absurd (show none = some x from hm) (fun h => by cases h)
  | succ k ih =>
    intro v1 v2 v3 v4 μ hm H locs ls hP hS hl
    have hm : fX9_number_8_b L o (fX9_number_8 L o k) v1 v2 v3 v4 μ = some x := hm
    unfold fX9_number_8_b at hm
    refine lv_aload_n hx hb dX9_number_8 rfl (lv_at hl 0 rfl) ?_
    refine lv_iload hx hb dX9_number_9 (lv_at hl 4 rfl) ?_
    refine r_vcalli (As := [.int v4]) (rest := []) S hG hP hS mX9_letterAt kX9_78 clX9 ho (tX9_letterAt _ _ _ _ _ _ _ _ ho v4) ⟨rfl, rfl⟩ (rm_ok (by decide) (by decide)) hm hl.1 rfl (Nat.le_of_ble_eq_true rfl) ⟨Nat.zero_le _, Nat.zero_le _⟩ dX9_number_11 (fun b5 μ4 H locs hm hP hS => ?_)
    refine lv_bipush (v := (48 : Int32)) hx hb dX9_number_14 (by decide) ?_
    refine b_icmp_lt (tgt := 65) S dX9_number_16 (by decide) hm (fun hm => ?_) (fun hm => ?_)
    · exact wX9_number_65 S hr hG ho v1 v2 v3 v4 μ4 hm H locs ls hP hS (lv_sub hl [0, 1, 2, 3, 4] rfl)
    · refine lv_aload_n hx hb dX9_number_19 rfl (lv_at hl 0 rfl) ?_
      refine lv_iload hx hb dX9_number_20 (lv_at hl 4 rfl) ?_
      refine r_vcalli (As := [.int v4]) (rest := []) S hG hP hS mX9_letterAt kX9_78 clX9 ho (tX9_letterAt _ _ _ _ _ _ _ _ ho v4) ⟨rfl, rfl⟩ (rm_ok (by decide) (by decide)) hm hl.1 rfl (Nat.le_of_ble_eq_true rfl) ⟨Nat.zero_le _, Nat.zero_le _⟩ dX9_number_22 (fun b7 μ6 H locs hm hP hS => ?_)
      refine lv_bipush (v := (57 : Int32)) hx hb dX9_number_25 (by decide) ?_
      refine b_icmp_gt (tgt := 65) S dX9_number_27 (by decide) hm (fun hm => ?_) (fun hm => ?_)
      · exact wX9_number_65 S hr hG ho v1 v2 v3 v4 μ6 hm H locs ls hP hS (lv_sub hl [0, 1, 2, 3, 4] rfl)
      · refine lv_iload hx hb dX9_number_30 (lv_at hl 4 rfl) ?_
        refine lv_iload_n hx hb dX9_number_32 rfl (lv_at hl 1 rfl) ?_
        refine lv_iconst (v := (2 : Int32)) hx hb dX9_number_33 (by decide) ?_
        refine lv_iadd hx hb dX9_number_34 ?_
        refine b_icmp_ge (tgt := 65) S dX9_number_35 (by decide) hm (fun hm => ?_) (fun hm => ?_)
        · exact wX9_number_65 S hr hG ho v1 v2 v3 v4 μ6 hm H locs ls hP hS (lv_sub hl [0, 1, 2, 3, 4] rfl)
        · refine lv_aload_n hx hb dX9_number_38 rfl (lv_at hl 0 rfl) ?_
          refine lv_bipush (v := (10 : Int32)) hx hb dX9_number_39 (by decide) ?_
          refine lv_aload_n hx hb dX9_number_41 rfl (lv_at hl 0 rfl) ?_
          refine r_geti S hG hP ho clX9 fX9_20 kX9_75 dX9_number_42 ?_
          refine lv_imul hx hb dX9_number_45 ?_
          refine lv_aload_n hx hb dX9_number_46 rfl (lv_at hl 0 rfl) ?_
          refine lv_iload hx hb dX9_number_47 (lv_at hl 4 rfl) ?_
          refine r_vcalli (As := [.int v4]) (rest := [.int ((10 : Int32) * (μ6 o 20)), .ref (ad o)]) S hG hP hS mX9_letterAt kX9_78 clX9 ho (tX9_letterAt _ _ _ _ _ _ _ _ ho v4) ⟨rfl, rfl⟩ (rm_ok (by decide) (by decide)) hm hl.1 rfl (Nat.le_of_ble_eq_true rfl) ⟨Nat.zero_le _, Nat.zero_le _⟩ dX9_number_49 (fun b9 μ8 H locs hm hP hS => ?_)
          refine lv_iadd hx hb dX9_number_52 ?_
          refine lv_bipush (v := (48 : Int32)) hx hb dX9_number_53 (by decide) ?_
          refine lv_isub hx hb dX9_number_55 ?_
          refine r_puti S hG hP hS ho clX9 fX9_20 kX9_75 hm dX9_number_56 (fun μ10 H locs hm hP hS => ?_)
          refine r_iinc (b := (1 : Int32)) (k := 4) S hm dX9_number_59 hl rfl (by decide) (by decide) (fun a11 ls hm hl => ?_)
          have hl : lv_has ls 5 [(4, .int a11), (0, .ref (ad o)), (1, .int v1), (2, .int v2), (3, .int v3)] := hl
          refine lv_goto (tgt := 8) hx hb dX9_number_62 (by decide) ?_
          exact ih v1 v2 v3 a11 μ10 hm H locs ls hP hS (lv_sub hl [1, 2, 3, 4, 0] rfl)
set_option maxHeartbeats 4000000 in
set_option maxRecDepth 100000 in
theorem wX9_number_0 (S : CallFix p m c cX9_number 5 s args TB RX9) (hr : meth.sig.returnType = (some .boolean) ∧ meth.locks = false) (hG : gok D cI cR n K L ad s) {o : Nat} (ho : isk n K o 9) {x : Int32 × Mem} : ∀ (v1 v2 v3 : Int32) (μ : Mem), fX9_number L o v1 v2 v3 μ = some x → WI p l e (rmL 1) s m args below meth c D cI cR n K L ad 5 x μ 0 [(0, .ref (ad o)), (1, .int v1), (2, .int v2), (3, .int v3)] [] := by
  have hx := S.1
  have hb := S.2.1
  intro v1 v2 v3 μ hm H locs ls hP hS hl
  unfold fX9_number at hm
  refine lv_iload_n hx hb dX9_number_0 rfl (lv_at hl 1 rfl) ?_
  refine lv_istore (lv' := [(4, .int v1), (0, .ref (ad o)), (1, .int v1), (2, .int v2), (3, .int v3)]) hx hb dX9_number_1 hl (by decide) rfl (fun ls hl => ?_)
  refine lv_aload_n hx hb dX9_number_3 rfl (lv_at hl 1 rfl) ?_
  refine lv_iconst (v := (0 : Int32)) hx hb dX9_number_4 (by decide) ?_
  refine r_puti S hG hP hS ho clX9 fX9_20 kX9_75 hm dX9_number_5 (fun μ12 H locs hm hP hS => ?_)
  exact wX9_number_8 S hr hG ho FU v1 v2 v3 v1 μ12 hm H locs ls hP hS (lv_sub hl [1, 2, 3, 4, 0] rfl)
theorem tX9_number (l : Launch) (D : va_G) (cI cR : ClassId) (n : Nat) (K L ad : Nat → Nat) {o : Nat} (ho : isk n K o 9) (v1 : Int32) (v2 : Int32) (v3 : Int32) : Ci l yX9_number cX9_number 5 (some .boolean) (rmL 1) D cI cR n K L ad [.ref (ad o), .int v1, .int v2, .int v3] (fX9_number L o v1 v2 v3) := by
  refine Ci.ofW (by decide) (Nat.le_of_ble_eq_true rfl) ?_
  intro μ x hm p e s m args below meth c ls S hr hG hP hS hl
  exact wX9_number_0 S hr hG ho v1 v2 v3 μ hm _ _ ls hP hS hl
-- X9_more
set_option maxHeartbeats 4000000 in
set_option maxRecDepth 100000 in
theorem wX9_more_0 (S : CallFix p m c cX9_more 3 s args TB RX9) (hr : meth.sig.returnType = (some .boolean) ∧ meth.locks = false) (hG : gok D cI cR n K L ad s) {o : Nat} (ho : isk n K o 9) {x : Int32 × Mem} : ∀ (v1 v2 : Int32) (μ : Mem), fX9_more L o v1 v2 μ = some x → WI p l e (rmL 2) s m args below meth c D cI cR n K L ad 3 x μ 0 [(0, .ref (ad o)), (1, .int v1), (2, .int v2)] [] := by
  have hx := S.1
  have hb := S.2.1
  intro v1 v2 μ hm H locs ls hP hS hl
  unfold fX9_more at hm
  refine lv_aload_n hx hb dX9_more_0 rfl (lv_at hl 0 rfl) ?_
  refine lv_aload_n hx hb dX9_more_1 rfl (lv_at hl 0 rfl) ?_
  refine r_geti S hG hP ho clX9 fX9_21 kX9_82 dX9_more_2 ?_
  refine r_vcalli (As := [.int (μ o 21)]) (rest := []) S hG hP hS mX9_letterAt kX9_78 clX9 ho (tX9_letterAt _ _ _ _ _ _ _ _ ho (μ o 21)) ⟨rfl, rfl⟩ (rm_ok (by decide) (by decide)) hm hl.1 rfl (Nat.le_of_ble_eq_true rfl) ⟨Nat.zero_le _, Nat.zero_le _⟩ dX9_more_5 (fun b2 μ1 H locs hm hP hS => ?_)
  refine lv_bipush (v := (44 : Int32)) hx hb dX9_more_8 (by decide) ?_
  refine b_icmp_ne (tgt := 32) S dX9_more_10 (by decide) hm (fun hm => ?_) (fun hm => ?_)
  · refine lv_iconst (v := (0 : Int32)) hx hb dX9_more_32 (by decide) ?_
    exact r_zretC S hr hG hP hS rfl hm dX9_more_33
  · refine lv_aload_n hx hb dX9_more_13 rfl (lv_at hl 0 rfl) ?_
    refine lv_aload_n hx hb dX9_more_14 rfl (lv_at hl 0 rfl) ?_
    refine r_geti S hG hP ho clX9 fX9_21 kX9_82 dX9_more_15 ?_
    refine lv_iconst (v := (1 : Int32)) hx hb dX9_more_18 (by decide) ?_
    refine lv_iadd hx hb dX9_more_19 ?_
    refine lv_iload_n hx hb dX9_more_20 rfl (lv_at hl 1 rfl) ?_
    refine lv_iload_n hx hb dX9_more_21 rfl (lv_at hl 2 rfl) ?_
    refine r_vcalli (As := [.int ((μ1 o 21) + (1 : Int32)), .int v1, .int v2]) (rest := []) S hG hP hS mX9_number kX9_89 clX9 ho (tX9_number _ _ _ _ _ _ _ _ ho ((μ1 o 21) + (1 : Int32)) v1 v2) ⟨rfl, rfl⟩ (rm_ok (by decide) (by decide)) hm hl.1 rfl (Nat.le_of_ble_eq_true rfl) ⟨Nat.zero_le _, Nat.zero_le _⟩ dX9_more_22 (fun b4 μ3 H locs hm hP hS => ?_)
    refine b_if_eq (tgt := 32) S dX9_more_25 (by decide) hm (fun hm => ?_) (fun hm => ?_)
    · refine lv_iconst (v := (0 : Int32)) hx hb dX9_more_32 (by decide) ?_
      exact r_zretC S hr hG hP hS rfl hm dX9_more_33
    · refine lv_iconst (v := (1 : Int32)) hx hb dX9_more_28 (by decide) ?_
      refine lv_goto (tgt := 33) hx hb dX9_more_29 (by decide) ?_
      exact r_zretC S hr hG hP hS rfl hm dX9_more_33
theorem tX9_more (l : Launch) (D : va_G) (cI cR : ClassId) (n : Nat) (K L ad : Nat → Nat) {o : Nat} (ho : isk n K o 9) (v1 : Int32) (v2 : Int32) : Ci l yX9_more cX9_more 3 (some .boolean) (rmL 2) D cI cR n K L ad [.ref (ad o), .int v1, .int v2] (fX9_more L o v1 v2) := by
  refine Ci.ofW (by decide) (Nat.le_of_ble_eq_true rfl) ?_
  intro μ x hm p e s m args below meth c ls S hr hG hP hS hl
  exact wX9_more_0 S hr hG ho v1 v2 μ hm _ _ ls hP hS hl
-- X9_readsName
set_option maxHeartbeats 4000000 in
set_option maxRecDepth 100000 in
theorem wX9_readsName_0 (S : CallFix p m c cX9_readsName 2 s args TB RX9) (hr : meth.sig.returnType = (some .boolean) ∧ meth.locks = false) (hG : gok D cI cR n K L ad s) {o : Nat} (ho : isk n K o 9) {x : Int32 × Mem} : ∀ (v1 : Int32) (μ : Mem), fX9_readsName L o v1 μ = some x → WI p l e (rmL 2) s m args below meth c D cI cR n K L ad 2 x μ 0 [(0, .ref (ad o)), (1, .int v1)] [] := by
  have hx := S.1
  have hb := S.2.1
  intro v1 μ hm H locs ls hP hS hl
  unfold fX9_readsName at hm
  refine lv_aload_n hx hb dX9_readsName_0 rfl (lv_at hl 0 rfl) ?_
  refine r_geti S hG hP ho clX9 fX9_13 kX9_92 dX9_readsName_1 ?_
  refine lv_bipush (v := (6 : Int32)) hx hb dX9_readsName_4 (by decide) ?_
  refine b_icmp_eq (tgt := 19) S dX9_readsName_6 (by decide) hm (fun hm => ?_) (fun hm => ?_)
  · refine lv_iconst (v := (0 : Int32)) hx hb dX9_readsName_19 (by decide) ?_
    exact r_zretC S hr hG hP hS rfl hm dX9_readsName_20
  · refine lv_aload_n hx hb dX9_readsName_9 rfl (lv_at hl 0 rfl) ?_
    refine lv_iload_n hx hb dX9_readsName_10 rfl (lv_at hl 1 rfl) ?_
    refine lv_iconst (v := (2 : Int32)) hx hb dX9_readsName_11 (by decide) ?_
    refine lv_iconst (v := (4 : Int32)) hx hb dX9_readsName_12 (by decide) ?_
    refine r_vcalli (As := [.int v1, .int (2 : Int32), .int (4 : Int32)]) (rest := []) S hG hP hS mX9_number kX9_89 clX9 ho (tX9_number _ _ _ _ _ _ _ _ ho v1 (2 : Int32) (4 : Int32)) ⟨rfl, rfl⟩ (rm_ok (by decide) (by decide)) hm hl.1 rfl (Nat.le_of_ble_eq_true rfl) ⟨Nat.zero_le _, Nat.zero_le _⟩ dX9_readsName_13 (fun b2 μ1 H locs hm hP hS => ?_)
    refine b_if_ne (tgt := 21) S dX9_readsName_16 (by decide) hm (fun hm => ?_) (fun hm => ?_)
    · refine lv_aload_n hx hb dX9_readsName_21 rfl (lv_at hl 0 rfl) ?_
      refine r_getr S hG hP ho clX9 fX9_14 kX9_34 dX9_readsName_22 ?_
      refine lv_aload_n hx hb dX9_readsName_25 rfl (lv_at hl 0 rfl) ?_
      refine r_geti S hG hP ho clX9 fX9_13 kX9_92 dX9_readsName_26 ?_
      refine lv_aload_n hx hb dX9_readsName_29 rfl (lv_at hl 0 rfl) ?_
      refine r_geti S hG hP ho clX9 fX9_20 kX9_75 dX9_readsName_30 ?_
      refine r_iast S hG hP hS (chX9_14 hG ho) hm dX9_readsName_33 (fun μ3 H locs hm hP hS => ?_)
      refine lv_aload_n hx hb dX9_readsName_34 rfl (lv_at hl 0 rfl) ?_
      refine lv_dup hx hb dX9_readsName_35 rfl ?_
      refine r_geti S hG hP ho clX9 fX9_13 kX9_92 dX9_readsName_36 ?_
      refine lv_iconst (v := (1 : Int32)) hx hb dX9_readsName_39 (by decide) ?_
      refine lv_iadd hx hb dX9_readsName_40 ?_
      refine r_puti S hG hP hS ho clX9 fX9_13 kX9_92 hm dX9_readsName_41 (fun μ4 H locs hm hP hS => ?_)
      refine lv_iconst (v := (1 : Int32)) hx hb dX9_readsName_44 (by decide) ?_
      exact r_zretC S hr hG hP hS rfl hm dX9_readsName_45
    · refine lv_iconst (v := (0 : Int32)) hx hb dX9_readsName_19 (by decide) ?_
      exact r_zretC S hr hG hP hS rfl hm dX9_readsName_20
theorem tX9_readsName (l : Launch) (D : va_G) (cI cR : ClassId) (n : Nat) (K L ad : Nat → Nat) {o : Nat} (ho : isk n K o 9) (v1 : Int32) : Ci l yX9_readsName cX9_readsName 2 (some .boolean) (rmL 2) D cI cR n K L ad [.ref (ad o), .int v1] (fX9_readsName L o v1) := by
  refine Ci.ofW (by decide) (Nat.le_of_ble_eq_true rfl) ?_
  intro μ x hm p e s m args below meth c ls S hr hG hP hS hl
  exact wX9_readsName_0 S hr hG ho v1 μ hm _ _ ls hP hS hl
-- X9_readsSingle
set_option maxHeartbeats 4000000 in
set_option maxRecDepth 100000 in
theorem wX9_readsSingle_0 (S : CallFix p m c cX9_readsSingle 5 s args TB RX9) (hr : meth.sig.returnType = (some .boolean) ∧ meth.locks = false) (hG : gok D cI cR n K L ad s) {o : Nat} (ho : isk n K o 9) {x : Int32 × Mem} : ∀ (v1 : Int32) (μ : Mem), fX9_readsSingle L o v1 μ = some x → WI p l e (rmL 3) s m args below meth c D cI cR n K L ad 5 x μ 0 [(0, .ref (ad o)), (1, .int v1)] [] := by
  have hx := S.1
  have hb := S.2.1
  intro v1 μ hm H locs ls hP hS hl
  unfold fX9_readsSingle at hm
  refine lv_aload_n hx hb dX9_readsSingle_0 rfl (lv_at hl 0 rfl) ?_
  refine lv_iload_n hx hb dX9_readsSingle_1 rfl (lv_at hl 1 rfl) ?_
  refine lv_iconst (v := (0 : Int32)) hx hb dX9_readsSingle_2 (by decide) ?_
  refine lv_aload_n hx hb dX9_readsSingle_3 rfl (lv_at hl 0 rfl) ?_
  refine r_geti S hG hP ho clX9 fX9_13 kX9_92 dX9_readsSingle_4 ?_
  refine lv_iconst (v := (1 : Int32)) hx hb dX9_readsSingle_7 (by decide) ?_
  refine lv_isub hx hb dX9_readsSingle_8 ?_
  refine r_vcalli (As := [.int v1, .int (0 : Int32), .int ((μ o 13) - (1 : Int32))]) (rest := []) S hG hP hS mX9_number kX9_89 clX9 ho (tX9_number _ _ _ _ _ _ _ _ ho v1 (0 : Int32) ((μ o 13) - (1 : Int32))) ⟨rfl, rfl⟩ (rm_ok (by decide) (by decide)) hm hl.1 rfl (Nat.le_of_ble_eq_true rfl) ⟨Nat.zero_le _, Nat.zero_le _⟩ dX9_readsSingle_9 (fun b2 μ1 H locs hm hP hS => ?_)
  refine b_if_ne (tgt := 17) S dX9_readsSingle_12 (by decide) hm (fun hm => ?_) (fun hm => ?_)
  · refine lv_aload_n hx hb dX9_readsSingle_17 rfl (lv_at hl 0 rfl) ?_
    refine r_geti S hG hP ho clX9 fX9_20 kX9_75 dX9_readsSingle_18 ?_
    refine r_top hm (fun a3 hm => ?_)
    refine lv_istore_n (lv' := [(2, .int a3), (0, .ref (ad o)), (1, .int v1)]) hx hb dX9_readsSingle_21 rfl hl (by decide) rfl (fun ls hl => ?_)
    refine lv_aload_n hx hb dX9_readsSingle_22 rfl (lv_at hl 1 rfl) ?_
    refine lv_iconst (v := (0 : Int32)) hx hb dX9_readsSingle_23 (by decide) ?_
    refine lv_aload_n hx hb dX9_readsSingle_24 rfl (lv_at hl 1 rfl) ?_
    refine r_getr S hG hP ho clX9 fX9_14 kX9_34 dX9_readsSingle_25 ?_
    refine lv_iload_n hx hb dX9_readsSingle_28 rfl (lv_at hl 0 rfl) ?_
    refine r_iald S hG hP (chX9_14 hG ho) hm dX9_readsSingle_29 (fun a4 hm => ?_)
    refine lv_iconst (v := (1 : Int32)) hx hb dX9_readsSingle_30 (by decide) ?_
    refine lv_isub hx hb dX9_readsSingle_31 ?_
    refine r_vcalli (As := [.int (0 : Int32), .int (a4 - (1 : Int32))]) (rest := []) S hG hP hS mX9_more kX9_95 clX9 ho (tX9_more _ _ _ _ _ _ _ _ ho (0 : Int32) (a4 - (1 : Int32))) ⟨rfl, rfl⟩ (rm_ok (by decide) (by decide)) hm hl.1 rfl (Nat.le_of_ble_eq_true rfl) ⟨Nat.zero_le _, Nat.zero_le _⟩ dX9_readsSingle_32 (fun b6 μ5 H locs hm hP hS => ?_)
    refine b_if_ne (tgt := 40) S dX9_readsSingle_35 (by decide) hm (fun hm => ?_) (fun hm => ?_)
    · refine lv_iconst (v := (4 : Int32)) hx hb dX9_readsSingle_40 (by decide) ?_
      refine lv_iload_n hx hb dX9_readsSingle_41 rfl (lv_at hl 0 rfl) ?_
      refine lv_imul hx hb dX9_readsSingle_42 ?_
      refine lv_aload_n hx hb dX9_readsSingle_43 rfl (lv_at hl 1 rfl) ?_
      refine r_geti S hG hP ho clX9 fX9_20 kX9_75 dX9_readsSingle_44 ?_
      refine lv_iadd hx hb dX9_readsSingle_47 ?_
      refine r_top hm (fun a7 hm => ?_)
      refine lv_istore_n (lv' := [(3, .int a7), (2, .int a3), (0, .ref (ad o)), (1, .int v1)]) hx hb dX9_readsSingle_48 rfl hl (by decide) rfl (fun ls hl => ?_)
      refine lv_aload_n hx hb dX9_readsSingle_49 rfl (lv_at hl 2 rfl) ?_
      refine lv_iconst (v := (0 : Int32)) hx hb dX9_readsSingle_50 (by decide) ?_
      refine lv_bipush (v := (99 : Int32)) hx hb dX9_readsSingle_51 (by decide) ?_
      refine r_vcalli (As := [.int (0 : Int32), .int (99 : Int32)]) (rest := []) S hG hP hS mX9_more kX9_95 clX9 ho (tX9_more _ _ _ _ _ _ _ _ ho (0 : Int32) (99 : Int32)) ⟨rfl, rfl⟩ (rm_ok (by decide) (by decide)) hm hl.1 rfl (Nat.le_of_ble_eq_true rfl) ⟨Nat.zero_le _, Nat.zero_le _⟩ dX9_readsSingle_53 (fun b9 μ8 H locs hm hP hS => ?_)
      refine lv_istore (lv' := [(4, .int b9), (3, .int a7), (2, .int a3), (0, .ref (ad o)), (1, .int v1)]) hx hb dX9_readsSingle_56 hl (by decide) rfl (fun ls hl => ?_)
      refine lv_aload_n hx hb dX9_readsSingle_58 rfl (lv_at hl 3 rfl) ?_
      refine r_getr S hG hP ho clX9 fX9_19 kX9_43 dX9_readsSingle_59 ?_
      refine lv_iload_n hx hb dX9_readsSingle_62 rfl (lv_at hl 1 rfl) ?_
      refine lv_aload_n hx hb dX9_readsSingle_63 rfl (lv_at hl 3 rfl) ?_
      refine r_geti S hG hP ho clX9 fX9_20 kX9_75 dX9_readsSingle_64 ?_
      refine r_iast S hG hP hS (chX9_19 hG ho) hm dX9_readsSingle_67 (fun μ10 H locs hm hP hS => ?_)
      refine lv_iload hx hb dX9_readsSingle_68 (lv_at hl 0 rfl) ?_
      exact r_zret S hr hG hP hS hm dX9_readsSingle_70
    · refine lv_iconst (v := (0 : Int32)) hx hb dX9_readsSingle_38 (by decide) ?_
      exact r_zretC S hr hG hP hS rfl hm dX9_readsSingle_39
  · refine lv_iconst (v := (0 : Int32)) hx hb dX9_readsSingle_15 (by decide) ?_
    exact r_zretC S hr hG hP hS rfl hm dX9_readsSingle_16
theorem tX9_readsSingle (l : Launch) (D : va_G) (cI cR : ClassId) (n : Nat) (K L ad : Nat → Nat) {o : Nat} (ho : isk n K o 9) (v1 : Int32) : Ci l yX9_readsSingle cX9_readsSingle 5 (some .boolean) (rmL 3) D cI cR n K L ad [.ref (ad o), .int v1] (fX9_readsSingle L o v1) := by
  refine Ci.ofW (by decide) (Nat.le_of_ble_eq_true rfl) ?_
  intro μ x hm p e s m args below meth c ls S hr hG hP hS hl
  exact wX9_readsSingle_0 S hr hG ho v1 μ hm _ _ ls hP hS hl
-- X9_readsTable
set_option maxHeartbeats 4000000 in
set_option maxRecDepth 100000 in
theorem wX9_readsTable_147 (S : CallFix p m c cX9_readsTable 6 s args TB RX9) (hr : meth.sig.returnType = (some .boolean) ∧ meth.locks = false) (hG : gok D cI cR n K L ad s) {o : Nat} (ho : isk n K o 9) {x : Int32 × Mem} {self108 : Int32 → Int32 → Int32 → Int32 → Mem → Option (Int32 × Mem)} (hs108 : ∀ (v2 v3 v4 v5 : Int32) (μ : Mem), self108 v2 v3 v4 v5 μ = some x → WI p l e (rmL 3) s m args below meth c D cI cR n K L ad 6 x μ 108 [(0, .ref (ad o)), (2, .int v2), (3, .int v3), (4, .int v4), (5, .int v5)] []) : ∀ (v2 v3 v4 v5 s0 s1 : Int32) (μ : Mem), fX9_readsTable_147 L o self108 v2 v3 v4 v5 s0 s1 μ = some x → WI p l e (rmL 3) s m args below meth c D cI cR n K L ad 6 x μ 147 [(0, .ref (ad o)), (2, .int v2), (3, .int v3), (4, .int v4), (5, .int v5)] [.int s0, .int s1, .ref (ad (o + 12))] := by
  have hx := S.1
  have hb := S.2.1
  intro v2 v3 v4 v5 s0 s1 μ hm H locs ls hP hS hl
  unfold fX9_readsTable_147 at hm
  refine r_iast S hG hP hS (chX9_19 hG ho) hm dX9_readsTable_147 (fun μ1 H locs hm hP hS => ?_)
  refine r_iinc (b := (1 : Int32)) (k := 4) S hm dX9_readsTable_148 hl rfl (by decide) (by decide) (fun a2 ls hm hl => ?_)
  have hl : lv_has ls 6 [(5, .int a2), (0, .ref (ad o)), (2, .int v2), (3, .int v3), (4, .int v4)] := hl
  refine lv_goto (tgt := 108) hx hb dX9_readsTable_151 (by decide) ?_
  exact hs108 v2 v3 v4 a2 μ1 hm H locs ls hP hS (lv_sub hl [1, 2, 3, 4, 0] rfl)
set_option maxHeartbeats 4000000 in
set_option maxRecDepth 100000 in
theorem wX9_readsTable_108 (S : CallFix p m c cX9_readsTable 6 s args TB RX9) (hr : meth.sig.returnType = (some .boolean) ∧ meth.locks = false) (hG : gok D cI cR n K L ad s) {o : Nat} (ho : isk n K o 9) {x : Int32 × Mem} : ∀ (k : Nat) (v2 v3 v4 v5 : Int32) (μ : Mem), fX9_readsTable_108 L o k v2 v3 v4 v5 μ = some x → WI p l e (rmL 3) s m args below meth c D cI cR n K L ad 6 x μ 108 [(0, .ref (ad o)), (2, .int v2), (3, .int v3), (4, .int v4), (5, .int v5)] [] := by
  have hx := S.1
  have hb := S.2.1
  intro k
  induction k with
  | zero => intro v2 v3 v4 v5 μ hm; exact absurd (show none = some x from hm) (fun h => by cases h)
  | succ k ih =>
    intro v2 v3 v4 v5 μ hm H locs ls hP hS hl
    have hm : fX9_readsTable_108_b L o (fX9_readsTable_108 L o k) v2 v3 v4 v5 μ = some x := hm
    unfold fX9_readsTable_108_b at hm
    refine lv_iload hx hb dX9_readsTable_108 (lv_at hl 4 rfl) ?_
    refine lv_bipush (v := (16 : Int32)) hx hb dX9_readsTable_110 (by decide) ?_
    refine b_icmp_ge (tgt := 154) S dX9_readsTable_112 (by decide) hm (fun hm => ?_) (fun hm => ?_)
    · refine lv_aload_n hx hb dX9_readsTable_154 rfl (lv_at hl 0 rfl) ?_
      refine r_getr S hG hP ho clX9 fX9_16 kX9_37 dX9_readsTable_155 ?_
      refine lv_aload_n hx hb dX9_readsTable_158 rfl (lv_at hl 0 rfl) ?_
      refine r_geti S hG hP ho clX9 fX9_15 kX9_99 dX9_readsTable_159 ?_
      refine lv_iload_n hx hb dX9_readsTable_162 rfl (lv_at hl 1 rfl) ?_
      refine r_iast S hG hP hS (chX9_16 hG ho) hm dX9_readsTable_163 (fun μ3 H locs hm hP hS => ?_)
      refine lv_aload_n hx hb dX9_readsTable_164 rfl (lv_at hl 0 rfl) ?_
      refine r_getr S hG hP ho clX9 fX9_17 kX9_40 dX9_readsTable_165 ?_
      refine lv_aload_n hx hb dX9_readsTable_168 rfl (lv_at hl 0 rfl) ?_
      refine r_geti S hG hP ho clX9 fX9_15 kX9_99 dX9_readsTable_169 ?_
      refine lv_iload_n hx hb dX9_readsTable_172 rfl (lv_at hl 2 rfl) ?_
      refine r_iast S hG hP hS (chX9_17 hG ho) hm dX9_readsTable_173 (fun μ4 H locs hm hP hS => ?_)
      refine lv_aload_n hx hb dX9_readsTable_174 rfl (lv_at hl 0 rfl) ?_
      refine lv_dup hx hb dX9_readsTable_175 rfl ?_
      refine r_geti S hG hP ho clX9 fX9_15 kX9_99 dX9_readsTable_176 ?_
      refine lv_iconst (v := (1 : Int32)) hx hb dX9_readsTable_179 (by decide) ?_
      refine lv_iadd hx hb dX9_readsTable_180 ?_
      refine r_puti S hG hP hS ho clX9 fX9_15 kX9_99 hm dX9_readsTable_181 (fun μ5 H locs hm hP hS => ?_)
      refine lv_iload hx hb dX9_readsTable_184 (lv_at hl 3 rfl) ?_
      exact r_zret S hr hG hP hS hm dX9_readsTable_186
    · refine lv_aload_n hx hb dX9_readsTable_115 rfl (lv_at hl 0 rfl) ?_
      refine r_getr S hG hP ho clX9 fX9_19 kX9_43 dX9_readsTable_116 ?_
      refine lv_bipush (v := (24 : Int32)) hx hb dX9_readsTable_119 (by decide) ?_
      refine lv_bipush (v := (16 : Int32)) hx hb dX9_readsTable_121 (by decide) ?_
      refine lv_aload_n hx hb dX9_readsTable_123 rfl (lv_at hl 0 rfl) ?_
      refine r_geti S hG hP ho clX9 fX9_15 kX9_99 dX9_readsTable_124 ?_
      refine lv_imul hx hb dX9_readsTable_127 ?_
      refine lv_iadd hx hb dX9_readsTable_128 ?_
      refine lv_iload hx hb dX9_readsTable_129 (lv_at hl 4 rfl) ?_
      refine lv_iadd hx hb dX9_readsTable_131 ?_
      refine lv_iload hx hb dX9_readsTable_132 (lv_at hl 4 rfl) ?_
      refine lv_iconst (v := (5 : Int32)) hx hb dX9_readsTable_134 (by decide) ?_
      refine r_irem S hm dX9_readsTable_135 (fun hm => ?_)
      refine b_if_ne (tgt := 146) S dX9_readsTable_136 (by decide) hm (fun hm => ?_) (fun hm => ?_)
      · refine lv_iconst (v := (0 : Int32)) hx hb dX9_readsTable_146 (by decide) ?_
        exact wX9_readsTable_147 S hr hG ho ih v2 v3 v4 v5 (0 : Int32) (((24 : Int32) + ((16 : Int32) * (μ o 15))) + v5) μ hm H locs ls hP hS (lv_sub hl [0, 1, 2, 3, 4] rfl)
      · refine lv_aload_n hx hb dX9_readsTable_139 rfl (lv_at hl 0 rfl) ?_
        refine r_geti S hG hP ho clX9 fX9_20 kX9_75 dX9_readsTable_140 ?_
        refine lv_goto (tgt := 147) hx hb dX9_readsTable_143 (by decide) ?_
        exact wX9_readsTable_147 S hr hG ho ih v2 v3 v4 v5 (μ o 20) (((24 : Int32) + ((16 : Int32) * (μ o 15))) + v5) μ hm H locs ls hP hS (lv_sub hl [0, 1, 2, 3, 4] rfl)
set_option maxHeartbeats 4000000 in
set_option maxRecDepth 100000 in
theorem wX9_readsTable_90 (S : CallFix p m c cX9_readsTable 6 s args TB RX9) (hr : meth.sig.returnType = (some .boolean) ∧ meth.locks = false) (hG : gok D cI cR n K L ad s) {o : Nat} (ho : isk n K o 9) {x : Int32 × Mem} {self57 : Int32 → Int32 → Int32 → Mem → Option (Int32 × Mem)} (hs57 : ∀ (v2 v3 v4 : Int32) (μ : Mem), self57 v2 v3 v4 μ = some x → WI p l e (rmL 3) s m args below meth c D cI cR n K L ad 6 x μ 57 [(0, .ref (ad o)), (2, .int v2), (3, .int v3), (4, .int v4)] []) : ∀ (v2 v3 v4 : Int32) (μ : Mem), fX9_readsTable_90 L o self57 v2 v3 v4 μ = some x → WI p l e (rmL 3) s m args below meth c D cI cR n K L ad 6 x μ 90 [(0, .ref (ad o)), (2, .int v2), (3, .int v3), (4, .int v4)] [] := by
  have hx := S.1
  have hb := S.2.1
  intro v2 v3 v4 μ hm H locs ls hP hS hl
  unfold fX9_readsTable_90 at hm
  refine r_iinc (b := (1 : Int32)) (k := 3) S hm dX9_readsTable_90 hl rfl (by decide) (by decide) (fun a6 ls hm hl => ?_)
  have hl : lv_has ls 6 [(4, .int a6), (0, .ref (ad o)), (2, .int v2), (3, .int v3)] := hl
  refine lv_goto (tgt := 57) hx hb dX9_readsTable_93 (by decide) ?_
  exact hs57 v2 v3 a6 μ hm H locs ls hP hS (lv_sub hl [1, 2, 3, 0] rfl)
set_option maxHeartbeats 4000000 in
set_option maxRecDepth 100000 in
theorem wX9_readsTable_57 (S : CallFix p m c cX9_readsTable 6 s args TB RX9) (hr : meth.sig.returnType = (some .boolean) ∧ meth.locks = false) (hG : gok D cI cR n K L ad s) {o : Nat} (ho : isk n K o 9) {x : Int32 × Mem} : ∀ (k : Nat) (v2 v3 v4 : Int32) (μ : Mem), fX9_readsTable_57 L o k v2 v3 v4 μ = some x → WI p l e (rmL 3) s m args below meth c D cI cR n K L ad 6 x μ 57 [(0, .ref (ad o)), (2, .int v2), (3, .int v3), (4, .int v4)] [] := by
  have hx := S.1
  have hb := S.2.1
  intro k
  induction k with
  | zero => intro v2 v3 v4 μ hm; exact absurd (show none = some x from hm) (fun h => by cases h)
  | succ k ih =>
    intro v2 v3 v4 μ hm H locs ls hP hS hl
    have hm : fX9_readsTable_57_b L o (fX9_readsTable_57 L o k) v2 v3 v4 μ = some x := hm
    unfold fX9_readsTable_57_b at hm
    refine lv_iload hx hb dX9_readsTable_57 (lv_at hl 3 rfl) ?_
    refine lv_aload_n hx hb dX9_readsTable_59 rfl (lv_at hl 0 rfl) ?_
    refine r_geti S hG hP ho clX9 fX9_15 kX9_99 dX9_readsTable_60 ?_
    refine b_icmp_ge (tgt := 96) S dX9_readsTable_63 (by decide) hm (fun hm => ?_) (fun hm => ?_)
    · refine lv_aload_n hx hb dX9_readsTable_96 rfl (lv_at hl 0 rfl) ?_
      refine lv_iconst (v := (0 : Int32)) hx hb dX9_readsTable_97 (by decide) ?_
      refine lv_bipush (v := (99 : Int32)) hx hb dX9_readsTable_98 (by decide) ?_
      refine r_vcalli (As := [.int (0 : Int32), .int (99 : Int32)]) (rest := []) S hG hP hS mX9_more kX9_95 clX9 ho (tX9_more _ _ _ _ _ _ _ _ ho (0 : Int32) (99 : Int32)) ⟨rfl, rfl⟩ (rm_ok (by decide) (by decide)) hm hl.1 rfl (Nat.le_of_ble_eq_true rfl) ⟨Nat.zero_le _, Nat.zero_le _⟩ dX9_readsTable_100 (fun b8 μ7 H locs hm hP hS => ?_)
      refine lv_istore (lv' := [(4, .int b8), (0, .ref (ad o)), (2, .int v2), (3, .int v3)]) hx hb dX9_readsTable_103 hl (by decide) rfl (fun ls hl => ?_)
      refine lv_iconst (v := (0 : Int32)) hx hb dX9_readsTable_105 (by decide) ?_
      refine lv_istore (lv' := [(5, .int (0 : Int32)), (4, .int b8), (0, .ref (ad o)), (2, .int v2), (3, .int v3)]) hx hb dX9_readsTable_106 hl (by decide) rfl (fun ls hl => ?_)
      exact wX9_readsTable_108 S hr hG ho FU v2 v3 b8 (0 : Int32) μ7 hm H locs ls hP hS (lv_sub hl [2, 3, 4, 1, 0] rfl)
    · refine lv_aload_n hx hb dX9_readsTable_66 rfl (lv_at hl 0 rfl) ?_
      refine r_getr S hG hP ho clX9 fX9_16 kX9_37 dX9_readsTable_67 ?_
      refine lv_iload hx hb dX9_readsTable_70 (lv_at hl 3 rfl) ?_
      refine r_iald S hG hP (chX9_16 hG ho) hm dX9_readsTable_72 (fun a9 hm => ?_)
      refine lv_iload_n hx hb dX9_readsTable_73 rfl (lv_at hl 1 rfl) ?_
      refine b_icmp_ne (tgt := 90) S dX9_readsTable_74 (by decide) hm (fun hm => ?_) (fun hm => ?_)
      · exact wX9_readsTable_90 S hr hG ho ih v2 v3 v4 μ hm H locs ls hP hS (lv_sub hl [0, 1, 2, 3] rfl)
      · refine lv_aload_n hx hb dX9_readsTable_77 rfl (lv_at hl 0 rfl) ?_
        refine r_getr S hG hP ho clX9 fX9_17 kX9_40 dX9_readsTable_78 ?_
        refine lv_iload hx hb dX9_readsTable_81 (lv_at hl 3 rfl) ?_
        refine r_iald S hG hP (chX9_17 hG ho) hm dX9_readsTable_83 (fun a10 hm => ?_)
        refine lv_iload_n hx hb dX9_readsTable_84 rfl (lv_at hl 2 rfl) ?_
        refine b_icmp_ne (tgt := 90) S dX9_readsTable_85 (by decide) hm (fun hm => ?_) (fun hm => ?_)
        · exact wX9_readsTable_90 S hr hG ho ih v2 v3 v4 μ hm H locs ls hP hS (lv_sub hl [0, 1, 2, 3] rfl)
        · refine lv_iconst (v := (0 : Int32)) hx hb dX9_readsTable_88 (by decide) ?_
          exact r_zretC S hr hG hP hS rfl hm dX9_readsTable_89
set_option maxHeartbeats 4000000 in
set_option maxRecDepth 100000 in
theorem wX9_readsTable_0 (S : CallFix p m c cX9_readsTable 6 s args TB RX9) (hr : meth.sig.returnType = (some .boolean) ∧ meth.locks = false) (hG : gok D cI cR n K L ad s) {o : Nat} (ho : isk n K o 9) {x : Int32 × Mem} : ∀ (v1 : Int32) (μ : Mem), fX9_readsTable L o v1 μ = some x → WI p l e (rmL 3) s m args below meth c D cI cR n K L ad 6 x μ 0 [(0, .ref (ad o)), (1, .int v1)] [] := by
  have hx := S.1
  have hb := S.2.1
  intro v1 μ hm H locs ls hP hS hl
  unfold fX9_readsTable at hm
  refine lv_aload_n hx hb dX9_readsTable_0 rfl (lv_at hl 0 rfl) ?_
  refine r_geti S hG hP ho clX9 fX9_15 kX9_99 dX9_readsTable_1 ?_
  refine lv_bipush (v := (9 : Int32)) hx hb dX9_readsTable_4 (by decide) ?_
  refine b_icmp_eq (tgt := 24) S dX9_readsTable_6 (by decide) hm (fun hm => ?_) (fun hm => ?_)
  · refine lv_iconst (v := (0 : Int32)) hx hb dX9_readsTable_24 (by decide) ?_
    exact r_zretC S hr hG hP hS rfl hm dX9_readsTable_25
  · refine lv_aload_n hx hb dX9_readsTable_9 rfl (lv_at hl 0 rfl) ?_
    refine lv_iload_n hx hb dX9_readsTable_10 rfl (lv_at hl 1 rfl) ?_
    refine lv_iconst (v := (0 : Int32)) hx hb dX9_readsTable_11 (by decide) ?_
    refine lv_aload_n hx hb dX9_readsTable_12 rfl (lv_at hl 0 rfl) ?_
    refine r_geti S hG hP ho clX9 fX9_13 kX9_92 dX9_readsTable_13 ?_
    refine lv_iconst (v := (1 : Int32)) hx hb dX9_readsTable_16 (by decide) ?_
    refine lv_isub hx hb dX9_readsTable_17 ?_
    refine r_vcalli (As := [.int v1, .int (0 : Int32), .int ((μ o 13) - (1 : Int32))]) (rest := []) S hG hP hS mX9_number kX9_89 clX9 ho (tX9_number _ _ _ _ _ _ _ _ ho v1 (0 : Int32) ((μ o 13) - (1 : Int32))) ⟨rfl, rfl⟩ (rm_ok (by decide) (by decide)) hm hl.1 rfl (Nat.le_of_ble_eq_true rfl) ⟨Nat.zero_le _, Nat.zero_le _⟩ dX9_readsTable_18 (fun b12 μ11 H locs hm hP hS => ?_)
    refine b_if_ne (tgt := 26) S dX9_readsTable_21 (by decide) hm (fun hm => ?_) (fun hm => ?_)
    · refine lv_aload_n hx hb dX9_readsTable_26 rfl (lv_at hl 0 rfl) ?_
      refine r_geti S hG hP ho clX9 fX9_20 kX9_75 dX9_readsTable_27 ?_
      refine r_top hm (fun a13 hm => ?_)
      refine lv_istore_n (lv' := [(2, .int a13), (0, .ref (ad o)), (1, .int v1)]) hx hb dX9_readsTable_30 rfl hl (by decide) rfl (fun ls hl => ?_)
      refine lv_aload_n hx hb dX9_readsTable_31 rfl (lv_at hl 1 rfl) ?_
      refine lv_iload_n hx hb dX9_readsTable_32 rfl (lv_at hl 0 rfl) ?_
      refine lv_iconst (v := (1 : Int32)) hx hb dX9_readsTable_33 (by decide) ?_
      refine lv_iadd hx hb dX9_readsTable_34 ?_
      refine lv_aload_n hx hb dX9_readsTable_35 rfl (lv_at hl 1 rfl) ?_
      refine r_geti S hG hP ho clX9 fX9_13 kX9_92 dX9_readsTable_36 ?_
      refine lv_iconst (v := (1 : Int32)) hx hb dX9_readsTable_39 (by decide) ?_
      refine lv_isub hx hb dX9_readsTable_40 ?_
      refine r_vcalli (As := [.int (a13 + (1 : Int32)), .int ((μ11 o 13) - (1 : Int32))]) (rest := []) S hG hP hS mX9_more kX9_95 clX9 ho (tX9_more _ _ _ _ _ _ _ _ ho (a13 + (1 : Int32)) ((μ11 o 13) - (1 : Int32))) ⟨rfl, rfl⟩ (rm_ok (by decide) (by decide)) hm hl.1 rfl (Nat.le_of_ble_eq_true rfl) ⟨Nat.zero_le _, Nat.zero_le _⟩ dX9_readsTable_41 (fun b15 μ14 H locs hm hP hS => ?_)
      refine b_if_ne (tgt := 49) S dX9_readsTable_44 (by decide) hm (fun hm => ?_) (fun hm => ?_)
      · refine lv_aload_n hx hb dX9_readsTable_49 rfl (lv_at hl 1 rfl) ?_
        refine r_geti S hG hP ho clX9 fX9_20 kX9_75 dX9_readsTable_50 ?_
        refine r_top hm (fun a16 hm => ?_)
        refine lv_istore_n (lv' := [(3, .int a16), (2, .int a13), (0, .ref (ad o)), (1, .int v1)]) hx hb dX9_readsTable_53 rfl hl (by decide) rfl (fun ls hl => ?_)
        refine lv_iconst (v := (0 : Int32)) hx hb dX9_readsTable_54 (by decide) ?_
        refine lv_istore (lv' := [(4, .int (0 : Int32)), (3, .int a16), (2, .int a13), (0, .ref (ad o)), (1, .int v1)]) hx hb dX9_readsTable_55 hl (by decide) rfl (fun ls hl => ?_)
        exact wX9_readsTable_57 S hr hG ho FU a13 a16 (0 : Int32) μ14 hm H locs ls hP hS (lv_sub hl [3, 2, 1, 0] rfl)
      · refine lv_iconst (v := (0 : Int32)) hx hb dX9_readsTable_47 (by decide) ?_
        exact r_zretC S hr hG hP hS rfl hm dX9_readsTable_48
    · refine lv_iconst (v := (0 : Int32)) hx hb dX9_readsTable_24 (by decide) ?_
      exact r_zretC S hr hG hP hS rfl hm dX9_readsTable_25
theorem tX9_readsTable (l : Launch) (D : va_G) (cI cR : ClassId) (n : Nat) (K L ad : Nat → Nat) {o : Nat} (ho : isk n K o 9) (v1 : Int32) : Ci l yX9_readsTable cX9_readsTable 6 (some .boolean) (rmL 3) D cI cR n K L ad [.ref (ad o), .int v1] (fX9_readsTable L o v1) := by
  refine Ci.ofW (by decide) (Nat.le_of_ble_eq_true rfl) ?_
  intro μ x hm p e s m args below meth c ls S hr hG hP hS hl
  exact wX9_readsTable_0 S hr hG ho v1 μ hm _ _ ls hP hS hl
-- X9_readsPair
set_option maxHeartbeats 4000000 in
set_option maxRecDepth 100000 in
theorem wX9_readsPair_0 (S : CallFix p m c cX9_readsPair 6 s args TB RX9) (hr : meth.sig.returnType = (some .boolean) ∧ meth.locks = false) (hG : gok D cI cR n K L ad s) {o : Nat} (ho : isk n K o 9) {x : Int32 × Mem} : ∀ (v1 : Int32) (μ : Mem), fX9_readsPair L o v1 μ = some x → WI p l e (rmL 3) s m args below meth c D cI cR n K L ad 6 x μ 0 [(0, .ref (ad o)), (1, .int v1)] [] := by
  have hx := S.1
  have hb := S.2.1
  intro v1 μ hm H locs ls hP hS hl
  unfold fX9_readsPair at hm
  refine lv_aload_n hx hb dX9_readsPair_0 rfl (lv_at hl 0 rfl) ?_
  refine lv_iload_n hx hb dX9_readsPair_1 rfl (lv_at hl 1 rfl) ?_
  refine lv_iconst (v := (0 : Int32)) hx hb dX9_readsPair_2 (by decide) ?_
  refine lv_aload_n hx hb dX9_readsPair_3 rfl (lv_at hl 0 rfl) ?_
  refine r_geti S hG hP ho clX9 fX9_15 kX9_99 dX9_readsPair_4 ?_
  refine lv_iconst (v := (1 : Int32)) hx hb dX9_readsPair_7 (by decide) ?_
  refine lv_isub hx hb dX9_readsPair_8 ?_
  refine r_vcalli (As := [.int v1, .int (0 : Int32), .int ((μ o 15) - (1 : Int32))]) (rest := []) S hG hP hS mX9_number kX9_89 clX9 ho (tX9_number _ _ _ _ _ _ _ _ ho v1 (0 : Int32) ((μ o 15) - (1 : Int32))) ⟨rfl, rfl⟩ (rm_ok (by decide) (by decide)) hm hl.1 rfl (Nat.le_of_ble_eq_true rfl) ⟨Nat.zero_le _, Nat.zero_le _⟩ dX9_readsPair_9 (fun b2 μ1 H locs hm hP hS => ?_)
  refine b_if_ne (tgt := 17) S dX9_readsPair_12 (by decide) hm (fun hm => ?_) (fun hm => ?_)
  · refine lv_aload_n hx hb dX9_readsPair_17 rfl (lv_at hl 0 rfl) ?_
    refine r_geti S hG hP ho clX9 fX9_20 kX9_75 dX9_readsPair_18 ?_
    refine r_top hm (fun a3 hm => ?_)
    refine lv_istore_n (lv' := [(2, .int a3), (0, .ref (ad o)), (1, .int v1)]) hx hb dX9_readsPair_21 rfl hl (by decide) rfl (fun ls hl => ?_)
    refine lv_aload_n hx hb dX9_readsPair_22 rfl (lv_at hl 1 rfl) ?_
    refine lv_iconst (v := (0 : Int32)) hx hb dX9_readsPair_23 (by decide) ?_
    refine lv_aload_n hx hb dX9_readsPair_24 rfl (lv_at hl 1 rfl) ?_
    refine r_getr S hG hP ho clX9 fX9_14 kX9_34 dX9_readsPair_25 ?_
    refine lv_aload_n hx hb dX9_readsPair_28 rfl (lv_at hl 1 rfl) ?_
    refine r_getr S hG hP ho clX9 fX9_16 kX9_37 dX9_readsPair_29 ?_
    refine lv_iload_n hx hb dX9_readsPair_32 rfl (lv_at hl 0 rfl) ?_
    refine r_iald S hG hP (chX9_16 hG ho) hm dX9_readsPair_33 (fun a4 hm => ?_)
    refine r_iald S hG hP (chX9_14 hG ho) hm dX9_readsPair_34 (fun a5 hm => ?_)
    refine lv_iconst (v := (1 : Int32)) hx hb dX9_readsPair_35 (by decide) ?_
    refine lv_isub hx hb dX9_readsPair_36 ?_
    refine r_vcalli (As := [.int (0 : Int32), .int (a5 - (1 : Int32))]) (rest := []) S hG hP hS mX9_more kX9_95 clX9 ho (tX9_more _ _ _ _ _ _ _ _ ho (0 : Int32) (a5 - (1 : Int32))) ⟨rfl, rfl⟩ (rm_ok (by decide) (by decide)) hm hl.1 rfl (Nat.le_of_ble_eq_true rfl) ⟨Nat.zero_le _, Nat.zero_le _⟩ dX9_readsPair_37 (fun b7 μ6 H locs hm hP hS => ?_)
    refine b_if_ne (tgt := 45) S dX9_readsPair_40 (by decide) hm (fun hm => ?_) (fun hm => ?_)
    · refine lv_aload_n hx hb dX9_readsPair_45 rfl (lv_at hl 1 rfl) ?_
      refine r_geti S hG hP ho clX9 fX9_20 kX9_75 dX9_readsPair_46 ?_
      refine r_top hm (fun a8 hm => ?_)
      refine lv_istore_n (lv' := [(3, .int a8), (2, .int a3), (0, .ref (ad o)), (1, .int v1)]) hx hb dX9_readsPair_49 rfl hl (by decide) rfl (fun ls hl => ?_)
      refine lv_aload_n hx hb dX9_readsPair_50 rfl (lv_at hl 2 rfl) ?_
      refine lv_iconst (v := (0 : Int32)) hx hb dX9_readsPair_51 (by decide) ?_
      refine lv_aload_n hx hb dX9_readsPair_52 rfl (lv_at hl 2 rfl) ?_
      refine r_getr S hG hP ho clX9 fX9_14 kX9_34 dX9_readsPair_53 ?_
      refine lv_aload_n hx hb dX9_readsPair_56 rfl (lv_at hl 2 rfl) ?_
      refine r_getr S hG hP ho clX9 fX9_17 kX9_40 dX9_readsPair_57 ?_
      refine lv_iload_n hx hb dX9_readsPair_60 rfl (lv_at hl 1 rfl) ?_
      refine r_iald S hG hP (chX9_17 hG ho) hm dX9_readsPair_61 (fun a9 hm => ?_)
      refine r_iald S hG hP (chX9_14 hG ho) hm dX9_readsPair_62 (fun a10 hm => ?_)
      refine lv_iconst (v := (1 : Int32)) hx hb dX9_readsPair_63 (by decide) ?_
      refine lv_isub hx hb dX9_readsPair_64 ?_
      refine r_vcalli (As := [.int (0 : Int32), .int (a10 - (1 : Int32))]) (rest := []) S hG hP hS mX9_more kX9_95 clX9 ho (tX9_more _ _ _ _ _ _ _ _ ho (0 : Int32) (a10 - (1 : Int32))) ⟨rfl, rfl⟩ (rm_ok (by decide) (by decide)) hm hl.1 rfl (Nat.le_of_ble_eq_true rfl) ⟨Nat.zero_le _, Nat.zero_le _⟩ dX9_readsPair_65 (fun b12 μ11 H locs hm hP hS => ?_)
      refine b_if_ne (tgt := 73) S dX9_readsPair_68 (by decide) hm (fun hm => ?_) (fun hm => ?_)
      · refine lv_bipush (v := (24 : Int32)) hx hb dX9_readsPair_73 (by decide) ?_
        refine lv_bipush (v := (16 : Int32)) hx hb dX9_readsPair_75 (by decide) ?_
        refine lv_iload_n hx hb dX9_readsPair_77 rfl (lv_at hl 1 rfl) ?_
        refine lv_imul hx hb dX9_readsPair_78 ?_
        refine lv_iadd hx hb dX9_readsPair_79 ?_
        refine lv_iconst (v := (4 : Int32)) hx hb dX9_readsPair_80 (by decide) ?_
        refine lv_iload_n hx hb dX9_readsPair_81 rfl (lv_at hl 0 rfl) ?_
        refine lv_imul hx hb dX9_readsPair_82 ?_
        refine lv_iadd hx hb dX9_readsPair_83 ?_
        refine lv_aload_n hx hb dX9_readsPair_84 rfl (lv_at hl 2 rfl) ?_
        refine r_geti S hG hP ho clX9 fX9_20 kX9_75 dX9_readsPair_85 ?_
        refine lv_iadd hx hb dX9_readsPair_88 ?_
        refine r_top hm (fun a13 hm => ?_)
        refine lv_istore (lv' := [(4, .int a13), (3, .int a8), (2, .int a3), (0, .ref (ad o)), (1, .int v1)]) hx hb dX9_readsPair_89 hl (by decide) rfl (fun ls hl => ?_)
        refine lv_aload_n hx hb dX9_readsPair_91 rfl (lv_at hl 3 rfl) ?_
        refine lv_iconst (v := (0 : Int32)) hx hb dX9_readsPair_92 (by decide) ?_
        refine lv_bipush (v := (99 : Int32)) hx hb dX9_readsPair_93 (by decide) ?_
        refine r_vcalli (As := [.int (0 : Int32), .int (99 : Int32)]) (rest := []) S hG hP hS mX9_more kX9_95 clX9 ho (tX9_more _ _ _ _ _ _ _ _ ho (0 : Int32) (99 : Int32)) ⟨rfl, rfl⟩ (rm_ok (by decide) (by decide)) hm hl.1 rfl (Nat.le_of_ble_eq_true rfl) ⟨Nat.zero_le _, Nat.zero_le _⟩ dX9_readsPair_95 (fun b15 μ14 H locs hm hP hS => ?_)
        refine lv_istore (lv' := [(5, .int b15), (4, .int a13), (3, .int a8), (2, .int a3), (0, .ref (ad o)), (1, .int v1)]) hx hb dX9_readsPair_98 hl (by decide) rfl (fun ls hl => ?_)
        refine lv_aload_n hx hb dX9_readsPair_100 rfl (lv_at hl 4 rfl) ?_
        refine r_getr S hG hP ho clX9 fX9_19 kX9_43 dX9_readsPair_101 ?_
        refine lv_iload hx hb dX9_readsPair_104 (lv_at hl 1 rfl) ?_
        refine lv_aload_n hx hb dX9_readsPair_106 rfl (lv_at hl 4 rfl) ?_
        refine r_geti S hG hP ho clX9 fX9_20 kX9_75 dX9_readsPair_107 ?_
        refine r_iast S hG hP hS (chX9_19 hG ho) hm dX9_readsPair_110 (fun μ16 H locs hm hP hS => ?_)
        refine lv_iload hx hb dX9_readsPair_111 (lv_at hl 0 rfl) ?_
        exact r_zret S hr hG hP hS hm dX9_readsPair_113
      · refine lv_iconst (v := (0 : Int32)) hx hb dX9_readsPair_71 (by decide) ?_
        exact r_zretC S hr hG hP hS rfl hm dX9_readsPair_72
    · refine lv_iconst (v := (0 : Int32)) hx hb dX9_readsPair_43 (by decide) ?_
      exact r_zretC S hr hG hP hS rfl hm dX9_readsPair_44
  · refine lv_iconst (v := (0 : Int32)) hx hb dX9_readsPair_15 (by decide) ?_
    exact r_zretC S hr hG hP hS rfl hm dX9_readsPair_16
theorem tX9_readsPair (l : Launch) (D : va_G) (cI cR : ClassId) (n : Nat) (K L ad : Nat → Nat) {o : Nat} (ho : isk n K o 9) (v1 : Int32) : Ci l yX9_readsPair cX9_readsPair 6 (some .boolean) (rmL 3) D cI cR n K L ad [.ref (ad o), .int v1] (fX9_readsPair L o v1) := by
  refine Ci.ofW (by decide) (Nat.le_of_ble_eq_true rfl) ?_
  intro μ x hm p e s m args below meth c ls S hr hG hP hS hl
  exact wX9_readsPair_0 S hr hG ho v1 μ hm _ _ ls hP hS hl
-- X9_readsItem
set_option maxHeartbeats 4000000 in
set_option maxRecDepth 100000 in
theorem wX9_readsItem_0 (S : CallFix p m c cX9_readsItem 4 s args TB RX9) (hr : meth.sig.returnType = (some .boolean) ∧ meth.locks = false) (hG : gok D cI cR n K L ad s) {o : Nat} (ho : isk n K o 9) {x : Int32 × Mem} : ∀ (v1 v2 : Int32) (μ : Mem), fX9_readsItem L o v1 v2 μ = some x → WI p l e (rmL 4) s m args below meth c D cI cR n K L ad 4 x μ 0 [(0, .ref (ad o)), (1, .int v1), (2, .int v2)] [] := by
  have hx := S.1
  have hb := S.2.1
  intro v1 v2 μ hm H locs ls hP hS hl
  unfold fX9_readsItem at hm
  refine lv_iload_n hx hb dX9_readsItem_0 rfl (lv_at hl 1 rfl) ?_
  refine b_sw (k := (98 : Int32)) hm (fun hv1_0 hm => ?_) (fun hv1_0 hm => ?_)
  · refine lv_lookup (off := 82) (tgt := 83) hx hb dX9_readsItem_1 (by decide) (by rw [hv1_0] <;> rfl) (by decide) ?_
    refine lv_aload_n hx hb dX9_readsItem_83 rfl (lv_at hl 0 rfl) ?_
    refine lv_iload_n hx hb dX9_readsItem_84 rfl (lv_at hl 2 rfl) ?_
    refine r_vcalli (As := [.int v2]) (rest := []) S hG hP hS mX9_readsTable kX9_112 clX9 ho (tX9_readsTable _ _ _ _ _ _ _ _ ho v2) ⟨rfl, rfl⟩ (rm_ok (by decide) (by decide)) hm hl.1 rfl (Nat.le_of_ble_eq_true rfl) ⟨Nat.zero_le _, Nat.zero_le _⟩ dX9_readsItem_85 (fun b2 μ1 H locs hm hP hS => ?_)
    exact r_zret S hr hG hP hS hm dX9_readsItem_88
  · refine b_sw (k := (99 : Int32)) hm (fun hv1_1 hm => ?_) (fun hv1_1 hm => ?_)
    · refine lv_lookup (off := 88) (tgt := 89) hx hb dX9_readsItem_1 (by decide) (by rw [hv1_1] <;> rfl) (by decide) ?_
      refine lv_aload_n hx hb dX9_readsItem_89 rfl (lv_at hl 0 rfl) ?_
      refine lv_iload_n hx hb dX9_readsItem_90 rfl (lv_at hl 2 rfl) ?_
      refine r_vcalli (As := [.int v2]) (rest := []) S hG hP hS mX9_readsPair kX9_115 clX9 ho (tX9_readsPair _ _ _ _ _ _ _ _ ho v2) ⟨rfl, rfl⟩ (rm_ok (by decide) (by decide)) hm hl.1 rfl (Nat.le_of_ble_eq_true rfl) ⟨Nat.zero_le _, Nat.zero_le _⟩ dX9_readsItem_91 (fun b4 μ3 H locs hm hP hS => ?_)
      exact r_zret S hr hG hP hS hm dX9_readsItem_94
    · refine b_sw (k := (116 : Int32)) hm (fun hv1_2 hm => ?_) (fun hv1_2 hm => ?_)
      · refine lv_lookup (off := 51) (tgt := 52) hx hb dX9_readsItem_1 (by decide) (by rw [hv1_2] <;> rfl) (by decide) ?_
        refine lv_aload_n hx hb dX9_readsItem_52 rfl (lv_at hl 0 rfl) ?_
        refine lv_iload_n hx hb dX9_readsItem_53 rfl (lv_at hl 2 rfl) ?_
        refine lv_iconst (v := (1 : Int32)) hx hb dX9_readsItem_54 (by decide) ?_
        refine lv_bipush (v := (99 : Int32)) hx hb dX9_readsItem_55 (by decide) ?_
        refine r_vcalli (As := [.int v2, .int (1 : Int32), .int (99 : Int32)]) (rest := []) S hG hP hS mX9_number kX9_89 clX9 ho (tX9_number _ _ _ _ _ _ _ _ ho v2 (1 : Int32) (99 : Int32)) ⟨rfl, rfl⟩ (rm_ok (by decide) (by decide)) hm hl.1 rfl (Nat.le_of_ble_eq_true rfl) ⟨Nat.zero_le _, Nat.zero_le _⟩ dX9_readsItem_57 (fun b6 μ5 H locs hm hP hS => ?_)
        refine lv_istore_n (lv' := [(3, .int b6), (0, .ref (ad o)), (1, .int v1), (2, .int v2)]) hx hb dX9_readsItem_60 rfl hl (by decide) rfl (fun ls hl => ?_)
        refine lv_aload_n hx hb dX9_readsItem_61 rfl (lv_at hl 1 rfl) ?_
        refine lv_aload_n hx hb dX9_readsItem_62 rfl (lv_at hl 1 rfl) ?_
        refine r_geti S hG hP ho clX9 fX9_20 kX9_75 dX9_readsItem_63 ?_
        refine r_puti S hG hP hS ho clX9 fX9_18 kX9_102 hm dX9_readsItem_66 (fun μ7 H locs hm hP hS => ?_)
        refine lv_iload_n hx hb dX9_readsItem_69 rfl (lv_at hl 0 rfl) ?_
        exact r_zret S hr hG hP hS hm dX9_readsItem_70
      · refine b_sw (k := (117 : Int32)) hm (fun hv1_3 hm => ?_) (fun hv1_3 hm => ?_)
        · refine lv_lookup (off := 76) (tgt := 77) hx hb dX9_readsItem_1 (by decide) (by rw [hv1_3] <;> rfl) (by decide) ?_
          refine lv_aload_n hx hb dX9_readsItem_77 rfl (lv_at hl 0 rfl) ?_
          refine lv_iload_n hx hb dX9_readsItem_78 rfl (lv_at hl 2 rfl) ?_
          refine r_vcalli (As := [.int v2]) (rest := []) S hG hP hS mX9_readsSingle kX9_109 clX9 ho (tX9_readsSingle _ _ _ _ _ _ _ _ ho v2) ⟨rfl, rfl⟩ (rm_ok (by decide) (by decide)) hm hl.1 rfl (Nat.le_of_ble_eq_true rfl) ⟨Nat.zero_le _, Nat.zero_le _⟩ dX9_readsItem_79 (fun b9 μ8 H locs hm hP hS => ?_)
          exact r_zret S hr hG hP hS hm dX9_readsItem_82
        · refine b_sw (k := (118 : Int32)) hm (fun hv1_4 hm => ?_) (fun hv1_4 hm => ?_)
          · refine lv_lookup (off := 70) (tgt := 71) hx hb dX9_readsItem_1 (by decide) (by rw [hv1_4] <;> rfl) (by decide) ?_
            refine lv_aload_n hx hb dX9_readsItem_71 rfl (lv_at hl 0 rfl) ?_
            refine lv_iload_n hx hb dX9_readsItem_72 rfl (lv_at hl 2 rfl) ?_
            refine r_vcalli (As := [.int v2]) (rest := []) S hG hP hS mX9_readsName kX9_105 clX9 ho (tX9_readsName _ _ _ _ _ _ _ _ ho v2) ⟨rfl, rfl⟩ (rm_ok (by decide) (by decide)) hm hl.1 rfl (Nat.le_of_ble_eq_true rfl) ⟨Nat.zero_le _, Nat.zero_le _⟩ dX9_readsItem_73 (fun b11 μ10 H locs hm hP hS => ?_)
            exact r_zret S hr hG hP hS hm dX9_readsItem_76
          · refine lv_lookup (off := 94) (tgt := 95) hx hb dX9_readsItem_1 (by decide) ((lv_osw hv1_0 rfl).trans ((lv_osw hv1_1 rfl).trans ((lv_osw hv1_2 rfl).trans ((lv_osw hv1_3 rfl).trans ((lv_osw hv1_4 rfl).trans rfl))))) (by decide) ?_
            refine lv_iconst (v := (0 : Int32)) hx hb dX9_readsItem_95 (by decide) ?_
            exact r_zretC S hr hG hP hS rfl hm dX9_readsItem_96
theorem tX9_readsItem (l : Launch) (D : va_G) (cI cR : ClassId) (n : Nat) (K L ad : Nat → Nat) {o : Nat} (ho : isk n K o 9) (v1 : Int32) (v2 : Int32) : Ci l yX9_readsItem cX9_readsItem 4 (some .boolean) (rmL 4) D cI cR n K L ad [.ref (ad o), .int v1, .int v2] (fX9_readsItem L o v1 v2) := by
  refine Ci.ofW (by decide) (Nat.le_of_ble_eq_true rfl) ?_
  intro μ x hm p e s m args below meth c ls S hr hG hP hS hl
  exact wX9_readsItem_0 S hr hG ho v1 v2 μ hm _ _ ls hP hS hl
-- X9_reads
set_option maxHeartbeats 4000000 in
set_option maxRecDepth 100000 in
theorem wX9_reads_40 (S : CallFix p m c cX9_reads 2 s args TB RX9) (hr : meth.sig.returnType = (some .int) ∧ meth.locks = false) (hG : gok D cI cR n K L ad s) {o : Nat} (ho : isk n K o 9) {x : Int32 × Mem} : ∀ (k : Nat) (v1 : Int32) (μ : Mem), fX9_reads_40 L o k v1 μ = some x → WI p l e (rmL 5) s m args below meth c D cI cR n K L ad 2 x μ 40 [(0, .ref (ad o)), (1, .int v1)] [] := by
  have hx := S.1
  have hb := S.2.1
  intro k
  induction k with
  | zero => intro v1 μ hm; exact absurd (show none = some x from hm) (fun h => by cases h)
  | succ k ih =>
    intro v1 μ hm H locs ls hP hS hl
    have hm : fX9_reads_40_b L o (fX9_reads_40 L o k) v1 μ = some x := hm
    unfold fX9_reads_40_b at hm
    refine lv_iload_n hx hb dX9_reads_40 rfl (lv_at hl 1 rfl) ?_
    refine lv_aload_n hx hb dX9_reads_41 rfl (lv_at hl 0 rfl) ?_
    refine r_geti S hG hP ho clX9 fX9_0 kX9_72 dX9_reads_42 ?_
    refine b_icmp_ge (tgt := 89) S dX9_reads_45 (by decide) hm (fun hm => ?_) (fun hm => ?_)
    · refine lv_bipush (v := (-4 : Int32)) hx hb dX9_reads_89 (by decide) ?_
      exact r_iret S hr hG hP hS hm dX9_reads_91
    · refine lv_aload_n hx hb dX9_reads_48 rfl (lv_at hl 0 rfl) ?_
      refine lv_aload_n hx hb dX9_reads_49 rfl (lv_at hl 0 rfl) ?_
      refine r_getr S hG hP ho clX9 fX9_1 kX9_7 dX9_reads_50 ?_
      refine lv_iload_n hx hb dX9_reads_53 rfl (lv_at hl 1 rfl) ?_
      refine r_iald S hG hP (chX9_1 hG ho) hm dX9_reads_54 (fun a1 hm => ?_)
      refine lv_iload_n hx hb dX9_reads_55 rfl (lv_at hl 1 rfl) ?_
      refine lv_iconst (v := (1 : Int32)) hx hb dX9_reads_56 (by decide) ?_
      refine lv_iadd hx hb dX9_reads_57 ?_
      refine r_vcalli (As := [.int a1, .int (v1 + (1 : Int32))]) (rest := []) S hG hP hS mX9_readsItem kX9_118 clX9 ho (tX9_readsItem _ _ _ _ _ _ _ _ ho a1 (v1 + (1 : Int32))) ⟨rfl, rfl⟩ (rm_ok (by decide) (by decide)) hm hl.1 rfl (Nat.le_of_ble_eq_true rfl) ⟨Nat.zero_le _, Nat.zero_le _⟩ dX9_reads_58 (fun b3 μ2 H locs hm hP hS => ?_)
      refine b_if_eq (tgt := 77) S dX9_reads_61 (by decide) hm (fun hm => ?_) (fun hm => ?_)
      · refine lv_iload_n hx hb dX9_reads_77 rfl (lv_at hl 1 rfl) ?_
        exact r_iret S hr hG hP hS hm dX9_reads_78
      · refine lv_aload_n hx hb dX9_reads_64 rfl (lv_at hl 0 rfl) ?_
        refine lv_aload_n hx hb dX9_reads_65 rfl (lv_at hl 0 rfl) ?_
        refine r_geti S hG hP ho clX9 fX9_21 kX9_82 dX9_reads_66 ?_
        refine r_vcalli (As := [.int (μ2 o 21)]) (rest := []) S hG hP hS mX9_letterAt kX9_78 clX9 ho (tX9_letterAt _ _ _ _ _ _ _ _ ho (μ2 o 21)) ⟨rfl, rfl⟩ (rm_ok (by decide) (by decide)) hm hl.1 rfl (Nat.le_of_ble_eq_true rfl) ⟨Nat.zero_le _, Nat.zero_le _⟩ dX9_reads_69 (fun b5 μ4 H locs hm hP hS => ?_)
        refine lv_bipush (v := (59 : Int32)) hx hb dX9_reads_72 (by decide) ?_
        refine b_icmp_eq (tgt := 79) S dX9_reads_74 (by decide) hm (fun hm => ?_) (fun hm => ?_)
        · refine lv_aload_n hx hb dX9_reads_79 rfl (lv_at hl 0 rfl) ?_
          refine r_geti S hG hP ho clX9 fX9_21 kX9_82 dX9_reads_80 ?_
          refine lv_iconst (v := (1 : Int32)) hx hb dX9_reads_83 (by decide) ?_
          refine lv_iadd hx hb dX9_reads_84 ?_
          refine r_top hm (fun a6 hm => ?_)
          refine lv_istore_n (lv' := [(1, .int a6), (0, .ref (ad o))]) hx hb dX9_reads_85 rfl hl (by decide) rfl (fun ls hl => ?_)
          refine lv_goto (tgt := 40) hx hb dX9_reads_86 (by decide) ?_
          exact ih a6 μ4 hm H locs ls hP hS (lv_sub hl [1, 0] rfl)
        · refine lv_iload_n hx hb dX9_reads_77 rfl (lv_at hl 1 rfl) ?_
          exact r_iret S hr hG hP hS hm dX9_reads_78
set_option maxHeartbeats 4000000 in
set_option maxRecDepth 100000 in
theorem wX9_reads_18 (S : CallFix p m c cX9_reads 2 s args TB RX9) (hr : meth.sig.returnType = (some .int) ∧ meth.locks = false) (hG : gok D cI cR n K L ad s) {o : Nat} (ho : isk n K o 9) {x : Int32 × Mem} : ∀ (k : Nat) (v1 : Int32) (μ : Mem), fX9_reads_18 L o k v1 μ = some x → WI p l e (rmL 5) s m args below meth c D cI cR n K L ad 2 x μ 18 [(0, .ref (ad o)), (1, .int v1)] [] := by
  have hx := S.1
  have hb := S.2.1
  intro k
  induction k with
  | zero => intro v1 μ hm; exact absurd (show none = some x from hm) (fun h => by cases h)
  | succ k ih =>
    intro v1 μ hm H locs ls hP hS hl
    have hm : fX9_reads_18_b L o (fX9_reads_18 L o k) v1 μ = some x := hm
    unfold fX9_reads_18_b at hm
    refine lv_iload_n hx hb dX9_reads_18 rfl (lv_at hl 1 rfl) ?_
    refine lv_sipush (v := (169 : Int32)) hx hb dX9_reads_19 (by decide) ?_
    refine b_icmp_ge (tgt := 38) S dX9_reads_22 (by decide) hm (fun hm => ?_) (fun hm => ?_)
    · refine lv_iconst (v := (0 : Int32)) hx hb dX9_reads_38 (by decide) ?_
      refine lv_istore_n (lv' := [(1, .int (0 : Int32)), (0, .ref (ad o))]) hx hb dX9_reads_39 rfl hl (by decide) rfl (fun ls hl => ?_)
      exact wX9_reads_40 S hr hG ho FU (0 : Int32) μ hm H locs ls hP hS (lv_sub hl [1, 0] rfl)
    · refine lv_aload_n hx hb dX9_reads_25 rfl (lv_at hl 0 rfl) ?_
      refine r_getr S hG hP ho clX9 fX9_19 kX9_43 dX9_reads_26 ?_
      refine lv_iload_n hx hb dX9_reads_29 rfl (lv_at hl 1 rfl) ?_
      refine lv_iconst (v := (0 : Int32)) hx hb dX9_reads_30 (by decide) ?_
      refine r_iast S hG hP hS (chX9_19 hG ho) hm dX9_reads_31 (fun μ7 H locs hm hP hS => ?_)
      refine r_iinc (b := (1 : Int32)) (k := 1) S hm dX9_reads_32 hl rfl (by decide) (by decide) (fun a8 ls hm hl => ?_)
      have hl : lv_has ls 2 [(1, .int a8), (0, .ref (ad o))] := hl
      refine lv_goto (tgt := 18) hx hb dX9_reads_35 (by decide) ?_
      exact ih a8 μ7 hm H locs ls hP hS (lv_sub hl [1, 0] rfl)
set_option maxHeartbeats 4000000 in
set_option maxRecDepth 100000 in
theorem wX9_reads_0 (S : CallFix p m c cX9_reads 2 s args TB RX9) (hr : meth.sig.returnType = (some .int) ∧ meth.locks = false) (hG : gok D cI cR n K L ad s) {o : Nat} (ho : isk n K o 9) {x : Int32 × Mem} : ∀ (μ : Mem), fX9_reads L o μ = some x → WI p l e (rmL 5) s m args below meth c D cI cR n K L ad 2 x μ 0 [(0, .ref (ad o))] [] := by
  have hx := S.1
  have hb := S.2.1
  intro μ hm H locs ls hP hS hl
  unfold fX9_reads at hm
  refine lv_aload_n hx hb dX9_reads_0 rfl (lv_at hl 0 rfl) ?_
  refine lv_iconst (v := (0 : Int32)) hx hb dX9_reads_1 (by decide) ?_
  refine r_puti S hG hP hS ho clX9 fX9_13 kX9_92 hm dX9_reads_2 (fun μ9 H locs hm hP hS => ?_)
  refine lv_aload_n hx hb dX9_reads_5 rfl (lv_at hl 0 rfl) ?_
  refine lv_iconst (v := (0 : Int32)) hx hb dX9_reads_6 (by decide) ?_
  refine r_puti S hG hP hS ho clX9 fX9_15 kX9_99 hm dX9_reads_7 (fun μ10 H locs hm hP hS => ?_)
  refine lv_aload_n hx hb dX9_reads_10 rfl (lv_at hl 0 rfl) ?_
  refine lv_bipush (v := (20 : Int32)) hx hb dX9_reads_11 (by decide) ?_
  refine r_puti S hG hP hS ho clX9 fX9_18 kX9_102 hm dX9_reads_13 (fun μ11 H locs hm hP hS => ?_)
  refine lv_iconst (v := (0 : Int32)) hx hb dX9_reads_16 (by decide) ?_
  refine lv_istore_n (lv' := [(1, .int (0 : Int32)), (0, .ref (ad o))]) hx hb dX9_reads_17 rfl hl (by decide) rfl (fun ls hl => ?_)
  exact wX9_reads_18 S hr hG ho FU (0 : Int32) μ11 hm H locs ls hP hS (lv_sub hl [1, 0] rfl)
theorem tX9_reads (l : Launch) (D : va_G) (cI cR : ClassId) (n : Nat) (K L ad : Nat → Nat) {o : Nat} (ho : isk n K o 9) : Ci l yX9_reads cX9_reads 2 (some .int) (rmL 5) D cI cR n K L ad [.ref (ad o)] (fX9_reads L o) := by
  refine Ci.ofW (by decide) (Nat.le_of_ble_eq_true rfl) ?_
  intro μ x hm p e s m args below meth c ls S hr hG hP hS hl
  exact wX9_reads_0 S hr hG ho μ hm _ _ ls hP hS hl
-- X9_write
set_option maxHeartbeats 4000000 in
set_option maxRecDepth 100000 in
theorem wX9_write_0 (S : CallFix p m c cX9_write 2 s args TB RX9) (hr : meth.sig.returnType = (some .int) ∧ meth.locks = false) (hG : gok D cI cR n K L ad s) {o : Nat} (ho : isk n K o 9) {x : Int32 × Mem} : ∀ (v1 : Int32) (μ : Mem), fX9_write L o v1 μ = some x → WI p l e (rmL 0) s m args below meth c D cI cR n K L ad 2 x μ 0 [(0, .ref (ad o)), (1, .int v1)] [] := by
  have hx := S.1
  have hb := S.2.1
  intro v1 μ hm H locs ls hP hS hl
  unfold fX9_write at hm
  refine lv_iload_n hx hb dX9_write_0 rfl (lv_at hl 1 rfl) ?_
  refine lv_bipush (v := (32 : Int32)) hx hb dX9_write_1 (by decide) ?_
  refine b_icmp_lt (tgt := 12) S dX9_write_3 (by decide) hm (fun hm => ?_) (fun hm => ?_)
  · refine lv_iconst (v := (-1 : Int32)) hx hb dX9_write_12 (by decide) ?_
    exact r_iret S hr hG hP hS hm dX9_write_13
  · refine lv_iload_n hx hb dX9_write_6 rfl (lv_at hl 1 rfl) ?_
    refine lv_bipush (v := (126 : Int32)) hx hb dX9_write_7 (by decide) ?_
    refine b_icmp_le (tgt := 14) S dX9_write_9 (by decide) hm (fun hm => ?_) (fun hm => ?_)
    · refine lv_aload_n hx hb dX9_write_14 rfl (lv_at hl 0 rfl) ?_
      refine r_geti S hG hP ho clX9 fX9_0 kX9_72 dX9_write_15 ?_
      refine lv_sipush (v := (200 : Int32)) hx hb dX9_write_18 (by decide) ?_
      refine b_icmp_ne (tgt := 27) S dX9_write_21 (by decide) hm (fun hm => ?_) (fun hm => ?_)
      · refine lv_aload_n hx hb dX9_write_27 rfl (lv_at hl 0 rfl) ?_
        refine r_getr S hG hP ho clX9 fX9_1 kX9_7 dX9_write_28 ?_
        refine lv_aload_n hx hb dX9_write_31 rfl (lv_at hl 0 rfl) ?_
        refine r_geti S hG hP ho clX9 fX9_0 kX9_72 dX9_write_32 ?_
        refine lv_iload_n hx hb dX9_write_35 rfl (lv_at hl 1 rfl) ?_
        refine r_iast S hG hP hS (chX9_1 hG ho) hm dX9_write_36 (fun μ1 H locs hm hP hS => ?_)
        refine lv_aload_n hx hb dX9_write_37 rfl (lv_at hl 0 rfl) ?_
        refine lv_dup hx hb dX9_write_38 rfl ?_
        refine r_geti S hG hP ho clX9 fX9_0 kX9_72 dX9_write_39 ?_
        refine lv_iconst (v := (1 : Int32)) hx hb dX9_write_42 (by decide) ?_
        refine lv_iadd hx hb dX9_write_43 ?_
        refine r_puti S hG hP hS ho clX9 fX9_0 kX9_72 hm dX9_write_44 (fun μ2 H locs hm hP hS => ?_)
        refine lv_aload_n hx hb dX9_write_47 rfl (lv_at hl 0 rfl) ?_
        refine r_geti S hG hP ho clX9 fX9_0 kX9_72 dX9_write_48 ?_
        exact r_iret S hr hG hP hS hm dX9_write_51
      · refine lv_bipush (v := (-3 : Int32)) hx hb dX9_write_24 (by decide) ?_
        exact r_iret S hr hG hP hS hm dX9_write_26
    · refine lv_iconst (v := (-1 : Int32)) hx hb dX9_write_12 (by decide) ?_
      exact r_iret S hr hG hP hS hm dX9_write_13
theorem tX9_write (l : Launch) (D : va_G) (cI cR : ClassId) (n : Nat) (K L ad : Nat → Nat) {o : Nat} (ho : isk n K o 9) (v1 : Int32) : Ci l yX9_write cX9_write 2 (some .int) (rmL 0) D cI cR n K L ad [.ref (ad o), .int v1] (fX9_write L o v1) := by
  refine Ci.ofW (by decide) (Nat.le_of_ble_eq_true rfl) ?_
  intro μ x hm p e s m args below meth c ls S hr hG hP hS hl
  exact wX9_write_0 S hr hG ho v1 μ hm _ _ ls hP hS hl
-- X9_wipe
set_option maxHeartbeats 4000000 in
set_option maxRecDepth 100000 in
theorem wX9_wipe_0 (S : CallFix p m c cX9_wipe 2 s args TB RX9) (hr : meth.sig.returnType = (some .int) ∧ meth.locks = false) (hG : gok D cI cR n K L ad s) {o : Nat} (ho : isk n K o 9) {x : Int32 × Mem} : ∀ (μ : Mem), fX9_wipe L o μ = some x → WI p l e (rmL 0) s m args below meth c D cI cR n K L ad 2 x μ 0 [(0, .ref (ad o))] [] := by
  have hx := S.1
  have hb := S.2.1
  intro μ hm H locs ls hP hS hl
  unfold fX9_wipe at hm
  refine lv_aload_n hx hb dX9_wipe_0 rfl (lv_at hl 0 rfl) ?_
  refine r_geti S hG hP ho clX9 fX9_0 kX9_72 dX9_wipe_1 ?_
  refine r_top hm (fun a1 hm => ?_)
  refine lv_istore_n (lv' := [(1, .int a1), (0, .ref (ad o))]) hx hb dX9_wipe_4 rfl hl (by decide) rfl (fun ls hl => ?_)
  refine lv_aload_n hx hb dX9_wipe_5 rfl (lv_at hl 1 rfl) ?_
  refine lv_iconst (v := (0 : Int32)) hx hb dX9_wipe_6 (by decide) ?_
  refine r_puti S hG hP hS ho clX9 fX9_0 kX9_72 hm dX9_wipe_7 (fun μ2 H locs hm hP hS => ?_)
  refine lv_iload_n hx hb dX9_wipe_10 rfl (lv_at hl 0 rfl) ?_
  exact r_iret S hr hG hP hS hm dX9_wipe_11
theorem tX9_wipe (l : Launch) (D : va_G) (cI cR : ClassId) (n : Nat) (K L ad : Nat → Nat) {o : Nat} (ho : isk n K o 9) : Ci l yX9_wipe cX9_wipe 2 (some .int) (rmL 0) D cI cR n K L ad [.ref (ad o)] (fX9_wipe L o) := by
  refine Ci.ofW (by decide) (Nat.le_of_ble_eq_true rfl) ?_
  intro μ x hm p e s m args below meth c ls S hr hG hP hS hl
  exact wX9_wipe_0 S hr hG ho μ hm _ _ ls hP hS hl
-- X9_fault
set_option maxHeartbeats 4000000 in
set_option maxRecDepth 100000 in
theorem wX9_fault_0 (S : CallFix p m c cX9_fault 1 s args TB RX9) (hr : meth.sig.returnType = (some .int) ∧ meth.locks = false) (hG : gok D cI cR n K L ad s) {o : Nat} (ho : isk n K o 9) {x : Int32 × Mem} : ∀ (μ : Mem), fX9_fault L o μ = some x → WI p l e (rmL 6) s m args below meth c D cI cR n K L ad 1 x μ 0 [(0, .ref (ad o))] [] := by
  have hx := S.1
  have hb := S.2.1
  intro μ hm H locs ls hP hS hl
  unfold fX9_fault at hm
  refine lv_aload_n hx hb dX9_fault_0 rfl (lv_at hl 0 rfl) ?_
  refine r_vcalli (As := []) (rest := []) S hG hP hS mX9_reads kX9_121 clX9 ho (tX9_reads _ _ _ _ _ _ _ _ ho) ⟨rfl, rfl⟩ (rm_ok (by decide) (by decide)) hm hl.1 rfl (Nat.le_of_ble_eq_true rfl) ⟨Nat.zero_le _, Nat.zero_le _⟩ dX9_fault_1 (fun b2 μ1 H locs hm hP hS => ?_)
  exact r_iret S hr hG hP hS hm dX9_fault_4
theorem tX9_fault (l : Launch) (D : va_G) (cI cR : ClassId) (n : Nat) (K L ad : Nat → Nat) {o : Nat} (ho : isk n K o 9) : Ci l yX9_fault cX9_fault 1 (some .int) (rmL 6) D cI cR n K L ad [.ref (ad o)] (fX9_fault L o) := by
  refine Ci.ofW (by decide) (Nat.le_of_ble_eq_true rfl) ?_
  intro μ x hm p e s m args below meth c ls S hr hG hP hS hl
  exact wX9_fault_0 S hr hG ho μ hm _ _ ls hP hS hl
-- X9_sum
set_option maxHeartbeats 4000000 in
set_option maxRecDepth 100000 in
theorem wX9_sum_0 (S : CallFix p m c cX9_sum 3 s args TB RX9) (hr : meth.sig.returnType = (some .int) ∧ meth.locks = false) (hG : gok D cI cR n K L ad s) {o : Nat} (ho : isk n K o 9) {x : Int32 × Mem} : ∀ (v1 v2 : Int32) (μ : Mem), fX9_sum L o v1 v2 μ = some x → WI p l e (rmL 0) s m args below meth c D cI cR n K L ad 3 x μ 0 [(0, .ref (ad o)), (1, .int v1), (2, .int v2)] [] := by
  have hx := S.1
  have hb := S.2.1
  intro v1 v2 μ hm H locs ls hP hS hl
  unfold fX9_sum at hm
  refine lv_iload_n hx hb dX9_sum_0 rfl (lv_at hl 1 rfl) ?_
  refine lv_iload_n hx hb dX9_sum_1 rfl (lv_at hl 2 rfl) ?_
  refine lv_iadd hx hb dX9_sum_2 ?_
  refine lv_aload_n hx hb dX9_sum_3 rfl (lv_at hl 0 rfl) ?_
  refine r_geti S hG hP ho clX9 fX9_7 kX9_62 dX9_sum_4 ?_
  refine b_icmp_ge (tgt := 16) S dX9_sum_7 (by decide) hm (fun hm => ?_) (fun hm => ?_)
  · refine lv_aload_n hx hb dX9_sum_16 rfl (lv_at hl 0 rfl) ?_
    refine r_geti S hG hP ho clX9 fX9_7 kX9_62 dX9_sum_17 ?_
    exact r_iret S hr hG hP hS hm dX9_sum_20
  · refine lv_iload_n hx hb dX9_sum_10 rfl (lv_at hl 1 rfl) ?_
    refine lv_iload_n hx hb dX9_sum_11 rfl (lv_at hl 2 rfl) ?_
    refine lv_iadd hx hb dX9_sum_12 ?_
    refine lv_goto (tgt := 20) hx hb dX9_sum_13 (by decide) ?_
    exact r_iret S hr hG hP hS hm dX9_sum_20
theorem tX9_sum (l : Launch) (D : va_G) (cI cR : ClassId) (n : Nat) (K L ad : Nat → Nat) {o : Nat} (ho : isk n K o 9) (v1 : Int32) (v2 : Int32) : Ci l yX9_sum cX9_sum 3 (some .int) (rmL 0) D cI cR n K L ad [.ref (ad o), .int v1, .int v2] (fX9_sum L o v1 v2) := by
  refine Ci.ofW (by decide) (Nat.le_of_ble_eq_true rfl) ?_
  intro μ x hm p e s m args below meth c ls S hr hG hP hS hl
  exact wX9_sum_0 S hr hG ho v1 v2 μ hm _ _ ls hP hS hl
-- X9_lay
set_option maxHeartbeats 4000000 in
set_option maxRecDepth 100000 in
theorem wX9_lay_116 (S : CallFix p m c cX9_lay 2 s args TB RX9) (hr : meth.sig.returnType = (some .int) ∧ meth.locks = false) (hG : gok D cI cR n K L ad s) {o : Nat} (ho : isk n K o 9) {x : Int32 × Mem} : ∀ (k : Nat) (v1 : Int32) (μ : Mem), fX9_lay_116 L o k v1 μ = some x → WI p l e (rmL 6) s m args below meth c D cI cR n K L ad 2 x μ 116 [(0, .ref (ad o)), (1, .int v1)] [] := by
  have hx := S.1
  have hb := S.2.1
  intro k
  induction k with
  | zero => intro v1 μ hm; exact absurd (show none = some x from hm) (fun h => by cases h)
  | succ k ih =>
    intro v1 μ hm H locs ls hP hS hl
    have hm : fX9_lay_116_b L o (fX9_lay_116 L o k) v1 μ = some x := hm
    unfold fX9_lay_116_b at hm
    refine lv_iload_n hx hb dX9_lay_116 rfl (lv_at hl 1 rfl) ?_
    refine lv_sipush (v := (169 : Int32)) hx hb dX9_lay_117 (by decide) ?_
    refine b_icmp_ge (tgt := 146) S dX9_lay_120 (by decide) hm (fun hm => ?_) (fun hm => ?_)
    · refine lv_aload_n hx hb dX9_lay_146 rfl (lv_at hl 0 rfl) ?_
      refine lv_iconst (v := (0 : Int32)) hx hb dX9_lay_147 (by decide) ?_
      refine r_puti S hG hP hS ho clX9 fX9_11 kX9_129 hm dX9_lay_148 (fun μ1 H locs hm hP hS => ?_)
      refine lv_aload_n hx hb dX9_lay_151 rfl (lv_at hl 0 rfl) ?_
      refine r_geti S hG hP ho clX9 fX9_2 kX9_58 dX9_lay_152 ?_
      exact r_iret S hr hG hP hS hm dX9_lay_155
    · refine lv_aload_n hx hb dX9_lay_123 rfl (lv_at hl 0 rfl) ?_
      refine r_getr S hG hP ho clX9 fX9_9 kX9_25 dX9_lay_124 ?_
      refine lv_iload_n hx hb dX9_lay_127 rfl (lv_at hl 1 rfl) ?_
      refine lv_aload_n hx hb dX9_lay_128 rfl (lv_at hl 0 rfl) ?_
      refine lv_aload_n hx hb dX9_lay_129 rfl (lv_at hl 0 rfl) ?_
      refine r_getr S hG hP ho clX9 fX9_19 kX9_43 dX9_lay_130 ?_
      refine lv_iload_n hx hb dX9_lay_133 rfl (lv_at hl 1 rfl) ?_
      refine r_iald S hG hP (chX9_19 hG ho) hm dX9_lay_134 (fun a2 hm => ?_)
      refine lv_iconst (v := (0 : Int32)) hx hb dX9_lay_135 (by decide) ?_
      refine r_vcalli (As := [.int a2, .int (0 : Int32)]) (rest := [.int v1, .ref (ad (o + 6))]) S hG hP hS mX9_sum kX9_125 clX9 ho (tX9_sum _ _ _ _ _ _ _ _ ho a2 (0 : Int32)) ⟨rfl, rfl⟩ (rm_ok (by decide) (by decide)) hm hl.1 rfl (Nat.le_of_ble_eq_true rfl) ⟨Nat.zero_le _, Nat.zero_le _⟩ dX9_lay_136 (fun b4 μ3 H locs hm hP hS => ?_)
      refine r_iast S hG hP hS (chX9_9 hG ho) hm dX9_lay_139 (fun μ5 H locs hm hP hS => ?_)
      refine r_iinc (b := (1 : Int32)) (k := 1) S hm dX9_lay_140 hl rfl (by decide) (by decide) (fun a6 ls hm hl => ?_)
      have hl : lv_has ls 2 [(1, .int a6), (0, .ref (ad o))] := hl
      refine lv_goto (tgt := 116) hx hb dX9_lay_143 (by decide) ?_
      exact ih a6 μ5 hm H locs ls hP hS (lv_sub hl [1, 0] rfl)
set_option maxHeartbeats 4000000 in
set_option maxRecDepth 100000 in
theorem wX9_lay_78 (S : CallFix p m c cX9_lay 2 s args TB RX9) (hr : meth.sig.returnType = (some .int) ∧ meth.locks = false) (hG : gok D cI cR n K L ad s) {o : Nat} (ho : isk n K o 9) {x : Int32 × Mem} : ∀ (k : Nat) (v1 : Int32) (μ : Mem), fX9_lay_78 L o k v1 μ = some x → WI p l e (rmL 6) s m args below meth c D cI cR n K L ad 2 x μ 78 [(0, .ref (ad o)), (1, .int v1)] [] := by
  have hx := S.1
  have hb := S.2.1
  intro k
  induction k with
  | zero => intro v1 μ hm; exact absurd (show none = some x from hm) (fun h => by cases h)
  | succ k ih =>
    intro v1 μ hm H locs ls hP hS hl
    have hm : fX9_lay_78_b L o (fX9_lay_78 L o k) v1 μ = some x := hm
    unfold fX9_lay_78_b at hm
    refine lv_iload_n hx hb dX9_lay_78 rfl (lv_at hl 1 rfl) ?_
    refine lv_bipush (v := (9 : Int32)) hx hb dX9_lay_79 (by decide) ?_
    refine b_icmp_ge (tgt := 114) S dX9_lay_81 (by decide) hm (fun hm => ?_) (fun hm => ?_)
    · refine lv_iconst (v := (0 : Int32)) hx hb dX9_lay_114 (by decide) ?_
      refine lv_istore_n (lv' := [(1, .int (0 : Int32)), (0, .ref (ad o))]) hx hb dX9_lay_115 rfl hl (by decide) rfl (fun ls hl => ?_)
      exact wX9_lay_116 S hr hG ho FU (0 : Int32) μ hm H locs ls hP hS (lv_sub hl [1, 0] rfl)
    · refine lv_aload_n hx hb dX9_lay_84 rfl (lv_at hl 0 rfl) ?_
      refine r_getr S hG hP ho clX9 fX9_5 kX9_16 dX9_lay_85 ?_
      refine lv_iload_n hx hb dX9_lay_88 rfl (lv_at hl 1 rfl) ?_
      refine lv_aload_n hx hb dX9_lay_89 rfl (lv_at hl 0 rfl) ?_
      refine r_getr S hG hP ho clX9 fX9_16 kX9_37 dX9_lay_90 ?_
      refine lv_iload_n hx hb dX9_lay_93 rfl (lv_at hl 1 rfl) ?_
      refine r_iald S hG hP (chX9_16 hG ho) hm dX9_lay_94 (fun a7 hm => ?_)
      refine r_iast S hG hP hS (chX9_5 hG ho) hm dX9_lay_95 (fun μ8 H locs hm hP hS => ?_)
      refine lv_aload_n hx hb dX9_lay_96 rfl (lv_at hl 0 rfl) ?_
      refine r_getr S hG hP ho clX9 fX9_6 kX9_19 dX9_lay_97 ?_
      refine lv_iload_n hx hb dX9_lay_100 rfl (lv_at hl 1 rfl) ?_
      refine lv_aload_n hx hb dX9_lay_101 rfl (lv_at hl 0 rfl) ?_
      refine r_getr S hG hP ho clX9 fX9_17 kX9_40 dX9_lay_102 ?_
      refine lv_iload_n hx hb dX9_lay_105 rfl (lv_at hl 1 rfl) ?_
      refine r_iald S hG hP (chX9_17 hG ho) hm dX9_lay_106 (fun a9 hm => ?_)
      refine r_iast S hG hP hS (chX9_6 hG ho) hm dX9_lay_107 (fun μ10 H locs hm hP hS => ?_)
      refine r_iinc (b := (1 : Int32)) (k := 1) S hm dX9_lay_108 hl rfl (by decide) (by decide) (fun a11 ls hm hl => ?_)
      have hl : lv_has ls 2 [(1, .int a11), (0, .ref (ad o))] := hl
      refine lv_goto (tgt := 78) hx hb dX9_lay_111 (by decide) ?_
      exact ih a11 μ10 hm H locs ls hP hS (lv_sub hl [1, 0] rfl)
set_option maxHeartbeats 4000000 in
set_option maxRecDepth 100000 in
theorem wX9_lay_45 (S : CallFix p m c cX9_lay 2 s args TB RX9) (hr : meth.sig.returnType = (some .int) ∧ meth.locks = false) (hG : gok D cI cR n K L ad s) {o : Nat} (ho : isk n K o 9) {x : Int32 × Mem} : ∀ (k : Nat) (v1 : Int32) (μ : Mem), fX9_lay_45 L o k v1 μ = some x → WI p l e (rmL 6) s m args below meth c D cI cR n K L ad 2 x μ 45 [(0, .ref (ad o)), (1, .int v1)] [] := by
  have hx := S.1
  have hb := S.2.1
  intro k
  induction k with
  | zero => intro v1 μ hm; exact absurd (show none = some x from hm) (fun h => by cases h)
  | succ k ih =>
    intro v1 μ hm H locs ls hP hS hl
    have hm : fX9_lay_45_b L o (fX9_lay_45 L o k) v1 μ = some x := hm
    unfold fX9_lay_45_b at hm
    refine lv_iload_n hx hb dX9_lay_45 rfl (lv_at hl 1 rfl) ?_
    refine lv_bipush (v := (6 : Int32)) hx hb dX9_lay_46 (by decide) ?_
    refine b_icmp_ge (tgt := 76) S dX9_lay_48 (by decide) hm (fun hm => ?_) (fun hm => ?_)
    · refine lv_iconst (v := (0 : Int32)) hx hb dX9_lay_76 (by decide) ?_
      refine lv_istore_n (lv' := [(1, .int (0 : Int32)), (0, .ref (ad o))]) hx hb dX9_lay_77 rfl hl (by decide) rfl (fun ls hl => ?_)
      exact wX9_lay_78 S hr hG ho FU (0 : Int32) μ hm H locs ls hP hS (lv_sub hl [1, 0] rfl)
    · refine lv_aload_n hx hb dX9_lay_51 rfl (lv_at hl 0 rfl) ?_
      refine r_getr S hG hP ho clX9 fX9_3 kX9_13 dX9_lay_52 ?_
      refine lv_iload_n hx hb dX9_lay_55 rfl (lv_at hl 1 rfl) ?_
      refine lv_aload_n hx hb dX9_lay_56 rfl (lv_at hl 0 rfl) ?_
      refine r_getr S hG hP ho clX9 fX9_14 kX9_34 dX9_lay_57 ?_
      refine lv_iload_n hx hb dX9_lay_60 rfl (lv_at hl 1 rfl) ?_
      refine r_iald S hG hP (chX9_14 hG ho) hm dX9_lay_61 (fun a12 hm => ?_)
      refine r_iast S hG hP hS (chX9_3 hG ho) hm dX9_lay_62 (fun μ13 H locs hm hP hS => ?_)
      refine lv_aload_n hx hb dX9_lay_63 rfl (lv_at hl 0 rfl) ?_
      refine r_getr S hG hP ho clX9 fX9_8 kX9_22 dX9_lay_64 ?_
      refine lv_iload_n hx hb dX9_lay_67 rfl (lv_at hl 1 rfl) ?_
      refine lv_iconst (v := (0 : Int32)) hx hb dX9_lay_68 (by decide) ?_
      refine r_iast S hG hP hS (chX9_8 hG ho) hm dX9_lay_69 (fun μ14 H locs hm hP hS => ?_)
      refine r_iinc (b := (1 : Int32)) (k := 1) S hm dX9_lay_70 hl rfl (by decide) (by decide) (fun a15 ls hm hl => ?_)
      have hl : lv_has ls 2 [(1, .int a15), (0, .ref (ad o))] := hl
      refine lv_goto (tgt := 45) hx hb dX9_lay_73 (by decide) ?_
      exact ih a15 μ14 hm H locs ls hP hS (lv_sub hl [1, 0] rfl)
set_option maxHeartbeats 4000000 in
set_option maxRecDepth 100000 in
theorem wX9_lay_0 (S : CallFix p m c cX9_lay 2 s args TB RX9) (hr : meth.sig.returnType = (some .int) ∧ meth.locks = false) (hG : gok D cI cR n K L ad s) {o : Nat} (ho : isk n K o 9) {x : Int32 × Mem} : ∀ (μ : Mem), fX9_lay L o μ = some x → WI p l e (rmL 6) s m args below meth c D cI cR n K L ad 2 x μ 0 [(0, .ref (ad o))] [] := by
  have hx := S.1
  have hb := S.2.1
  intro μ hm H locs ls hP hS hl
  unfold fX9_lay at hm
  refine lv_aload_n hx hb dX9_lay_0 rfl (lv_at hl 0 rfl) ?_
  refine r_vcalli (As := []) (rest := []) S hG hP hS mX9_reads kX9_121 clX9 ho (tX9_reads _ _ _ _ _ _ _ _ ho) ⟨rfl, rfl⟩ (rm_ok (by decide) (by decide)) hm hl.1 rfl (Nat.le_of_ble_eq_true rfl) ⟨Nat.zero_le _, Nat.zero_le _⟩ dX9_lay_1 (fun b17 μ16 H locs hm hP hS => ?_)
  refine lv_bipush (v := (-4 : Int32)) hx hb dX9_lay_4 (by decide) ?_
  refine b_icmp_ne (tgt := 16) S dX9_lay_6 (by decide) hm (fun hm => ?_) (fun hm => ?_)
  · refine lv_bipush (v := (-2 : Int32)) hx hb dX9_lay_16 (by decide) ?_
    exact r_iret S hr hG hP hS hm dX9_lay_18
  · refine lv_aload_n hx hb dX9_lay_9 rfl (lv_at hl 0 rfl) ?_
    refine r_geti S hG hP ho clX9 fX9_13 kX9_92 dX9_lay_10 ?_
    refine b_if_ne (tgt := 19) S dX9_lay_13 (by decide) hm (fun hm => ?_) (fun hm => ?_)
    · refine lv_aload_n hx hb dX9_lay_19 rfl (lv_at hl 0 rfl) ?_
      refine lv_aload_n hx hb dX9_lay_20 rfl (lv_at hl 0 rfl) ?_
      refine r_geti S hG hP ho clX9 fX9_13 kX9_92 dX9_lay_21 ?_
      refine r_puti S hG hP hS ho clX9 fX9_2 kX9_58 hm dX9_lay_24 (fun μ18 H locs hm hP hS => ?_)
      refine lv_aload_n hx hb dX9_lay_27 rfl (lv_at hl 0 rfl) ?_
      refine lv_aload_n hx hb dX9_lay_28 rfl (lv_at hl 0 rfl) ?_
      refine r_geti S hG hP ho clX9 fX9_15 kX9_99 dX9_lay_29 ?_
      refine r_puti S hG hP hS ho clX9 fX9_4 kX9_65 hm dX9_lay_32 (fun μ19 H locs hm hP hS => ?_)
      refine lv_aload_n hx hb dX9_lay_35 rfl (lv_at hl 0 rfl) ?_
      refine lv_aload_n hx hb dX9_lay_36 rfl (lv_at hl 0 rfl) ?_
      refine r_geti S hG hP ho clX9 fX9_18 kX9_102 dX9_lay_37 ?_
      refine r_puti S hG hP hS ho clX9 fX9_7 kX9_62 hm dX9_lay_40 (fun μ20 H locs hm hP hS => ?_)
      refine lv_iconst (v := (0 : Int32)) hx hb dX9_lay_43 (by decide) ?_
      refine lv_istore_n (lv' := [(1, .int (0 : Int32)), (0, .ref (ad o))]) hx hb dX9_lay_44 rfl hl (by decide) rfl (fun ls hl => ?_)
      exact wX9_lay_45 S hr hG ho FU (0 : Int32) μ20 hm H locs ls hP hS (lv_sub hl [1, 0] rfl)
    · refine lv_bipush (v := (-2 : Int32)) hx hb dX9_lay_16 (by decide) ?_
      exact r_iret S hr hG hP hS hm dX9_lay_18
theorem tX9_lay (l : Launch) (D : va_G) (cI cR : ClassId) (n : Nat) (K L ad : Nat → Nat) {o : Nat} (ho : isk n K o 9) : Ci l yX9_lay cX9_lay 2 (some .int) (rmL 6) D cI cR n K L ad [.ref (ad o)] (fX9_lay L o) := by
  refine Ci.ofW (by decide) (Nat.le_of_ble_eq_true rfl) ?_
  intro μ x hm p e s m args below meth c ls S hr hG hP hS hl
  exact wX9_lay_0 S hr hG ho μ hm _ _ ls hP hS hl
-- X9_less
set_option maxHeartbeats 4000000 in
set_option maxRecDepth 100000 in
theorem wX9_less_0 (S : CallFix p m c cX9_less 3 s args TB RX9) (hr : meth.sig.returnType = (some .int) ∧ meth.locks = false) (hG : gok D cI cR n K L ad s) {o : Nat} (ho : isk n K o 9) {x : Int32 × Mem} : ∀ (v1 v2 : Int32) (μ : Mem), fX9_less L o v1 v2 μ = some x → WI p l e (rmL 0) s m args below meth c D cI cR n K L ad 3 x μ 0 [(0, .ref (ad o)), (1, .int v1), (2, .int v2)] [] := by
  have hx := S.1
  have hb := S.2.1
  intro v1 v2 μ hm H locs ls hP hS hl
  unfold fX9_less at hm
  refine lv_iload_n hx hb dX9_less_0 rfl (lv_at hl 1 rfl) ?_
  refine lv_aload_n hx hb dX9_less_1 rfl (lv_at hl 0 rfl) ?_
  refine r_geti S hG hP ho clX9 fX9_7 kX9_62 dX9_less_2 ?_
  refine b_icmp_ne (tgt := 15) S dX9_less_5 (by decide) hm (fun hm => ?_) (fun hm => ?_)
  · refine lv_iload_n hx hb dX9_less_15 rfl (lv_at hl 1 rfl) ?_
    refine lv_iload_n hx hb dX9_less_16 rfl (lv_at hl 2 rfl) ?_
    refine lv_isub hx hb dX9_less_17 ?_
    exact r_iret S hr hG hP hS hm dX9_less_18
  · refine lv_aload_n hx hb dX9_less_8 rfl (lv_at hl 0 rfl) ?_
    refine r_geti S hG hP ho clX9 fX9_7 kX9_62 dX9_less_9 ?_
    refine lv_goto (tgt := 18) hx hb dX9_less_12 (by decide) ?_
    exact r_iret S hr hG hP hS hm dX9_less_18
theorem tX9_less (l : Launch) (D : va_G) (cI cR : ClassId) (n : Nat) (K L ad : Nat → Nat) {o : Nat} (ho : isk n K o 9) (v1 : Int32) (v2 : Int32) : Ci l yX9_less cX9_less 3 (some .int) (rmL 0) D cI cR n K L ad [.ref (ad o), .int v1, .int v2] (fX9_less L o v1 v2) := by
  refine Ci.ofW (by decide) (Nat.le_of_ble_eq_true rfl) ?_
  intro μ x hm p e s m args below meth c ls S hr hG hP hS hl
  exact wX9_less_0 S hr hG ho v1 v2 μ hm _ _ ls hP hS hl
-- X9_isName
set_option maxHeartbeats 4000000 in
set_option maxRecDepth 100000 in
theorem wX9_isName_0 (S : CallFix p m c cX9_isName 2 s args TB RX9) (hr : meth.sig.returnType = (some .boolean) ∧ meth.locks = false) (hG : gok D cI cR n K L ad s) {o : Nat} (ho : isk n K o 9) {x : Int32 × Mem} : ∀ (v1 : Int32) (μ : Mem), fX9_isName L o v1 μ = some x → WI p l e (rmL 1) s m args below meth c D cI cR n K L ad 2 x μ 0 [(0, .ref (ad o)), (1, .int v1)] [] := by
  have hx := S.1
  have hb := S.2.1
  intro v1 μ hm H locs ls hP hS hl
  unfold fX9_isName at hm
  refine lv_iload_n hx hb dX9_isName_0 rfl (lv_at hl 1 rfl) ?_
  refine lv_iconst (v := (0 : Int32)) hx hb dX9_isName_1 (by decide) ?_
  refine lv_aload_n hx hb dX9_isName_2 rfl (lv_at hl 0 rfl) ?_
  refine r_geti S hG hP ho clX9 fX9_2 kX9_58 dX9_isName_3 ?_
  refine lv_iconst (v := (1 : Int32)) hx hb dX9_isName_6 (by decide) ?_
  refine lv_isub hx hb dX9_isName_7 ?_
  refine r_scalli (As := [.int v1, .int (0 : Int32), .int ((μ o 2) - (1 : Int32))]) (rest := []) S hG hP hS mX9_isIn kX9_85 (tX9_isIn _ _ _ _ _ _ _ _ v1 (0 : Int32) ((μ o 2) - (1 : Int32))) ⟨rfl, rfl⟩ (rm_ok (by decide) (by decide)) hm hl.1 rfl (Nat.le_of_ble_eq_true rfl) ⟨Nat.zero_le _, Nat.zero_le _⟩ dX9_isName_8 (fun b2 μ1 H locs hm hP hS => ?_)
  exact r_zret S hr hG hP hS hm dX9_isName_11
theorem tX9_isName (l : Launch) (D : va_G) (cI cR : ClassId) (n : Nat) (K L ad : Nat → Nat) {o : Nat} (ho : isk n K o 9) (v1 : Int32) : Ci l yX9_isName cX9_isName 2 (some .boolean) (rmL 1) D cI cR n K L ad [.ref (ad o), .int v1] (fX9_isName L o v1) := by
  refine Ci.ofW (by decide) (Nat.le_of_ble_eq_true rfl) ?_
  intro μ x hm p e s m args below meth c ls S hr hG hP hS hl
  exact wX9_isName_0 S hr hG ho v1 μ hm _ _ ls hP hS hl
-- X9_isValue
set_option maxHeartbeats 4000000 in
set_option maxRecDepth 100000 in
theorem wX9_isValue_0 (S : CallFix p m c cX9_isValue 3 s args TB RX9) (hr : meth.sig.returnType = (some .boolean) ∧ meth.locks = false) (hG : gok D cI cR n K L ad s) {o : Nat} (ho : isk n K o 9) {x : Int32 × Mem} : ∀ (v1 v2 : Int32) (μ : Mem), fX9_isValue L o v1 v2 μ = some x → WI p l e (rmL 2) s m args below meth c D cI cR n K L ad 3 x μ 0 [(0, .ref (ad o)), (1, .int v1), (2, .int v2)] [] := by
  have hx := S.1
  have hb := S.2.1
  intro v1 v2 μ hm H locs ls hP hS hl
  unfold fX9_isValue at hm
  refine lv_aload_n hx hb dX9_isValue_0 rfl (lv_at hl 0 rfl) ?_
  refine lv_iload_n hx hb dX9_isValue_1 rfl (lv_at hl 1 rfl) ?_
  refine r_vcalli (As := [.int v1]) (rest := []) S hG hP hS mX9_isName kX9_132 clX9 ho (tX9_isName _ _ _ _ _ _ _ _ ho v1) ⟨rfl, rfl⟩ (rm_ok (by decide) (by decide)) hm hl.1 rfl (Nat.le_of_ble_eq_true rfl) ⟨Nat.zero_le _, Nat.zero_le _⟩ dX9_isValue_2 (fun b2 μ1 H locs hm hP hS => ?_)
  refine b_if_eq (tgt := 28) S dX9_isValue_5 (by decide) hm (fun hm => ?_) (fun hm => ?_)
  · refine lv_iconst (v := (0 : Int32)) hx hb dX9_isValue_28 (by decide) ?_
    exact r_zretC S hr hG hP hS rfl hm dX9_isValue_29
  · refine lv_iload_n hx hb dX9_isValue_8 rfl (lv_at hl 2 rfl) ?_
    refine lv_iconst (v := (0 : Int32)) hx hb dX9_isValue_9 (by decide) ?_
    refine lv_aload_n hx hb dX9_isValue_10 rfl (lv_at hl 0 rfl) ?_
    refine r_getr S hG hP ho clX9 fX9_3 kX9_13 dX9_isValue_11 ?_
    refine lv_iload_n hx hb dX9_isValue_14 rfl (lv_at hl 1 rfl) ?_
    refine r_iald S hG hP (chX9_3 hG ho) hm dX9_isValue_15 (fun a3 hm => ?_)
    refine lv_iconst (v := (1 : Int32)) hx hb dX9_isValue_16 (by decide) ?_
    refine lv_isub hx hb dX9_isValue_17 ?_
    refine r_scalli (As := [.int v2, .int (0 : Int32), .int (a3 - (1 : Int32))]) (rest := []) S hG hP hS mX9_isIn kX9_85 (tX9_isIn _ _ _ _ _ _ _ _ v2 (0 : Int32) (a3 - (1 : Int32))) ⟨rfl, rfl⟩ (rm_ok (by decide) (by decide)) hm hl.1 rfl (Nat.le_of_ble_eq_true rfl) ⟨Nat.zero_le _, Nat.zero_le _⟩ dX9_isValue_18 (fun b5 μ4 H locs hm hP hS => ?_)
    refine b_if_eq (tgt := 28) S dX9_isValue_21 (by decide) hm (fun hm => ?_) (fun hm => ?_)
    · refine lv_iconst (v := (0 : Int32)) hx hb dX9_isValue_28 (by decide) ?_
      exact r_zretC S hr hG hP hS rfl hm dX9_isValue_29
    · refine lv_iconst (v := (1 : Int32)) hx hb dX9_isValue_24 (by decide) ?_
      refine lv_goto (tgt := 29) hx hb dX9_isValue_25 (by decide) ?_
      exact r_zretC S hr hG hP hS rfl hm dX9_isValue_29
theorem tX9_isValue (l : Launch) (D : va_G) (cI cR : ClassId) (n : Nat) (K L ad : Nat → Nat) {o : Nat} (ho : isk n K o 9) (v1 : Int32) (v2 : Int32) : Ci l yX9_isValue cX9_isValue 3 (some .boolean) (rmL 2) D cI cR n K L ad [.ref (ad o), .int v1, .int v2] (fX9_isValue L o v1 v2) := by
  refine Ci.ofW (by decide) (Nat.le_of_ble_eq_true rfl) ?_
  intro μ x hm p e s m args below meth c ls S hr hG hP hS hl
  exact wX9_isValue_0 S hr hG ho v1 v2 μ hm _ _ ls hP hS hl
-- X9_isTable
set_option maxHeartbeats 4000000 in
set_option maxRecDepth 100000 in
theorem wX9_isTable_0 (S : CallFix p m c cX9_isTable 2 s args TB RX9) (hr : meth.sig.returnType = (some .boolean) ∧ meth.locks = false) (hG : gok D cI cR n K L ad s) {o : Nat} (ho : isk n K o 9) {x : Int32 × Mem} : ∀ (v1 : Int32) (μ : Mem), fX9_isTable L o v1 μ = some x → WI p l e (rmL 1) s m args below meth c D cI cR n K L ad 2 x μ 0 [(0, .ref (ad o)), (1, .int v1)] [] := by
  have hx := S.1
  have hb := S.2.1
  intro v1 μ hm H locs ls hP hS hl
  unfold fX9_isTable at hm
  refine lv_iload_n hx hb dX9_isTable_0 rfl (lv_at hl 1 rfl) ?_
  refine lv_iconst (v := (0 : Int32)) hx hb dX9_isTable_1 (by decide) ?_
  refine lv_aload_n hx hb dX9_isTable_2 rfl (lv_at hl 0 rfl) ?_
  refine r_geti S hG hP ho clX9 fX9_4 kX9_65 dX9_isTable_3 ?_
  refine lv_iconst (v := (1 : Int32)) hx hb dX9_isTable_6 (by decide) ?_
  refine lv_isub hx hb dX9_isTable_7 ?_
  refine r_scalli (As := [.int v1, .int (0 : Int32), .int ((μ o 4) - (1 : Int32))]) (rest := []) S hG hP hS mX9_isIn kX9_85 (tX9_isIn _ _ _ _ _ _ _ _ v1 (0 : Int32) ((μ o 4) - (1 : Int32))) ⟨rfl, rfl⟩ (rm_ok (by decide) (by decide)) hm hl.1 rfl (Nat.le_of_ble_eq_true rfl) ⟨Nat.zero_le _, Nat.zero_le _⟩ dX9_isTable_8 (fun b2 μ1 H locs hm hP hS => ?_)
  exact r_zret S hr hG hP hS hm dX9_isTable_11
theorem tX9_isTable (l : Launch) (D : va_G) (cI cR : ClassId) (n : Nat) (K L ad : Nat → Nat) {o : Nat} (ho : isk n K o 9) (v1 : Int32) : Ci l yX9_isTable cX9_isTable 2 (some .boolean) (rmL 1) D cI cR n K L ad [.ref (ad o), .int v1] (fX9_isTable L o v1) := by
  refine Ci.ofW (by decide) (Nat.le_of_ble_eq_true rfl) ?_
  intro μ x hm p e s m args below meth c ls S hr hG hP hS hl
  exact wX9_isTable_0 S hr hG ho v1 μ hm _ _ ls hP hS hl
-- X9_nameOf
set_option maxHeartbeats 4000000 in
set_option maxRecDepth 100000 in
theorem wX9_nameOf_0 (S : CallFix p m c cX9_nameOf 3 s args TB RX9) (hr : meth.sig.returnType = (some .int) ∧ meth.locks = false) (hG : gok D cI cR n K L ad s) {o : Nat} (ho : isk n K o 9) {x : Int32 × Mem} : ∀ (v1 v2 : Int32) (μ : Mem), fX9_nameOf L o v1 v2 μ = some x → WI p l e (rmL 0) s m args below meth c D cI cR n K L ad 3 x μ 0 [(0, .ref (ad o)), (1, .int v1), (2, .int v2)] [] := by
  have hx := S.1
  have hb := S.2.1
  intro v1 v2 μ hm H locs ls hP hS hl
  unfold fX9_nameOf at hm
  refine lv_iload_n hx hb dX9_nameOf_0 rfl (lv_at hl 2 rfl) ?_
  refine b_if_ne (tgt := 13) S dX9_nameOf_1 (by decide) hm (fun hm => ?_) (fun hm => ?_)
  · refine lv_aload_n hx hb dX9_nameOf_13 rfl (lv_at hl 0 rfl) ?_
    refine r_getr S hG hP ho clX9 fX9_6 kX9_19 dX9_nameOf_14 ?_
    refine lv_iload_n hx hb dX9_nameOf_17 rfl (lv_at hl 1 rfl) ?_
    refine r_iald S hG hP (chX9_6 hG ho) hm dX9_nameOf_18 (fun a1 hm => ?_)
    exact r_iret S hr hG hP hS hm dX9_nameOf_19
  · refine lv_aload_n hx hb dX9_nameOf_4 rfl (lv_at hl 0 rfl) ?_
    refine r_getr S hG hP ho clX9 fX9_5 kX9_16 dX9_nameOf_5 ?_
    refine lv_iload_n hx hb dX9_nameOf_8 rfl (lv_at hl 1 rfl) ?_
    refine r_iald S hG hP (chX9_5 hG ho) hm dX9_nameOf_9 (fun a2 hm => ?_)
    refine lv_goto (tgt := 19) hx hb dX9_nameOf_10 (by decide) ?_
    exact r_iret S hr hG hP hS hm dX9_nameOf_19
theorem tX9_nameOf (l : Launch) (D : va_G) (cI cR : ClassId) (n : Nat) (K L ad : Nat → Nat) {o : Nat} (ho : isk n K o 9) (v1 : Int32) (v2 : Int32) : Ci l yX9_nameOf cX9_nameOf 3 (some .int) (rmL 0) D cI cR n K L ad [.ref (ad o), .int v1, .int v2] (fX9_nameOf L o v1 v2) := by
  refine Ci.ofW (by decide) (Nat.le_of_ble_eq_true rfl) ?_
  intro μ x hm p e s m args below meth c ls S hr hG hP hS hl
  exact wX9_nameOf_0 S hr hG ho v1 v2 μ hm _ _ ls hP hS hl
-- X9_pairAt
set_option maxHeartbeats 4000000 in
set_option maxRecDepth 100000 in
theorem wX9_pairAt_24 (S : CallFix p m c cX9_pairAt 4 s args TB RX9) (hr : meth.sig.returnType = (some .int) ∧ meth.locks = false) (hG : gok D cI cR n K L ad s) {x : Int32 × Mem} : ∀ (s0 s1 : Int32) (μ : Mem), fX9_pairAt_24 L s0 s1 μ = some x → WI p l e (rmL 0) s m args below meth c D cI cR n K L ad 4 x μ 24 [] [.int s0, .int s1] := by
  have hx := S.1
  have hb := S.2.1
  intro s0 s1 μ hm H locs ls hP hS hl
  unfold fX9_pairAt_24 at hm
  refine lv_iadd hx hb dX9_pairAt_24 ?_
  exact r_iret S hr hG hP hS hm dX9_pairAt_25
set_option maxHeartbeats 4000000 in
set_option maxRecDepth 100000 in
theorem wX9_pairAt_0 (S : CallFix p m c cX9_pairAt 4 s args TB RX9) (hr : meth.sig.returnType = (some .int) ∧ meth.locks = false) (hG : gok D cI cR n K L ad s) {x : Int32 × Mem} : ∀ (v0 v1 v2 v3 : Int32) (μ : Mem), fX9_pairAt L v0 v1 v2 v3 μ = some x → WI p l e (rmL 0) s m args below meth c D cI cR n K L ad 4 x μ 0 [(0, .int v0), (1, .int v1), (2, .int v2), (3, .int v3)] [] := by
  have hx := S.1
  have hb := S.2.1
  intro v0 v1 v2 v3 μ hm H locs ls hP hS hl
  unfold fX9_pairAt at hm
  refine lv_bipush (v := (24 : Int32)) hx hb dX9_pairAt_0 (by decide) ?_
  refine lv_bipush (v := (16 : Int32)) hx hb dX9_pairAt_2 (by decide) ?_
  refine lv_iload_n hx hb dX9_pairAt_4 rfl (lv_at hl 0 rfl) ?_
  refine lv_imul hx hb dX9_pairAt_5 ?_
  refine lv_iadd hx hb dX9_pairAt_6 ?_
  refine lv_iload_n hx hb dX9_pairAt_7 rfl (lv_at hl 1 rfl) ?_
  refine b_if_ne (tgt := 19) S dX9_pairAt_8 (by decide) hm (fun hm => ?_) (fun hm => ?_)
  · refine lv_iconst (v := (4 : Int32)) hx hb dX9_pairAt_19 (by decide) ?_
    refine lv_iload_n hx hb dX9_pairAt_20 rfl (lv_at hl 3 rfl) ?_
    refine lv_imul hx hb dX9_pairAt_21 ?_
    refine lv_iload_n hx hb dX9_pairAt_22 rfl (lv_at hl 2 rfl) ?_
    refine lv_iadd hx hb dX9_pairAt_23 ?_
    exact wX9_pairAt_24 S hr hG (((4 : Int32) * v3) + v2) ((24 : Int32) + ((16 : Int32) * v0)) μ hm H locs ls hP hS (lv_sub hl [] rfl)
  · refine lv_iconst (v := (4 : Int32)) hx hb dX9_pairAt_11 (by decide) ?_
    refine lv_iload_n hx hb dX9_pairAt_12 rfl (lv_at hl 2 rfl) ?_
    refine lv_imul hx hb dX9_pairAt_13 ?_
    refine lv_iload_n hx hb dX9_pairAt_14 rfl (lv_at hl 3 rfl) ?_
    refine lv_iadd hx hb dX9_pairAt_15 ?_
    refine lv_goto (tgt := 24) hx hb dX9_pairAt_16 (by decide) ?_
    exact wX9_pairAt_24 S hr hG (((4 : Int32) * v2) + v3) ((24 : Int32) + ((16 : Int32) * v0)) μ hm H locs ls hP hS (lv_sub hl [] rfl)
theorem tX9_pairAt (l : Launch) (D : va_G) (cI cR : ClassId) (n : Nat) (K L ad : Nat → Nat) (v0 : Int32) (v1 : Int32) (v2 : Int32) (v3 : Int32) : Ci l yX9_pairAt cX9_pairAt 4 (some .int) (rmL 0) D cI cR n K L ad [.int v0, .int v1, .int v2, .int v3] (fX9_pairAt L v0 v1 v2 v3) := by
  refine Ci.ofW (by decide) (Nat.le_of_ble_eq_true rfl) ?_
  intro μ x hm p e s m args below meth c ls S hr hG hP hS hl
  exact wX9_pairAt_0 S hr hG v0 v1 v2 v3 μ hm _ _ ls hP hS hl
end WALKF
