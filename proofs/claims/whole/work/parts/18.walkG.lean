section WALKG
variable {p : Program} {l : Launch} {e : Env} {s : State} {m : MethodId} {args : Array Value} {below : List Frame} {meth : Method} {c : Code} {D : va_G} {cI cR : ClassId} {n : Nat} {K L ad : Nat → Nat}
-- X9_leastSingle
set_option maxHeartbeats 4000000 in
set_option maxRecDepth 100000 in
theorem wX9_leastSingle_49 (S : CallFix p m c cX9_leastSingle 4 s args TB RX9) (hr : meth.sig.returnType = (some .int) ∧ meth.locks = false) (hG : gok D cI cR n K L ad s) {o : Nat} (ho : isk n K o 9) {x : Int32 × Mem} {self11 : Int32 → Int32 → Int32 → Mem → Option (Int32 × Mem)} (hs11 : ∀ (v1 v2 v3 : Int32) (μ : Mem), self11 v1 v2 v3 μ = some x → WI p l e (rmL 0) s m args below meth c D cI cR n K L ad 4 x μ 11 [(0, .ref (ad o)), (1, .int v1), (2, .int v2), (3, .int v3)] []) : ∀ (v1 v3 s0 : Int32) (μ : Mem), fX9_leastSingle_49 L o self11 v1 v3 s0 μ = some x → WI p l e (rmL 0) s m args below meth c D cI cR n K L ad 4 x μ 49 [(0, .ref (ad o)), (1, .int v1), (3, .int v3)] [.int s0] := by
  have hx := S.1
  have hb := S.2.1
  intro v1 v3 s0 μ hm H locs ls hP hS hl
  unfold fX9_leastSingle_49 at hm
  refine lv_istore_n (lv' := [(2, .int s0), (0, .ref (ad o)), (1, .int v1), (3, .int v3)]) hx hb dX9_leastSingle_49 rfl hl (by decide) rfl (fun ls hl => ?_)
  refine r_iinc (b := (1 : Int32)) (k := 3) S hm dX9_leastSingle_50 hl rfl (by decide) (by decide) (fun a1 ls hm hl => ?_)
  have hl : lv_has ls 4 [(3, .int a1), (2, .int s0), (0, .ref (ad o)), (1, .int v1)] := hl
  refine lv_goto (tgt := 11) hx hb dX9_leastSingle_53 (by decide) ?_
  exact hs11 v1 s0 a1 μ hm H locs ls hP hS (lv_sub hl [2, 3, 1, 0] rfl)
set_option maxHeartbeats 4000000 in
set_option maxRecDepth 100000 in
theorem wX9_leastSingle_11 (S : CallFix p m c cX9_leastSingle 4 s args TB RX9) (hr : meth.sig.returnType = (some .int) ∧ meth.locks = false) (hG : gok D cI cR n K L ad s) {o : Nat} (ho : isk n K o 9) {x : Int32 × Mem} : ∀ (k : Nat) (v1 v2 v3 : Int32) (μ : Mem), fX9_leastSingle_11 L o k v1 v2 v3 μ = some x → WI p l e (rmL 0) s m args below meth c D cI cR n K L ad 4 x μ 11 [(0, .ref (ad o)), (1, .int v1), (2, .int v2), (3, .int v3)] [] := by
  have hx := S.1
  have hb := S.2.1
  intro k
  induction k with
  | zero => intro v1 v2 v3 μ hm; exact absurd (show none = some x from hm) (fun h => by cases h)
  | succ k ih =>
    intro v1 v2 v3 μ hm H locs ls hP hS hl
    have hm : fX9_leastSingle_11_b L o (fX9_leastSingle_11 L o k) v1 v2 v3 μ = some x := hm
    unfold fX9_leastSingle_11_b at hm
    refine lv_iload_n hx hb dX9_leastSingle_11 rfl (lv_at hl 3 rfl) ?_
    refine lv_aload_n hx hb dX9_leastSingle_12 rfl (lv_at hl 0 rfl) ?_
    refine r_getr S hG hP ho clX9 fX9_3 kX9_13 dX9_leastSingle_13 ?_
    refine lv_iload_n hx hb dX9_leastSingle_16 rfl (lv_at hl 1 rfl) ?_
    refine r_iald S hG hP (chX9_3 hG ho) hm dX9_leastSingle_17 (fun a2 hm => ?_)
    refine b_icmp_ge (tgt := 56) S dX9_leastSingle_18 (by decide) hm (fun hm => ?_) (fun hm => ?_)
    · refine lv_iload_n hx hb dX9_leastSingle_56 rfl (lv_at hl 2 rfl) ?_
      exact r_iret S hr hG hP hS hm dX9_leastSingle_57
    · refine lv_aload_n hx hb dX9_leastSingle_21 rfl (lv_at hl 0 rfl) ?_
      refine r_getr S hG hP ho clX9 fX9_9 kX9_25 dX9_leastSingle_22 ?_
      refine lv_iconst (v := (4 : Int32)) hx hb dX9_leastSingle_25 (by decide) ?_
      refine lv_iload_n hx hb dX9_leastSingle_26 rfl (lv_at hl 1 rfl) ?_
      refine lv_imul hx hb dX9_leastSingle_27 ?_
      refine lv_iload_n hx hb dX9_leastSingle_28 rfl (lv_at hl 3 rfl) ?_
      refine lv_iadd hx hb dX9_leastSingle_29 ?_
      refine r_iald S hG hP (chX9_9 hG ho) hm dX9_leastSingle_30 (fun a3 hm => ?_)
      refine lv_iload_n hx hb dX9_leastSingle_31 rfl (lv_at hl 2 rfl) ?_
      refine b_icmp_ge (tgt := 48) S dX9_leastSingle_32 (by decide) hm (fun hm => ?_) (fun hm => ?_)
      · refine lv_iload_n hx hb dX9_leastSingle_48 rfl (lv_at hl 2 rfl) ?_
        exact wX9_leastSingle_49 S hr hG ho ih v1 v3 v2 μ hm H locs ls hP hS (lv_sub hl [0, 1, 3] rfl)
      · refine lv_aload_n hx hb dX9_leastSingle_35 rfl (lv_at hl 0 rfl) ?_
        refine r_getr S hG hP ho clX9 fX9_9 kX9_25 dX9_leastSingle_36 ?_
        refine lv_iconst (v := (4 : Int32)) hx hb dX9_leastSingle_39 (by decide) ?_
        refine lv_iload_n hx hb dX9_leastSingle_40 rfl (lv_at hl 1 rfl) ?_
        refine lv_imul hx hb dX9_leastSingle_41 ?_
        refine lv_iload_n hx hb dX9_leastSingle_42 rfl (lv_at hl 3 rfl) ?_
        refine lv_iadd hx hb dX9_leastSingle_43 ?_
        refine r_iald S hG hP (chX9_9 hG ho) hm dX9_leastSingle_44 (fun a4 hm => ?_)
        refine lv_goto (tgt := 49) hx hb dX9_leastSingle_45 (by decide) ?_
        exact wX9_leastSingle_49 S hr hG ho ih v1 v3 a4 μ hm H locs ls hP hS (lv_sub hl [0, 1, 3] rfl)
set_option maxHeartbeats 4000000 in
set_option maxRecDepth 100000 in
theorem wX9_leastSingle_0 (S : CallFix p m c cX9_leastSingle 4 s args TB RX9) (hr : meth.sig.returnType = (some .int) ∧ meth.locks = false) (hG : gok D cI cR n K L ad s) {o : Nat} (ho : isk n K o 9) {x : Int32 × Mem} : ∀ (v1 : Int32) (μ : Mem), fX9_leastSingle L o v1 μ = some x → WI p l e (rmL 0) s m args below meth c D cI cR n K L ad 4 x μ 0 [(0, .ref (ad o)), (1, .int v1)] [] := by
  have hx := S.1
  have hb := S.2.1
  intro v1 μ hm H locs ls hP hS hl
  unfold fX9_leastSingle at hm
  refine lv_aload_n hx hb dX9_leastSingle_0 rfl (lv_at hl 0 rfl) ?_
  refine r_getr S hG hP ho clX9 fX9_9 kX9_25 dX9_leastSingle_1 ?_
  refine lv_iconst (v := (4 : Int32)) hx hb dX9_leastSingle_4 (by decide) ?_
  refine lv_iload_n hx hb dX9_leastSingle_5 rfl (lv_at hl 1 rfl) ?_
  refine lv_imul hx hb dX9_leastSingle_6 ?_
  refine r_iald S hG hP (chX9_9 hG ho) hm dX9_leastSingle_7 (fun a5 hm => ?_)
  refine lv_istore_n (lv' := [(2, .int a5), (0, .ref (ad o)), (1, .int v1)]) hx hb dX9_leastSingle_8 rfl hl (by decide) rfl (fun ls hl => ?_)
  refine lv_iconst (v := (1 : Int32)) hx hb dX9_leastSingle_9 (by decide) ?_
  refine lv_istore_n (lv' := [(3, .int (1 : Int32)), (2, .int a5), (0, .ref (ad o)), (1, .int v1)]) hx hb dX9_leastSingle_10 rfl hl (by decide) rfl (fun ls hl => ?_)
  exact wX9_leastSingle_11 S hr hG ho FU v1 a5 (1 : Int32) μ hm H locs ls hP hS (lv_sub hl [2, 3, 1, 0] rfl)
theorem tX9_leastSingle (l : Launch) (D : va_G) (cI cR : ClassId) (n : Nat) (K L ad : Nat → Nat) {o : Nat} (ho : isk n K o 9) (v1 : Int32) : Ci l yX9_leastSingle cX9_leastSingle 4 (some .int) (rmL 0) D cI cR n K L ad [.ref (ad o), .int v1] (fX9_leastSingle L o v1) := by
  refine Ci.ofW (by decide) (Nat.le_of_ble_eq_true rfl) ?_
  intro μ x hm p e s m args below meth c ls S hr hG hP hS hl
  exact wX9_leastSingle_0 S hr hG ho v1 μ hm _ _ ls hP hS hl
-- X9_isShut
set_option maxHeartbeats 4000000 in
set_option maxRecDepth 100000 in
theorem wX9_isShut_0 (S : CallFix p m c cX9_isShut 3 s args TB RX9) (hr : meth.sig.returnType = (some .boolean) ∧ meth.locks = false) (hG : gok D cI cR n K L ad s) {o : Nat} (ho : isk n K o 9) {x : Int32 × Mem} : ∀ (v1 v2 : Int32) (μ : Mem), fX9_isShut L o v1 v2 μ = some x → WI p l e (rmL 1) s m args below meth c D cI cR n K L ad 3 x μ 0 [(0, .ref (ad o)), (1, .int v1), (2, .int v2)] [] := by
  have hx := S.1
  have hb := S.2.1
  intro v1 v2 μ hm H locs ls hP hS hl
  unfold fX9_isShut at hm
  refine lv_aload_n hx hb dX9_isShut_0 rfl (lv_at hl 0 rfl) ?_
  refine lv_aload_n hx hb dX9_isShut_1 rfl (lv_at hl 0 rfl) ?_
  refine r_getr S hG hP ho clX9 fX9_9 kX9_25 dX9_isShut_2 ?_
  refine lv_sipush (v := (168 : Int32)) hx hb dX9_isShut_5 (by decide) ?_
  refine r_iald S hG hP (chX9_9 hG ho) hm dX9_isShut_8 (fun a1 hm => ?_)
  refine lv_aload_n hx hb dX9_isShut_9 rfl (lv_at hl 0 rfl) ?_
  refine r_getr S hG hP ho clX9 fX9_9 kX9_25 dX9_isShut_10 ?_
  refine lv_iconst (v := (4 : Int32)) hx hb dX9_isShut_13 (by decide) ?_
  refine lv_iload_n hx hb dX9_isShut_14 rfl (lv_at hl 1 rfl) ?_
  refine lv_imul hx hb dX9_isShut_15 ?_
  refine lv_iload_n hx hb dX9_isShut_16 rfl (lv_at hl 2 rfl) ?_
  refine lv_iadd hx hb dX9_isShut_17 ?_
  refine r_iald S hG hP (chX9_9 hG ho) hm dX9_isShut_18 (fun a2 hm => ?_)
  refine r_vcalli (As := [.int a1, .int a2]) (rest := []) S hG hP hS mX9_sum kX9_125 clX9 ho (tX9_sum _ _ _ _ _ _ _ _ ho a1 a2) ⟨rfl, rfl⟩ (rm_ok (by decide) (by decide)) hm hl.1 rfl (Nat.le_of_ble_eq_true rfl) ⟨Nat.zero_le _, Nat.zero_le _⟩ dX9_isShut_19 (fun b4 μ3 H locs hm hP hS => ?_)
  refine lv_aload_n hx hb dX9_isShut_22 rfl (lv_at hl 0 rfl) ?_
  refine r_geti S hG hP ho clX9 fX9_7 kX9_62 dX9_isShut_23 ?_
  refine b_icmp_ne (tgt := 33) S dX9_isShut_26 (by decide) hm (fun hm => ?_) (fun hm => ?_)
  · refine lv_iconst (v := (0 : Int32)) hx hb dX9_isShut_33 (by decide) ?_
    exact r_zretC S hr hG hP hS rfl hm dX9_isShut_34
  · refine lv_iconst (v := (1 : Int32)) hx hb dX9_isShut_29 (by decide) ?_
    refine lv_goto (tgt := 34) hx hb dX9_isShut_30 (by decide) ?_
    exact r_zretC S hr hG hP hS rfl hm dX9_isShut_34
theorem tX9_isShut (l : Launch) (D : va_G) (cI cR : ClassId) (n : Nat) (K L ad : Nat → Nat) {o : Nat} (ho : isk n K o 9) (v1 : Int32) (v2 : Int32) : Ci l yX9_isShut cX9_isShut 3 (some .boolean) (rmL 1) D cI cR n K L ad [.ref (ad o), .int v1, .int v2] (fX9_isShut L o v1 v2) := by
  refine Ci.ofW (by decide) (Nat.le_of_ble_eq_true rfl) ?_
  intro μ x hm p e s m args below meth c ls S hr hG hP hS hl
  exact wX9_isShut_0 S hr hG ho v1 v2 μ hm _ _ ls hP hS hl
-- X9_name
set_option maxHeartbeats 4000000 in
set_option maxRecDepth 100000 in
theorem wX9_name_141 (S : CallFix p m c cX9_name 5 s args TB RX9) (hr : meth.sig.returnType = (some .int) ∧ meth.locks = false) (hG : gok D cI cR n K L ad s) {o : Nat} (ho : isk n K o 9) {x : Int32 × Mem} {self111 : Int32 → Int32 → Int32 → Mem → Option (Int32 × Mem)} (hs111 : ∀ (v1 v3 v4 : Int32) (μ : Mem), self111 v1 v3 v4 μ = some x → WI p l e (rmL 2) s m args below meth c D cI cR n K L ad 5 x μ 111 [(0, .ref (ad o)), (1, .int v1), (3, .int v3), (4, .int v4)] []) : ∀ (v1 v4 s0 s1 : Int32) (μ : Mem), fX9_name_141 L o self111 v1 v4 s0 s1 μ = some x → WI p l e (rmL 2) s m args below meth c D cI cR n K L ad 5 x μ 141 [(0, .ref (ad o)), (1, .int v1), (4, .int v4)] [.int s0, .int s1] := by
  have hx := S.1
  have hb := S.2.1
  intro v1 v4 s0 s1 μ hm H locs ls hP hS hl
  unfold fX9_name_141 at hm
  refine lv_ior hx hb dX9_name_141 ?_
  refine r_top hm (fun a1 hm => ?_)
  refine lv_istore_n (lv' := [(3, .int a1), (0, .ref (ad o)), (1, .int v1), (4, .int v4)]) hx hb dX9_name_142 rfl hl (by decide) rfl (fun ls hl => ?_)
  refine r_iinc (b := (1 : Int32)) (k := 3) S hm dX9_name_143 hl rfl (by decide) (by decide) (fun a2 ls hm hl => ?_)
  have hl : lv_has ls 5 [(4, .int a2), (3, .int a1), (0, .ref (ad o)), (1, .int v1)] := hl
  refine lv_goto (tgt := 111) hx hb dX9_name_146 (by decide) ?_
  exact hs111 v1 a1 a2 μ hm H locs ls hP hS (lv_sub hl [2, 3, 1, 0] rfl)
set_option maxHeartbeats 4000000 in
set_option maxRecDepth 100000 in
theorem wX9_name_111 (S : CallFix p m c cX9_name 5 s args TB RX9) (hr : meth.sig.returnType = (some .int) ∧ meth.locks = false) (hG : gok D cI cR n K L ad s) {o : Nat} (ho : isk n K o 9) {x : Int32 × Mem} : ∀ (k : Nat) (v1 v3 v4 : Int32) (μ : Mem), fX9_name_111 L o k v1 v3 v4 μ = some x → WI p l e (rmL 2) s m args below meth c D cI cR n K L ad 5 x μ 111 [(0, .ref (ad o)), (1, .int v1), (3, .int v3), (4, .int v4)] [] := by
  have hx := S.1
  have hb := S.2.1
  intro k
  induction k with
  | zero => intro v1 v3 v4 μ hm; exact absurd (show none = some x from hm) (fun h => by cases h)
  | succ k ih =>
    intro v1 v3 v4 μ hm H locs ls hP hS hl
    have hm : fX9_name_111_b L o (fX9_name_111 L o k) v1 v3 v4 μ = some x := hm
    unfold fX9_name_111_b at hm
    refine lv_iload hx hb dX9_name_111 (lv_at hl 3 rfl) ?_
    refine lv_aload_n hx hb dX9_name_113 rfl (lv_at hl 0 rfl) ?_
    refine r_getr S hG hP ho clX9 fX9_3 kX9_13 dX9_name_114 ?_
    refine lv_iload_n hx hb dX9_name_117 rfl (lv_at hl 1 rfl) ?_
    refine r_iald S hG hP (chX9_3 hG ho) hm dX9_name_118 (fun a3 hm => ?_)
    refine b_icmp_ge (tgt := 149) S dX9_name_119 (by decide) hm (fun hm => ?_) (fun hm => ?_)
    · refine lv_iload_n hx hb dX9_name_149 rfl (lv_at hl 2 rfl) ?_
      exact r_iret S hr hG hP hS hm dX9_name_150
    · refine lv_iload_n hx hb dX9_name_122 rfl (lv_at hl 2 rfl) ?_
      refine lv_aload_n hx hb dX9_name_123 rfl (lv_at hl 0 rfl) ?_
      refine lv_iload_n hx hb dX9_name_124 rfl (lv_at hl 1 rfl) ?_
      refine lv_iload hx hb dX9_name_125 (lv_at hl 3 rfl) ?_
      refine r_vcalli (As := [.int v1, .int v4]) (rest := [.int v3]) S hG hP hS mX9_isShut kX9_138 clX9 ho (tX9_isShut _ _ _ _ _ _ _ _ ho v1 v4) ⟨rfl, rfl⟩ (rm_ok (by decide) (by decide)) hm hl.1 rfl (Nat.le_of_ble_eq_true rfl) ⟨Nat.zero_le _, Nat.zero_le _⟩ dX9_name_127 (fun b5 μ4 H locs hm hP hS => ?_)
      refine b_if_eq (tgt := 140) S dX9_name_130 (by decide) hm (fun hm => ?_) (fun hm => ?_)
      · refine lv_iconst (v := (0 : Int32)) hx hb dX9_name_140 (by decide) ?_
        exact wX9_name_141 S hr hG ho ih v1 v4 (0 : Int32) v3 μ4 hm H locs ls hP hS (lv_sub hl [0, 1, 3] rfl)
      · refine lv_iconst (v := (1 : Int32)) hx hb dX9_name_133 (by decide) ?_
        refine lv_iload hx hb dX9_name_134 (lv_at hl 3 rfl) ?_
        refine lv_ishl hx hb dX9_name_136 ?_
        refine lv_goto (tgt := 141) hx hb dX9_name_137 (by decide) ?_
        exact wX9_name_141 S hr hG ho ih v1 v4 ((1 : Int32) <<< (v4 &&& 31)) v3 μ4 hm H locs ls hP hS (lv_sub hl [0, 1, 3] rfl)
set_option maxHeartbeats 4000000 in
set_option maxRecDepth 100000 in
theorem wX9_name_97 (S : CallFix p m c cX9_name 5 s args TB RX9) (hr : meth.sig.returnType = (some .int) ∧ meth.locks = false) (hG : gok D cI cR n K L ad s) {o : Nat} (ho : isk n K o 9) {x : Int32 × Mem} {self57 : Int32 → Int32 → Int32 → Mem → Option (Int32 × Mem)} (hs57 : ∀ (v1 v3 v4 : Int32) (μ : Mem), self57 v1 v3 v4 μ = some x → WI p l e (rmL 2) s m args below meth c D cI cR n K L ad 5 x μ 57 [(0, .ref (ad o)), (1, .int v1), (3, .int v3), (4, .int v4)] []) : ∀ (v1 v4 s0 s1 : Int32) (μ : Mem), fX9_name_97 L o self57 v1 v4 s0 s1 μ = some x → WI p l e (rmL 2) s m args below meth c D cI cR n K L ad 5 x μ 97 [(0, .ref (ad o)), (1, .int v1), (4, .int v4)] [.int s0, .int s1] := by
  have hx := S.1
  have hb := S.2.1
  intro v1 v4 s0 s1 μ hm H locs ls hP hS hl
  unfold fX9_name_97 at hm
  refine lv_ior hx hb dX9_name_97 ?_
  refine r_top hm (fun a6 hm => ?_)
  refine lv_istore_n (lv' := [(3, .int a6), (0, .ref (ad o)), (1, .int v1), (4, .int v4)]) hx hb dX9_name_98 rfl hl (by decide) rfl (fun ls hl => ?_)
  refine r_iinc (b := (1 : Int32)) (k := 3) S hm dX9_name_99 hl rfl (by decide) (by decide) (fun a7 ls hm hl => ?_)
  have hl : lv_has ls 5 [(4, .int a7), (3, .int a6), (0, .ref (ad o)), (1, .int v1)] := hl
  refine lv_goto (tgt := 57) hx hb dX9_name_102 (by decide) ?_
  exact hs57 v1 a6 a7 μ hm H locs ls hP hS (lv_sub hl [2, 3, 1, 0] rfl)
set_option maxHeartbeats 4000000 in
set_option maxRecDepth 100000 in
theorem wX9_name_89 (S : CallFix p m c cX9_name 5 s args TB RX9) (hr : meth.sig.returnType = (some .int) ∧ meth.locks = false) (hG : gok D cI cR n K L ad s) {o : Nat} (ho : isk n K o 9) {x : Int32 × Mem} {self57 : Int32 → Int32 → Int32 → Mem → Option (Int32 × Mem)} (hs57 : ∀ (v1 v3 v4 : Int32) (μ : Mem), self57 v1 v3 v4 μ = some x → WI p l e (rmL 2) s m args below meth c D cI cR n K L ad 5 x μ 57 [(0, .ref (ad o)), (1, .int v1), (3, .int v3), (4, .int v4)] []) : ∀ (v1 v4 s0 : Int32) (μ : Mem), fX9_name_89 L o self57 v1 v4 s0 μ = some x → WI p l e (rmL 2) s m args below meth c D cI cR n K L ad 5 x μ 89 [(0, .ref (ad o)), (1, .int v1), (4, .int v4)] [.int s0] := by
  have hx := S.1
  have hb := S.2.1
  intro v1 v4 s0 μ hm H locs ls hP hS hl
  unfold fX9_name_89 at hm
  refine lv_iconst (v := (1 : Int32)) hx hb dX9_name_89 (by decide) ?_
  refine lv_iload hx hb dX9_name_90 (lv_at hl 2 rfl) ?_
  refine lv_ishl hx hb dX9_name_92 ?_
  refine lv_goto (tgt := 97) hx hb dX9_name_93 (by decide) ?_
  exact wX9_name_97 S hr hG ho hs57 v1 v4 ((1 : Int32) <<< (v4 &&& 31)) s0 μ hm H locs ls hP hS (lv_sub hl [0, 1, 2] rfl)
set_option maxHeartbeats 4000000 in
set_option maxRecDepth 100000 in
theorem wX9_name_57 (S : CallFix p m c cX9_name 5 s args TB RX9) (hr : meth.sig.returnType = (some .int) ∧ meth.locks = false) (hG : gok D cI cR n K L ad s) {o : Nat} (ho : isk n K o 9) {x : Int32 × Mem} : ∀ (k : Nat) (v1 v3 v4 : Int32) (μ : Mem), fX9_name_57 L o k v1 v3 v4 μ = some x → WI p l e (rmL 2) s m args below meth c D cI cR n K L ad 5 x μ 57 [(0, .ref (ad o)), (1, .int v1), (3, .int v3), (4, .int v4)] [] := by
  have hx := S.1
  have hb := S.2.1
  intro k
  induction k with
  | zero => intro v1 v3 v4 μ hm; exact absurd (show none = some x from hm) (fun h => by cases h)
  | succ k ih =>
    intro v1 v3 v4 μ hm H locs ls hP hS hl
    have hm : fX9_name_57_b L o (fX9_name_57 L o k) v1 v3 v4 μ = some x := hm
    unfold fX9_name_57_b at hm
    refine lv_iload hx hb dX9_name_57 (lv_at hl 3 rfl) ?_
    refine lv_aload_n hx hb dX9_name_59 rfl (lv_at hl 0 rfl) ?_
    refine r_geti S hG hP ho clX9 fX9_4 kX9_65 dX9_name_60 ?_
    refine b_icmp_ge (tgt := 105) S dX9_name_63 (by decide) hm (fun hm => ?_) (fun hm => ?_)
    · refine lv_goto (tgt := 149) hx hb dX9_name_105 (by decide) ?_
      refine lv_iload_n hx hb dX9_name_149 rfl (lv_at hl 2 rfl) ?_
      exact r_iret S hr hG hP hS hm dX9_name_150
    · refine lv_iload_n hx hb dX9_name_66 rfl (lv_at hl 2 rfl) ?_
      refine lv_aload_n hx hb dX9_name_67 rfl (lv_at hl 0 rfl) ?_
      refine r_getr S hG hP ho clX9 fX9_5 kX9_16 dX9_name_68 ?_
      refine lv_iload hx hb dX9_name_71 (lv_at hl 3 rfl) ?_
      refine r_iald S hG hP (chX9_5 hG ho) hm dX9_name_73 (fun a8 hm => ?_)
      refine lv_iload_n hx hb dX9_name_74 rfl (lv_at hl 1 rfl) ?_
      refine b_icmp_eq (tgt := 89) S dX9_name_75 (by decide) hm (fun hm => ?_) (fun hm => ?_)
      · exact wX9_name_89 S hr hG ho ih v1 v4 v3 μ hm H locs ls hP hS (lv_sub hl [0, 1, 3] rfl)
      · refine lv_aload_n hx hb dX9_name_78 rfl (lv_at hl 0 rfl) ?_
        refine r_getr S hG hP ho clX9 fX9_6 kX9_19 dX9_name_79 ?_
        refine lv_iload hx hb dX9_name_82 (lv_at hl 3 rfl) ?_
        refine r_iald S hG hP (chX9_6 hG ho) hm dX9_name_84 (fun a9 hm => ?_)
        refine lv_iload_n hx hb dX9_name_85 rfl (lv_at hl 1 rfl) ?_
        refine b_icmp_ne (tgt := 96) S dX9_name_86 (by decide) hm (fun hm => ?_) (fun hm => ?_)
        · refine lv_iconst (v := (0 : Int32)) hx hb dX9_name_96 (by decide) ?_
          exact wX9_name_97 S hr hG ho ih v1 v4 (0 : Int32) v3 μ hm H locs ls hP hS (lv_sub hl [0, 1, 3] rfl)
        · exact wX9_name_89 S hr hG ho ih v1 v4 v3 μ hm H locs ls hP hS (lv_sub hl [0, 1, 3] rfl)
set_option maxHeartbeats 4000000 in
set_option maxRecDepth 100000 in
theorem wX9_name_28 (S : CallFix p m c cX9_name 5 s args TB RX9) (hr : meth.sig.returnType = (some .int) ∧ meth.locks = false) (hG : gok D cI cR n K L ad s) {o : Nat} (ho : isk n K o 9) {x : Int32 × Mem} : ∀ (v1 v2 : Int32) (μ : Mem), fX9_name_28 L o v1 v2 μ = some x → WI p l e (rmL 2) s m args below meth c D cI cR n K L ad 5 x μ 28 [(0, .ref (ad o)), (1, .int v1), (2, .int v2)] [] := by
  have hx := S.1
  have hb := S.2.1
  intro v1 v2 μ hm H locs ls hP hS hl
  unfold fX9_name_28 at hm
  refine lv_iload_n hx hb dX9_name_28 rfl (lv_at hl 2 rfl) ?_
  refine b_if_ne (tgt := 41) S dX9_name_29 (by decide) hm (fun hm => ?_) (fun hm => ?_)
  · refine lv_aload_n hx hb dX9_name_41 rfl (lv_at hl 0 rfl) ?_
    refine lv_iload_n hx hb dX9_name_42 rfl (lv_at hl 1 rfl) ?_
    refine r_vcalli (As := [.int v1]) (rest := []) S hG hP hS mX9_leastSingle kX9_135 clX9 ho (tX9_leastSingle _ _ _ _ _ _ _ _ ho v1) ⟨rfl, rfl⟩ (rm_ok (by decide) (by decide)) hm hl.1 rfl (Nat.le_of_ble_eq_true rfl) ⟨Nat.zero_le _, Nat.zero_le _⟩ dX9_name_43 (fun b11 μ10 H locs hm hP hS => ?_)
    exact r_iret S hr hG hP hS hm dX9_name_46
  · refine lv_aload_n hx hb dX9_name_32 rfl (lv_at hl 0 rfl) ?_
    refine r_getr S hG hP ho clX9 fX9_3 kX9_13 dX9_name_33 ?_
    refine lv_iload_n hx hb dX9_name_36 rfl (lv_at hl 1 rfl) ?_
    refine r_iald S hG hP (chX9_3 hG ho) hm dX9_name_37 (fun a12 hm => ?_)
    refine lv_goto (tgt := 46) hx hb dX9_name_38 (by decide) ?_
    exact r_iret S hr hG hP hS hm dX9_name_46
set_option maxHeartbeats 4000000 in
set_option maxRecDepth 100000 in
theorem wX9_name_0 (S : CallFix p m c cX9_name 5 s args TB RX9) (hr : meth.sig.returnType = (some .int) ∧ meth.locks = false) (hG : gok D cI cR n K L ad s) {o : Nat} (ho : isk n K o 9) {x : Int32 × Mem} : ∀ (v1 v2 : Int32) (μ : Mem), fX9_name L o v1 v2 μ = some x → WI p l e (rmL 2) s m args below meth c D cI cR n K L ad 5 x μ 0 [(0, .ref (ad o)), (1, .int v1), (2, .int v2)] [] := by
  have hx := S.1
  have hb := S.2.1
  intro v1 v2 μ hm H locs ls hP hS hl
  unfold fX9_name at hm
  refine lv_aload_n hx hb dX9_name_0 rfl (lv_at hl 0 rfl) ?_
  refine lv_iload_n hx hb dX9_name_1 rfl (lv_at hl 1 rfl) ?_
  refine r_vcalli (As := [.int v1]) (rest := []) S hG hP hS mX9_isName kX9_132 clX9 ho (tX9_isName _ _ _ _ _ _ _ _ ho v1) ⟨rfl, rfl⟩ (rm_ok (by decide) (by decide)) hm hl.1 rfl (Nat.le_of_ble_eq_true rfl) ⟨Nat.zero_le _, Nat.zero_le _⟩ dX9_name_2 (fun b14 μ13 H locs hm hP hS => ?_)
  refine b_if_eq (tgt := 17) S dX9_name_5 (by decide) hm (fun hm => ?_) (fun hm => ?_)
  · refine lv_iconst (v := (-1 : Int32)) hx hb dX9_name_17 (by decide) ?_
    exact r_iret S hr hG hP hS hm dX9_name_18
  · refine lv_iload_n hx hb dX9_name_8 rfl (lv_at hl 2 rfl) ?_
    refine lv_iconst (v := (0 : Int32)) hx hb dX9_name_9 (by decide) ?_
    refine lv_iconst (v := (3 : Int32)) hx hb dX9_name_10 (by decide) ?_
    refine r_scalli (As := [.int v2, .int (0 : Int32), .int (3 : Int32)]) (rest := []) S hG hP hS mX9_isIn kX9_85 (tX9_isIn _ _ _ _ _ _ _ _ v2 (0 : Int32) (3 : Int32)) ⟨rfl, rfl⟩ (rm_ok (by decide) (by decide)) hm hl.1 rfl (Nat.le_of_ble_eq_true rfl) ⟨Nat.zero_le _, Nat.zero_le _⟩ dX9_name_11 (fun b16 μ15 H locs hm hP hS => ?_)
    refine b_if_ne (tgt := 19) S dX9_name_14 (by decide) hm (fun hm => ?_) (fun hm => ?_)
    · refine lv_iload_n hx hb dX9_name_19 rfl (lv_at hl 2 rfl) ?_
      refine b_if_eq (tgt := 28) S dX9_name_20 (by decide) hm (fun hm => ?_) (fun hm => ?_)
      · exact wX9_name_28 S hr hG ho v1 v2 μ15 hm H locs ls hP hS (lv_sub hl [0, 1, 2] rfl)
      · refine lv_iload_n hx hb dX9_name_23 rfl (lv_at hl 2 rfl) ?_
        refine lv_iconst (v := (3 : Int32)) hx hb dX9_name_24 (by decide) ?_
        refine b_icmp_ne (tgt := 47) S dX9_name_25 (by decide) hm (fun hm => ?_) (fun hm => ?_)
        · refine lv_iconst (v := (0 : Int32)) hx hb dX9_name_47 (by decide) ?_
          refine lv_istore_n (lv' := [(3, .int (0 : Int32)), (0, .ref (ad o)), (1, .int v1), (2, .int v2)]) hx hb dX9_name_48 rfl hl (by decide) rfl (fun ls hl => ?_)
          refine lv_iload_n hx hb dX9_name_49 rfl (lv_at hl 3 rfl) ?_
          refine lv_iconst (v := (1 : Int32)) hx hb dX9_name_50 (by decide) ?_
          refine b_icmp_ne (tgt := 108) S dX9_name_51 (by decide) hm (fun hm => ?_) (fun hm => ?_)
          · refine lv_iconst (v := (0 : Int32)) hx hb dX9_name_108 (by decide) ?_
            refine lv_istore (lv' := [(4, .int (0 : Int32)), (3, .int (0 : Int32)), (0, .ref (ad o)), (1, .int v1), (2, .int v2)]) hx hb dX9_name_109 hl (by decide) rfl (fun ls hl => ?_)
            exact wX9_name_111 S hr hG ho FU v1 (0 : Int32) (0 : Int32) μ15 hm H locs ls hP hS (lv_sub hl [2, 3, 1, 0] rfl)
          · refine lv_iconst (v := (0 : Int32)) hx hb dX9_name_54 (by decide) ?_
            refine lv_istore (lv' := [(4, .int (0 : Int32)), (3, .int (0 : Int32)), (0, .ref (ad o)), (1, .int v1), (2, .int v2)]) hx hb dX9_name_55 hl (by decide) rfl (fun ls hl => ?_)
            exact wX9_name_57 S hr hG ho FU v1 (0 : Int32) (0 : Int32) μ15 hm H locs ls hP hS (lv_sub hl [2, 3, 1, 0] rfl)
        · exact wX9_name_28 S hr hG ho v1 v2 μ15 hm H locs ls hP hS (lv_sub hl [0, 1, 2] rfl)
    · refine lv_iconst (v := (-1 : Int32)) hx hb dX9_name_17 (by decide) ?_
      exact r_iret S hr hG hP hS hm dX9_name_18
theorem tX9_name (l : Launch) (D : va_G) (cI cR : ClassId) (n : Nat) (K L ad : Nat → Nat) {o : Nat} (ho : isk n K o 9) (v1 : Int32) (v2 : Int32) : Ci l yX9_name cX9_name 5 (some .int) (rmL 2) D cI cR n K L ad [.ref (ad o), .int v1, .int v2] (fX9_name L o v1 v2) := by
  refine Ci.ofW (by decide) (Nat.le_of_ble_eq_true rfl) ?_
  intro μ x hm p e s m args below meth c ls S hr hG hP hS hl
  exact wX9_name_0 S hr hG ho v1 v2 μ hm _ _ ls hP hS hl
-- X9_single
set_option maxHeartbeats 4000000 in
set_option maxRecDepth 100000 in
theorem wX9_single_0 (S : CallFix p m c cX9_single 3 s args TB RX9) (hr : meth.sig.returnType = (some .int) ∧ meth.locks = false) (hG : gok D cI cR n K L ad s) {o : Nat} (ho : isk n K o 9) {x : Int32 × Mem} : ∀ (v1 v2 : Int32) (μ : Mem), fX9_single L o v1 v2 μ = some x → WI p l e (rmL 3) s m args below meth c D cI cR n K L ad 3 x μ 0 [(0, .ref (ad o)), (1, .int v1), (2, .int v2)] [] := by
  have hx := S.1
  have hb := S.2.1
  intro v1 v2 μ hm H locs ls hP hS hl
  unfold fX9_single at hm
  refine lv_aload_n hx hb dX9_single_0 rfl (lv_at hl 0 rfl) ?_
  refine lv_iload_n hx hb dX9_single_1 rfl (lv_at hl 1 rfl) ?_
  refine lv_iload_n hx hb dX9_single_2 rfl (lv_at hl 2 rfl) ?_
  refine r_vcalli (As := [.int v1, .int v2]) (rest := []) S hG hP hS mX9_isValue kX9_141 clX9 ho (tX9_isValue _ _ _ _ _ _ _ _ ho v1 v2) ⟨rfl, rfl⟩ (rm_ok (by decide) (by decide)) hm hl.1 rfl (Nat.le_of_ble_eq_true rfl) ⟨Nat.zero_le _, Nat.zero_le _⟩ dX9_single_3 (fun b2 μ1 H locs hm hP hS => ?_)
  refine b_if_eq (tgt := 22) S dX9_single_6 (by decide) hm (fun hm => ?_) (fun hm => ?_)
  · refine lv_iconst (v := (-1 : Int32)) hx hb dX9_single_22 (by decide) ?_
    exact r_iret S hr hG hP hS hm dX9_single_23
  · refine lv_aload_n hx hb dX9_single_9 rfl (lv_at hl 0 rfl) ?_
    refine r_getr S hG hP ho clX9 fX9_9 kX9_25 dX9_single_10 ?_
    refine lv_iconst (v := (4 : Int32)) hx hb dX9_single_13 (by decide) ?_
    refine lv_iload_n hx hb dX9_single_14 rfl (lv_at hl 1 rfl) ?_
    refine lv_imul hx hb dX9_single_15 ?_
    refine lv_iload_n hx hb dX9_single_16 rfl (lv_at hl 2 rfl) ?_
    refine lv_iadd hx hb dX9_single_17 ?_
    refine r_iald S hG hP (chX9_9 hG ho) hm dX9_single_18 (fun a3 hm => ?_)
    refine lv_goto (tgt := 23) hx hb dX9_single_19 (by decide) ?_
    exact r_iret S hr hG hP hS hm dX9_single_23
theorem tX9_single (l : Launch) (D : va_G) (cI cR : ClassId) (n : Nat) (K L ad : Nat → Nat) {o : Nat} (ho : isk n K o 9) (v1 : Int32) (v2 : Int32) : Ci l yX9_single cX9_single 3 (some .int) (rmL 3) D cI cR n K L ad [.ref (ad o), .int v1, .int v2] (fX9_single L o v1 v2) := by
  refine Ci.ofW (by decide) (Nat.le_of_ble_eq_true rfl) ?_
  intro μ x hm p e s m args below meth c ls S hr hG hP hS hl
  exact wX9_single_0 S hr hG ho v1 v2 μ hm _ _ ls hP hS hl
-- X9_table
set_option maxHeartbeats 4000000 in
set_option maxRecDepth 100000 in
theorem wX9_table_120 (S : CallFix p m c cX9_table 8 s args TB RX9) (hr : meth.sig.returnType = (some .int) ∧ meth.locks = false) (hG : gok D cI cR n K L ad s) {o : Nat} (ho : isk n K o 9) {x : Int32 × Mem} {self61 : Int32 → Int32 → Int32 → Int32 → Int32 → Int32 → Mem → Option (Int32 × Mem)} (hs61 : ∀ (v1 v2 v3 v4 v5 v6 : Int32) (μ : Mem), self61 v1 v2 v3 v4 v5 v6 μ = some x → WI p l e (rmL 2) s m args below meth c D cI cR n K L ad 8 x μ 61 [(0, .ref (ad o)), (1, .int v1), (2, .int v2), (3, .int v3), (4, .int v4), (5, .int v5), (6, .int v6)] []) : ∀ (v1 v2 v3 v5 v6 s0 : Int32) (μ : Mem), fX9_table_120 L o self61 v1 v2 v3 v5 v6 s0 μ = some x → WI p l e (rmL 2) s m args below meth c D cI cR n K L ad 8 x μ 120 [(0, .ref (ad o)), (1, .int v1), (2, .int v2), (3, .int v3), (5, .int v5), (6, .int v6)] [.int s0] := by
  have hx := S.1
  have hb := S.2.1
  intro v1 v2 v3 v5 v6 s0 μ hm H locs ls hP hS hl
  unfold fX9_table_120 at hm
  refine lv_istore (lv' := [(4, .int s0), (0, .ref (ad o)), (1, .int v1), (2, .int v2), (3, .int v3), (5, .int v5), (6, .int v6)]) hx hb dX9_table_120 hl (by decide) rfl (fun ls hl => ?_)
  refine r_iinc (b := (1 : Int32)) (k := 6) S hm dX9_table_122 hl rfl (by decide) (by decide) (fun a1 ls hm hl => ?_)
  have hl : lv_has ls 8 [(6, .int a1), (4, .int s0), (0, .ref (ad o)), (1, .int v1), (2, .int v2), (3, .int v3), (5, .int v5)] := hl
  refine lv_goto (tgt := 61) hx hb dX9_table_125 (by decide) ?_
  exact hs61 v1 v2 v3 s0 v5 a1 μ hm H locs ls hP hS (lv_sub hl [2, 3, 4, 5, 1, 6, 0] rfl)
set_option maxHeartbeats 4000000 in
set_option maxRecDepth 100000 in
theorem wX9_table_105 (S : CallFix p m c cX9_table 8 s args TB RX9) (hr : meth.sig.returnType = (some .int) ∧ meth.locks = false) (hG : gok D cI cR n K L ad s) {o : Nat} (ho : isk n K o 9) {x : Int32 × Mem} {self61 : Int32 → Int32 → Int32 → Int32 → Int32 → Int32 → Mem → Option (Int32 × Mem)} (hs61 : ∀ (v1 v2 v3 v4 v5 v6 : Int32) (μ : Mem), self61 v1 v2 v3 v4 v5 v6 μ = some x → WI p l e (rmL 2) s m args below meth c D cI cR n K L ad 8 x μ 61 [(0, .ref (ad o)), (1, .int v1), (2, .int v2), (3, .int v3), (4, .int v4), (5, .int v5), (6, .int v6)] []) : ∀ (v1 v2 v4 v5 v6 v7 s0 : Int32) (μ : Mem), fX9_table_105 L o self61 v1 v2 v4 v5 v6 v7 s0 μ = some x → WI p l e (rmL 2) s m args below meth c D cI cR n K L ad 8 x μ 105 [(0, .ref (ad o)), (1, .int v1), (2, .int v2), (4, .int v4), (5, .int v5), (6, .int v6), (7, .int v7)] [.int s0] := by
  have hx := S.1
  have hb := S.2.1
  intro v1 v2 v4 v5 v6 v7 s0 μ hm H locs ls hP hS hl
  unfold fX9_table_105 at hm
  refine lv_istore_n (lv' := [(3, .int s0), (0, .ref (ad o)), (1, .int v1), (2, .int v2), (4, .int v4), (5, .int v5), (6, .int v6), (7, .int v7)]) hx hb dX9_table_105 rfl hl (by decide) rfl (fun ls hl => ?_)
  refine lv_iload hx hb dX9_table_106 (lv_at hl 7 rfl) ?_
  refine lv_iload hx hb dX9_table_108 (lv_at hl 4 rfl) ?_
  refine b_icmp_le (tgt := 118) S dX9_table_110 (by decide) hm (fun hm => ?_) (fun hm => ?_)
  · refine lv_iload hx hb dX9_table_118 (lv_at hl 4 rfl) ?_
    exact wX9_table_120 S hr hG ho hs61 v1 v2 s0 v5 v6 v4 μ hm H locs ls hP hS (lv_sub hl [1, 2, 3, 0, 5, 6] rfl)
  · refine lv_iload hx hb dX9_table_113 (lv_at hl 7 rfl) ?_
    refine lv_goto (tgt := 120) hx hb dX9_table_115 (by decide) ?_
    exact wX9_table_120 S hr hG ho hs61 v1 v2 s0 v5 v6 v7 μ hm H locs ls hP hS (lv_sub hl [1, 2, 3, 0, 5, 6] rfl)
set_option maxHeartbeats 4000000 in
set_option maxRecDepth 100000 in
theorem wX9_table_61 (S : CallFix p m c cX9_table 8 s args TB RX9) (hr : meth.sig.returnType = (some .int) ∧ meth.locks = false) (hG : gok D cI cR n K L ad s) {o : Nat} (ho : isk n K o 9) {x : Int32 × Mem} {self42 : Int32 → Int32 → Int32 → Int32 → Int32 → Mem → Option (Int32 × Mem)} (hs42 : ∀ (v1 v2 v3 v4 v5 : Int32) (μ : Mem), self42 v1 v2 v3 v4 v5 μ = some x → WI p l e (rmL 2) s m args below meth c D cI cR n K L ad 8 x μ 42 [(0, .ref (ad o)), (1, .int v1), (2, .int v2), (3, .int v3), (4, .int v4), (5, .int v5)] []) : ∀ (k : Nat) (v1 v2 v3 v4 v5 v6 : Int32) (μ : Mem), fX9_table_61 L o self42 k v1 v2 v3 v4 v5 v6 μ = some x → WI p l e (rmL 2) s m args below meth c D cI cR n K L ad 8 x μ 61 [(0, .ref (ad o)), (1, .int v1), (2, .int v2), (3, .int v3), (4, .int v4), (5, .int v5), (6, .int v6)] [] := by
  have hx := S.1
  have hb := S.2.1
  intro k
  induction k with
  | zero => intro v1 v2 v3 v4 v5 v6 μ hm; exact absurd (show none = some x from hm) (fun h => by cases h)
  | succ k ih =>
    intro v1 v2 v3 v4 v5 v6 μ hm H locs ls hP hS hl
    have hm : fX9_table_61_b L o self42 (fX9_table_61 L o self42 k) v1 v2 v3 v4 v5 v6 μ = some x := hm
    unfold fX9_table_61_b at hm
    refine lv_iload hx hb dX9_table_61 (lv_at hl 6 rfl) ?_
    refine lv_aload_n hx hb dX9_table_63 rfl (lv_at hl 0 rfl) ?_
    refine r_getr S hG hP ho clX9 fX9_3 kX9_13 dX9_table_64 ?_
    refine lv_aload_n hx hb dX9_table_67 rfl (lv_at hl 0 rfl) ?_
    refine r_getr S hG hP ho clX9 fX9_6 kX9_19 dX9_table_68 ?_
    refine lv_iload_n hx hb dX9_table_71 rfl (lv_at hl 1 rfl) ?_
    refine r_iald S hG hP (chX9_6 hG ho) hm dX9_table_72 (fun a2 hm => ?_)
    refine r_iald S hG hP (chX9_3 hG ho) hm dX9_table_73 (fun a3 hm => ?_)
    refine b_icmp_ge (tgt := 128) S dX9_table_74 (by decide) hm (fun hm => ?_) (fun hm => ?_)
    · refine r_iinc (b := (1 : Int32)) (k := 5) S hm dX9_table_128 hl rfl (by decide) (by decide) (fun a4 ls hm hl => ?_)
      have hl : lv_has ls 8 [(5, .int a4), (0, .ref (ad o)), (1, .int v1), (2, .int v2), (3, .int v3), (4, .int v4), (6, .int v6)] := hl
      refine lv_goto (tgt := 42) hx hb dX9_table_131 (by decide) ?_
      exact hs42 v1 v2 v3 v4 a4 μ hm H locs ls hP hS (lv_sub hl [1, 2, 3, 4, 5, 0] rfl)
    · refine lv_aload_n hx hb dX9_table_77 rfl (lv_at hl 0 rfl) ?_
      refine r_getr S hG hP ho clX9 fX9_9 kX9_25 dX9_table_78 ?_
      refine lv_iload_n hx hb dX9_table_81 rfl (lv_at hl 1 rfl) ?_
      refine lv_iconst (v := (0 : Int32)) hx hb dX9_table_82 (by decide) ?_
      refine lv_iload hx hb dX9_table_83 (lv_at hl 5 rfl) ?_
      refine lv_iload hx hb dX9_table_85 (lv_at hl 6 rfl) ?_
      refine r_scalli (As := [.int v1, .int (0 : Int32), .int v5, .int v6]) (rest := [.ref (ad (o + 6))]) S hG hP hS mX9_pairAt kX9_150 (tX9_pairAt _ _ _ _ _ _ _ _ v1 (0 : Int32) v5 v6) ⟨rfl, rfl⟩ (rm_ok (by decide) (by decide)) hm hl.1 rfl (Nat.le_of_ble_eq_true rfl) ⟨Nat.zero_le _, Nat.zero_le _⟩ dX9_table_87 (fun b6 μ5 H locs hm hP hS => ?_)
      refine r_iald S hG hP (chX9_9 hG ho) hm dX9_table_90 (fun a7 hm => ?_)
      refine lv_istore (lv' := [(7, .int a7), (0, .ref (ad o)), (1, .int v1), (2, .int v2), (3, .int v3), (4, .int v4), (5, .int v5), (6, .int v6)]) hx hb dX9_table_91 hl (by decide) rfl (fun ls hl => ?_)
      refine lv_iload hx hb dX9_table_93 (lv_at hl 0 rfl) ?_
      refine lv_iload_n hx hb dX9_table_95 rfl (lv_at hl 4 rfl) ?_
      refine b_icmp_ge (tgt := 104) S dX9_table_96 (by decide) hm (fun hm => ?_) (fun hm => ?_)
      · refine lv_iload_n hx hb dX9_table_104 rfl (lv_at hl 4 rfl) ?_
        exact wX9_table_105 S hr hG ho ih v1 v2 v4 v5 v6 a7 v3 μ5 hm H locs ls hP hS (lv_sub hl [1, 2, 3, 5, 6, 7, 0] rfl)
      · refine lv_iload hx hb dX9_table_99 (lv_at hl 0 rfl) ?_
        refine lv_goto (tgt := 105) hx hb dX9_table_101 (by decide) ?_
        exact wX9_table_105 S hr hG ho ih v1 v2 v4 v5 v6 a7 a7 μ5 hm H locs ls hP hS (lv_sub hl [1, 2, 3, 5, 6, 7, 0] rfl)
set_option maxHeartbeats 4000000 in
set_option maxRecDepth 100000 in
theorem wX9_table_42 (S : CallFix p m c cX9_table 8 s args TB RX9) (hr : meth.sig.returnType = (some .int) ∧ meth.locks = false) (hG : gok D cI cR n K L ad s) {o : Nat} (ho : isk n K o 9) {x : Int32 × Mem} : ∀ (k : Nat) (v1 v2 v3 v4 v5 : Int32) (μ : Mem), fX9_table_42 L o k v1 v2 v3 v4 v5 μ = some x → WI p l e (rmL 2) s m args below meth c D cI cR n K L ad 8 x μ 42 [(0, .ref (ad o)), (1, .int v1), (2, .int v2), (3, .int v3), (4, .int v4), (5, .int v5)] [] := by
  have hx := S.1
  have hb := S.2.1
  intro k
  induction k with
  | zero => intro v1 v2 v3 v4 v5 μ hm; exact absurd (show none = some x from hm) (fun h => by cases h)
  | succ k ih =>
    intro v1 v2 v3 v4 v5 μ hm H locs ls hP hS hl
    have hm : fX9_table_42_b L o (fX9_table_42 L o k) v1 v2 v3 v4 v5 μ = some x := hm
    unfold fX9_table_42_b at hm
    refine lv_iload hx hb dX9_table_42 (lv_at hl 5 rfl) ?_
    refine lv_aload_n hx hb dX9_table_44 rfl (lv_at hl 0 rfl) ?_
    refine r_getr S hG hP ho clX9 fX9_3 kX9_13 dX9_table_45 ?_
    refine lv_aload_n hx hb dX9_table_48 rfl (lv_at hl 0 rfl) ?_
    refine r_getr S hG hP ho clX9 fX9_5 kX9_16 dX9_table_49 ?_
    refine lv_iload_n hx hb dX9_table_52 rfl (lv_at hl 1 rfl) ?_
    refine r_iald S hG hP (chX9_5 hG ho) hm dX9_table_53 (fun a8 hm => ?_)
    refine r_iald S hG hP (chX9_3 hG ho) hm dX9_table_54 (fun a9 hm => ?_)
    refine b_icmp_ge (tgt := 134) S dX9_table_55 (by decide) hm (fun hm => ?_) (fun hm => ?_)
    · refine lv_iload_n hx hb dX9_table_134 rfl (lv_at hl 2 rfl) ?_
      refine lv_iconst (v := (2 : Int32)) hx hb dX9_table_135 (by decide) ?_
      refine b_icmp_ne (tgt := 143) S dX9_table_136 (by decide) hm (fun hm => ?_) (fun hm => ?_)
      · refine lv_iload hx hb dX9_table_143 (lv_at hl 4 rfl) ?_
        exact r_iret S hr hG hP hS hm dX9_table_145
      · refine lv_iload_n hx hb dX9_table_139 rfl (lv_at hl 3 rfl) ?_
        refine lv_goto (tgt := 145) hx hb dX9_table_140 (by decide) ?_
        exact r_iret S hr hG hP hS hm dX9_table_145
    · refine lv_iconst (v := (0 : Int32)) hx hb dX9_table_58 (by decide) ?_
      refine lv_istore (lv' := [(6, .int (0 : Int32)), (0, .ref (ad o)), (1, .int v1), (2, .int v2), (3, .int v3), (4, .int v4), (5, .int v5)]) hx hb dX9_table_59 hl (by decide) rfl (fun ls hl => ?_)
      exact wX9_table_61 S hr hG ho ih FU v1 v2 v3 v4 v5 (0 : Int32) μ hm H locs ls hP hS (lv_sub hl [1, 2, 3, 4, 5, 6, 0] rfl)
set_option maxHeartbeats 4000000 in
set_option maxRecDepth 100000 in
theorem wX9_table_0 (S : CallFix p m c cX9_table 8 s args TB RX9) (hr : meth.sig.returnType = (some .int) ∧ meth.locks = false) (hG : gok D cI cR n K L ad s) {o : Nat} (ho : isk n K o 9) {x : Int32 × Mem} : ∀ (v1 v2 : Int32) (μ : Mem), fX9_table L o v1 v2 μ = some x → WI p l e (rmL 2) s m args below meth c D cI cR n K L ad 8 x μ 0 [(0, .ref (ad o)), (1, .int v1), (2, .int v2)] [] := by
  have hx := S.1
  have hb := S.2.1
  intro v1 v2 μ hm H locs ls hP hS hl
  unfold fX9_table at hm
  refine lv_aload_n hx hb dX9_table_0 rfl (lv_at hl 0 rfl) ?_
  refine lv_iload_n hx hb dX9_table_1 rfl (lv_at hl 1 rfl) ?_
  refine r_vcalli (As := [.int v1]) (rest := []) S hG hP hS mX9_isTable kX9_144 clX9 ho (tX9_isTable _ _ _ _ _ _ _ _ ho v1) ⟨rfl, rfl⟩ (rm_ok (by decide) (by decide)) hm hl.1 rfl (Nat.le_of_ble_eq_true rfl) ⟨Nat.zero_le _, Nat.zero_le _⟩ dX9_table_2 (fun b11 μ10 H locs hm hP hS => ?_)
  refine b_if_eq (tgt := 17) S dX9_table_5 (by decide) hm (fun hm => ?_) (fun hm => ?_)
  · refine lv_iconst (v := (-1 : Int32)) hx hb dX9_table_17 (by decide) ?_
    exact r_iret S hr hG hP hS hm dX9_table_18
  · refine lv_iload_n hx hb dX9_table_8 rfl (lv_at hl 2 rfl) ?_
    refine lv_iconst (v := (0 : Int32)) hx hb dX9_table_9 (by decide) ?_
    refine lv_iconst (v := (3 : Int32)) hx hb dX9_table_10 (by decide) ?_
    refine r_scalli (As := [.int v2, .int (0 : Int32), .int (3 : Int32)]) (rest := []) S hG hP hS mX9_isIn kX9_85 (tX9_isIn _ _ _ _ _ _ _ _ v2 (0 : Int32) (3 : Int32)) ⟨rfl, rfl⟩ (rm_ok (by decide) (by decide)) hm hl.1 rfl (Nat.le_of_ble_eq_true rfl) ⟨Nat.zero_le _, Nat.zero_le _⟩ dX9_table_11 (fun b13 μ12 H locs hm hP hS => ?_)
    refine b_if_ne (tgt := 19) S dX9_table_14 (by decide) hm (fun hm => ?_) (fun hm => ?_)
    · refine lv_iload_n hx hb dX9_table_19 rfl (lv_at hl 2 rfl) ?_
      refine lv_iconst (v := (2 : Int32)) hx hb dX9_table_20 (by decide) ?_
      refine b_icmp_ge (tgt := 31) S dX9_table_21 (by decide) hm (fun hm => ?_) (fun hm => ?_)
      · refine lv_aload_n hx hb dX9_table_31 rfl (lv_at hl 0 rfl) ?_
        refine r_geti S hG hP ho clX9 fX9_7 kX9_62 dX9_table_32 ?_
        refine r_top hm (fun a14 hm => ?_)
        refine lv_istore_n (lv' := [(3, .int a14), (0, .ref (ad o)), (1, .int v1), (2, .int v2)]) hx hb dX9_table_35 rfl hl (by decide) rfl (fun ls hl => ?_)
        refine lv_iconst (v := (0 : Int32)) hx hb dX9_table_36 (by decide) ?_
        refine lv_istore (lv' := [(4, .int (0 : Int32)), (3, .int a14), (0, .ref (ad o)), (1, .int v1), (2, .int v2)]) hx hb dX9_table_37 hl (by decide) rfl (fun ls hl => ?_)
        refine lv_iconst (v := (0 : Int32)) hx hb dX9_table_39 (by decide) ?_
        refine lv_istore (lv' := [(5, .int (0 : Int32)), (4, .int (0 : Int32)), (3, .int a14), (0, .ref (ad o)), (1, .int v1), (2, .int v2)]) hx hb dX9_table_40 hl (by decide) rfl (fun ls hl => ?_)
        exact wX9_table_42 S hr hG ho FU v1 v2 a14 (0 : Int32) (0 : Int32) μ12 hm H locs ls hP hS (lv_sub hl [3, 4, 5, 2, 1, 0] rfl)
      · refine lv_aload_n hx hb dX9_table_24 rfl (lv_at hl 0 rfl) ?_
        refine lv_iload_n hx hb dX9_table_25 rfl (lv_at hl 1 rfl) ?_
        refine lv_iload_n hx hb dX9_table_26 rfl (lv_at hl 2 rfl) ?_
        refine r_vcalli (As := [.int v1, .int v2]) (rest := []) S hG hP hS mX9_nameOf kX9_147 clX9 ho (tX9_nameOf _ _ _ _ _ _ _ _ ho v1 v2) ⟨rfl, rfl⟩ (rm_ok (by decide) (by decide)) hm hl.1 rfl (Nat.le_of_ble_eq_true rfl) ⟨Nat.zero_le _, Nat.zero_le _⟩ dX9_table_27 (fun b16 μ15 H locs hm hP hS => ?_)
        exact r_iret S hr hG hP hS hm dX9_table_30
    · refine lv_iconst (v := (-1 : Int32)) hx hb dX9_table_17 (by decide) ?_
      exact r_iret S hr hG hP hS hm dX9_table_18
theorem tX9_table (l : Launch) (D : va_G) (cI cR : ClassId) (n : Nat) (K L ad : Nat → Nat) {o : Nat} (ho : isk n K o 9) (v1 : Int32) (v2 : Int32) : Ci l yX9_table cX9_table 8 (some .int) (rmL 2) D cI cR n K L ad [.ref (ad o), .int v1, .int v2] (fX9_table L o v1 v2) := by
  refine Ci.ofW (by decide) (Nat.le_of_ble_eq_true rfl) ?_
  intro μ x hm p e s m args below meth c ls S hr hG hP hS hl
  exact wX9_table_0 S hr hG ho v1 v2 μ hm _ _ ls hP hS hl
-- X9_pair
set_option maxHeartbeats 4000000 in
set_option maxRecDepth 100000 in
theorem wX9_pair_0 (S : CallFix p m c cX9_pair 4 s args TB RX9) (hr : meth.sig.returnType = (some .int) ∧ meth.locks = false) (hG : gok D cI cR n K L ad s) {o : Nat} (ho : isk n K o 9) {x : Int32 × Mem} : ∀ (v1 v2 v3 : Int32) (μ : Mem), fX9_pair L o v1 v2 v3 μ = some x → WI p l e (rmL 3) s m args below meth c D cI cR n K L ad 4 x μ 0 [(0, .ref (ad o)), (1, .int v1), (2, .int v2), (3, .int v3)] [] := by
  have hx := S.1
  have hb := S.2.1
  intro v1 v2 v3 μ hm H locs ls hP hS hl
  unfold fX9_pair at hm
  refine lv_aload_n hx hb dX9_pair_0 rfl (lv_at hl 0 rfl) ?_
  refine lv_iload_n hx hb dX9_pair_1 rfl (lv_at hl 1 rfl) ?_
  refine r_vcalli (As := [.int v1]) (rest := []) S hG hP hS mX9_isTable kX9_144 clX9 ho (tX9_isTable _ _ _ _ _ _ _ _ ho v1) ⟨rfl, rfl⟩ (rm_ok (by decide) (by decide)) hm hl.1 rfl (Nat.le_of_ble_eq_true rfl) ⟨Nat.zero_le _, Nat.zero_le _⟩ dX9_pair_2 (fun b2 μ1 H locs hm hP hS => ?_)
  refine b_if_eq (tgt := 51) S dX9_pair_5 (by decide) hm (fun hm => ?_) (fun hm => ?_)
  · refine lv_iconst (v := (-1 : Int32)) hx hb dX9_pair_51 (by decide) ?_
    exact r_iret S hr hG hP hS hm dX9_pair_52
  · refine lv_aload_n hx hb dX9_pair_8 rfl (lv_at hl 0 rfl) ?_
    refine lv_aload_n hx hb dX9_pair_9 rfl (lv_at hl 0 rfl) ?_
    refine r_getr S hG hP ho clX9 fX9_5 kX9_16 dX9_pair_10 ?_
    refine lv_iload_n hx hb dX9_pair_13 rfl (lv_at hl 1 rfl) ?_
    refine r_iald S hG hP (chX9_5 hG ho) hm dX9_pair_14 (fun a3 hm => ?_)
    refine lv_iload_n hx hb dX9_pair_15 rfl (lv_at hl 2 rfl) ?_
    refine r_vcalli (As := [.int a3, .int v2]) (rest := []) S hG hP hS mX9_isValue kX9_141 clX9 ho (tX9_isValue _ _ _ _ _ _ _ _ ho a3 v2) ⟨rfl, rfl⟩ (rm_ok (by decide) (by decide)) hm hl.1 rfl (Nat.le_of_ble_eq_true rfl) ⟨Nat.zero_le _, Nat.zero_le _⟩ dX9_pair_16 (fun b5 μ4 H locs hm hP hS => ?_)
    refine b_if_eq (tgt := 51) S dX9_pair_19 (by decide) hm (fun hm => ?_) (fun hm => ?_)
    · refine lv_iconst (v := (-1 : Int32)) hx hb dX9_pair_51 (by decide) ?_
      exact r_iret S hr hG hP hS hm dX9_pair_52
    · refine lv_aload_n hx hb dX9_pair_22 rfl (lv_at hl 0 rfl) ?_
      refine lv_aload_n hx hb dX9_pair_23 rfl (lv_at hl 0 rfl) ?_
      refine r_getr S hG hP ho clX9 fX9_6 kX9_19 dX9_pair_24 ?_
      refine lv_iload_n hx hb dX9_pair_27 rfl (lv_at hl 1 rfl) ?_
      refine r_iald S hG hP (chX9_6 hG ho) hm dX9_pair_28 (fun a6 hm => ?_)
      refine lv_iload_n hx hb dX9_pair_29 rfl (lv_at hl 3 rfl) ?_
      refine r_vcalli (As := [.int a6, .int v3]) (rest := []) S hG hP hS mX9_isValue kX9_141 clX9 ho (tX9_isValue _ _ _ _ _ _ _ _ ho a6 v3) ⟨rfl, rfl⟩ (rm_ok (by decide) (by decide)) hm hl.1 rfl (Nat.le_of_ble_eq_true rfl) ⟨Nat.zero_le _, Nat.zero_le _⟩ dX9_pair_30 (fun b8 μ7 H locs hm hP hS => ?_)
      refine b_if_eq (tgt := 51) S dX9_pair_33 (by decide) hm (fun hm => ?_) (fun hm => ?_)
      · refine lv_iconst (v := (-1 : Int32)) hx hb dX9_pair_51 (by decide) ?_
        exact r_iret S hr hG hP hS hm dX9_pair_52
      · refine lv_aload_n hx hb dX9_pair_36 rfl (lv_at hl 0 rfl) ?_
        refine r_getr S hG hP ho clX9 fX9_9 kX9_25 dX9_pair_37 ?_
        refine lv_iload_n hx hb dX9_pair_40 rfl (lv_at hl 1 rfl) ?_
        refine lv_iconst (v := (0 : Int32)) hx hb dX9_pair_41 (by decide) ?_
        refine lv_iload_n hx hb dX9_pair_42 rfl (lv_at hl 2 rfl) ?_
        refine lv_iload_n hx hb dX9_pair_43 rfl (lv_at hl 3 rfl) ?_
        refine r_scalli (As := [.int v1, .int (0 : Int32), .int v2, .int v3]) (rest := [.ref (ad (o + 6))]) S hG hP hS mX9_pairAt kX9_150 (tX9_pairAt _ _ _ _ _ _ _ _ v1 (0 : Int32) v2 v3) ⟨rfl, rfl⟩ (rm_ok (by decide) (by decide)) hm hl.1 rfl (Nat.le_of_ble_eq_true rfl) ⟨Nat.zero_le _, Nat.zero_le _⟩ dX9_pair_44 (fun b10 μ9 H locs hm hP hS => ?_)
        refine r_iald S hG hP (chX9_9 hG ho) hm dX9_pair_47 (fun a11 hm => ?_)
        refine lv_goto (tgt := 52) hx hb dX9_pair_48 (by decide) ?_
        exact r_iret S hr hG hP hS hm dX9_pair_52
theorem tX9_pair (l : Launch) (D : va_G) (cI cR : ClassId) (n : Nat) (K L ad : Nat → Nat) {o : Nat} (ho : isk n K o 9) (v1 : Int32) (v2 : Int32) (v3 : Int32) : Ci l yX9_pair cX9_pair 4 (some .int) (rmL 3) D cI cR n K L ad [.ref (ad o), .int v1, .int v2, .int v3] (fX9_pair L o v1 v2 v3) := by
  refine Ci.ofW (by decide) (Nat.le_of_ble_eq_true rfl) ?_
  intro μ x hm p e s m args below meth c ls S hr hG hP hS hl
  exact wX9_pair_0 S hr hG ho v1 v2 v3 μ hm _ _ ls hP hS hl
-- X9_keeps
set_option maxHeartbeats 4000000 in
set_option maxRecDepth 100000 in
theorem wX9_keeps_52 (S : CallFix p m c cX9_keeps 2 s args TB RX9) (hr : meth.sig.returnType = none ∧ meth.locks = false) (hG : gok D cI cR n K L ad s) {o : Nat} (ho : isk n K o 9) {x : Mem} : ∀ (k : Nat) (v1 : Int32) (μ : Mem), fX9_keeps_52 L o k v1 μ = some x → WV p l e (rmL 0) s m args below meth c D cI cR n K L ad 2 x μ 52 [(0, .ref (ad o)), (1, .int v1)] [] := by
  have hx := S.1
  have hb := S.2.1
  intro k
  induction k with
  | zero => intro v1 μ hm; exact absurd (show none = some x from hm) (fun h => by cases h)
  | succ k ih =>
    intro v1 μ hm H locs ls hP hS hl
    have hm : fX9_keeps_52_b L o (fX9_keeps_52 L o k) v1 μ = some x := hm
    unfold fX9_keeps_52_b at hm
    refine lv_iload_n hx hb dX9_keeps_52 rfl (lv_at hl 1 rfl) ?_
    refine lv_sipush (v := (169 : Int32)) hx hb dX9_keeps_53 (by decide) ?_
    refine b_icmp_ge (tgt := 86) S dX9_keeps_56 (by decide) hm (fun hm => ?_) (fun hm => ?_)
    · refine lv_aload_n hx hb dX9_keeps_86 rfl (lv_at hl 0 rfl) ?_
      refine lv_dup hx hb dX9_keeps_87 rfl ?_
      refine r_geti S hG hP ho clX9 fX9_11 kX9_129 dX9_keeps_88 ?_
      refine lv_iconst (v := (1 : Int32)) hx hb dX9_keeps_91 (by decide) ?_
      refine lv_iadd hx hb dX9_keeps_92 ?_
      refine r_puti S hG hP hS ho clX9 fX9_11 kX9_129 hm dX9_keeps_93 (fun μ1 H locs hm hP hS => ?_)
      exact r_vret S hr hG hP hS hm dX9_keeps_96
    · refine lv_aload_n hx hb dX9_keeps_59 rfl (lv_at hl 0 rfl) ?_
      refine r_getr S hG hP ho clX9 fX9_10 kX9_28 dX9_keeps_60 ?_
      refine lv_sipush (v := (169 : Int32)) hx hb dX9_keeps_63 (by decide) ?_
      refine lv_aload_n hx hb dX9_keeps_66 rfl (lv_at hl 0 rfl) ?_
      refine r_geti S hG hP ho clX9 fX9_11 kX9_129 dX9_keeps_67 ?_
      refine lv_imul hx hb dX9_keeps_70 ?_
      refine lv_iload_n hx hb dX9_keeps_71 rfl (lv_at hl 1 rfl) ?_
      refine lv_iadd hx hb dX9_keeps_72 ?_
      refine lv_aload_n hx hb dX9_keeps_73 rfl (lv_at hl 0 rfl) ?_
      refine r_getr S hG hP ho clX9 fX9_9 kX9_25 dX9_keeps_74 ?_
      refine lv_iload_n hx hb dX9_keeps_77 rfl (lv_at hl 1 rfl) ?_
      refine r_iald S hG hP (chX9_9 hG ho) hm dX9_keeps_78 (fun a2 hm => ?_)
      refine r_iast S hG hP hS (chX9_10 hG ho) hm dX9_keeps_79 (fun μ3 H locs hm hP hS => ?_)
      refine r_iinc (b := (1 : Int32)) (k := 1) S hm dX9_keeps_80 hl rfl (by decide) (by decide) (fun a4 ls hm hl => ?_)
      have hl : lv_has ls 2 [(1, .int a4), (0, .ref (ad o))] := hl
      refine lv_goto (tgt := 52) hx hb dX9_keeps_83 (by decide) ?_
      exact ih a4 μ3 hm H locs ls hP hS (lv_sub hl [1, 0] rfl)
set_option maxHeartbeats 4000000 in
set_option maxRecDepth 100000 in
theorem wX9_keeps_50 (S : CallFix p m c cX9_keeps 2 s args TB RX9) (hr : meth.sig.returnType = none ∧ meth.locks = false) (hG : gok D cI cR n K L ad s) {o : Nat} (ho : isk n K o 9) {x : Mem} : ∀ (μ : Mem), fX9_keeps_50 L o μ = some x → WV p l e (rmL 0) s m args below meth c D cI cR n K L ad 2 x μ 50 [(0, .ref (ad o))] [] := by
  have hx := S.1
  have hb := S.2.1
  intro μ hm H locs ls hP hS hl
  unfold fX9_keeps_50 at hm
  refine lv_iconst (v := (0 : Int32)) hx hb dX9_keeps_50 (by decide) ?_
  refine lv_istore_n (lv' := [(1, .int (0 : Int32)), (0, .ref (ad o))]) hx hb dX9_keeps_51 rfl hl (by decide) rfl (fun ls hl => ?_)
  exact wX9_keeps_52 S hr hG ho FU (0 : Int32) μ hm H locs ls hP hS (lv_sub hl [1, 0] rfl)
set_option maxHeartbeats 4000000 in
set_option maxRecDepth 100000 in
theorem wX9_keeps_11 (S : CallFix p m c cX9_keeps 2 s args TB RX9) (hr : meth.sig.returnType = none ∧ meth.locks = false) (hG : gok D cI cR n K L ad s) {o : Nat} (ho : isk n K o 9) {x : Mem} : ∀ (k : Nat) (v1 : Int32) (μ : Mem), fX9_keeps_11 L o k v1 μ = some x → WV p l e (rmL 0) s m args below meth c D cI cR n K L ad 2 x μ 11 [(0, .ref (ad o)), (1, .int v1)] [] := by
  have hx := S.1
  have hb := S.2.1
  intro k
  induction k with
  | zero => intro v1 μ hm; exact absurd (show none = some x from hm) (fun h => by cases h)
  | succ k ih =>
    intro v1 μ hm H locs ls hP hS hl
    have hm : fX9_keeps_11_b L o (fX9_keeps_11 L o k) v1 μ = some x := hm
    unfold fX9_keeps_11_b at hm
    refine lv_iload_n hx hb dX9_keeps_11 rfl (lv_at hl 1 rfl) ?_
    refine lv_sipush (v := (845 : Int32)) hx hb dX9_keeps_12 (by decide) ?_
    refine b_icmp_ge (tgt := 40) S dX9_keeps_15 (by decide) hm (fun hm => ?_) (fun hm => ?_)
    · refine lv_aload_n hx hb dX9_keeps_40 rfl (lv_at hl 0 rfl) ?_
      refine lv_dup hx hb dX9_keeps_41 rfl ?_
      refine r_geti S hG hP ho clX9 fX9_11 kX9_129 dX9_keeps_42 ?_
      refine lv_iconst (v := (1 : Int32)) hx hb dX9_keeps_45 (by decide) ?_
      refine lv_isub hx hb dX9_keeps_46 ?_
      refine r_puti S hG hP hS ho clX9 fX9_11 kX9_129 hm dX9_keeps_47 (fun μ5 H locs hm hP hS => ?_)
      exact wX9_keeps_50 S hr hG ho μ5 hm H locs ls hP hS (lv_sub hl [0] rfl)
    · refine lv_aload_n hx hb dX9_keeps_18 rfl (lv_at hl 0 rfl) ?_
      refine r_getr S hG hP ho clX9 fX9_10 kX9_28 dX9_keeps_19 ?_
      refine lv_iload_n hx hb dX9_keeps_22 rfl (lv_at hl 1 rfl) ?_
      refine lv_aload_n hx hb dX9_keeps_23 rfl (lv_at hl 0 rfl) ?_
      refine r_getr S hG hP ho clX9 fX9_10 kX9_28 dX9_keeps_24 ?_
      refine lv_iload_n hx hb dX9_keeps_27 rfl (lv_at hl 1 rfl) ?_
      refine lv_sipush (v := (169 : Int32)) hx hb dX9_keeps_28 (by decide) ?_
      refine lv_iadd hx hb dX9_keeps_31 ?_
      refine r_iald S hG hP (chX9_10 hG ho) hm dX9_keeps_32 (fun a6 hm => ?_)
      refine r_iast S hG hP hS (chX9_10 hG ho) hm dX9_keeps_33 (fun μ7 H locs hm hP hS => ?_)
      refine r_iinc (b := (1 : Int32)) (k := 1) S hm dX9_keeps_34 hl rfl (by decide) (by decide) (fun a8 ls hm hl => ?_)
      have hl : lv_has ls 2 [(1, .int a8), (0, .ref (ad o))] := hl
      refine lv_goto (tgt := 11) hx hb dX9_keeps_37 (by decide) ?_
      exact ih a8 μ7 hm H locs ls hP hS (lv_sub hl [1, 0] rfl)
set_option maxHeartbeats 4000000 in
set_option maxRecDepth 100000 in
theorem wX9_keeps_0 (S : CallFix p m c cX9_keeps 2 s args TB RX9) (hr : meth.sig.returnType = none ∧ meth.locks = false) (hG : gok D cI cR n K L ad s) {o : Nat} (ho : isk n K o 9) {x : Mem} : ∀ (μ : Mem), fX9_keeps L o μ = some x → WV p l e (rmL 0) s m args below meth c D cI cR n K L ad 2 x μ 0 [(0, .ref (ad o))] [] := by
  have hx := S.1
  have hb := S.2.1
  intro μ hm H locs ls hP hS hl
  unfold fX9_keeps at hm
  refine lv_aload_n hx hb dX9_keeps_0 rfl (lv_at hl 0 rfl) ?_
  refine r_geti S hG hP ho clX9 fX9_11 kX9_129 dX9_keeps_1 ?_
  refine lv_bipush (v := (6 : Int32)) hx hb dX9_keeps_4 (by decide) ?_
  refine b_icmp_ne (tgt := 50) S dX9_keeps_6 (by decide) hm (fun hm => ?_) (fun hm => ?_)
  · exact wX9_keeps_50 S hr hG ho μ hm H locs ls hP hS (lv_sub hl [0] rfl)
  · refine lv_iconst (v := (0 : Int32)) hx hb dX9_keeps_9 (by decide) ?_
    refine lv_istore_n (lv' := [(1, .int (0 : Int32)), (0, .ref (ad o))]) hx hb dX9_keeps_10 rfl hl (by decide) rfl (fun ls hl => ?_)
    exact wX9_keeps_11 S hr hG ho FU (0 : Int32) μ hm H locs ls hP hS (lv_sub hl [1, 0] rfl)
theorem tX9_keeps (l : Launch) (D : va_G) (cI cR : ClassId) (n : Nat) (K L ad : Nat → Nat) {o : Nat} (ho : isk n K o 9) : Cv l yX9_keeps cX9_keeps 2 none (rmL 0) D cI cR n K L ad [.ref (ad o)] (fX9_keeps L o) := by
  refine Cv.ofW (by decide) (Nat.le_of_ble_eq_true rfl) ?_
  intro μ x hm p e s m args below meth c ls S hr hG hP hS hl
  exact wX9_keeps_0 S hr hG ho μ hm _ _ ls hP hS hl
-- X9_undo
set_option maxHeartbeats 4000000 in
set_option maxRecDepth 100000 in
theorem wX9_undo_22 (S : CallFix p m c cX9_undo 2 s args TB RX9) (hr : meth.sig.returnType = (some .int) ∧ meth.locks = false) (hG : gok D cI cR n K L ad s) {o : Nat} (ho : isk n K o 9) {x : Int32 × Mem} : ∀ (k : Nat) (v1 : Int32) (μ : Mem), fX9_undo_22 L o k v1 μ = some x → WI p l e (rmL 0) s m args below meth c D cI cR n K L ad 2 x μ 22 [(0, .ref (ad o)), (1, .int v1)] [] := by
  have hx := S.1
  have hb := S.2.1
  intro k
  induction k with
  | zero => intro v1 μ hm; exact absurd (show none = some x from hm) (fun h => by cases h)
  | succ k ih =>
    intro v1 μ hm H locs ls hP hS hl
    have hm : fX9_undo_22_b L o (fX9_undo_22 L o k) v1 μ = some x := hm
    unfold fX9_undo_22_b at hm
    refine lv_iload_n hx hb dX9_undo_22 rfl (lv_at hl 1 rfl) ?_
    refine lv_sipush (v := (169 : Int32)) hx hb dX9_undo_23 (by decide) ?_
    refine b_icmp_ge (tgt := 56) S dX9_undo_26 (by decide) hm (fun hm => ?_) (fun hm => ?_)
    · refine lv_aload_n hx hb dX9_undo_56 rfl (lv_at hl 0 rfl) ?_
      refine r_geti S hG hP ho clX9 fX9_11 kX9_129 dX9_undo_57 ?_
      exact r_iret S hr hG hP hS hm dX9_undo_60
    · refine lv_aload_n hx hb dX9_undo_29 rfl (lv_at hl 0 rfl) ?_
      refine r_getr S hG hP ho clX9 fX9_9 kX9_25 dX9_undo_30 ?_
      refine lv_iload_n hx hb dX9_undo_33 rfl (lv_at hl 1 rfl) ?_
      refine lv_aload_n hx hb dX9_undo_34 rfl (lv_at hl 0 rfl) ?_
      refine r_getr S hG hP ho clX9 fX9_10 kX9_28 dX9_undo_35 ?_
      refine lv_sipush (v := (169 : Int32)) hx hb dX9_undo_38 (by decide) ?_
      refine lv_aload_n hx hb dX9_undo_41 rfl (lv_at hl 0 rfl) ?_
      refine r_geti S hG hP ho clX9 fX9_11 kX9_129 dX9_undo_42 ?_
      refine lv_imul hx hb dX9_undo_45 ?_
      refine lv_iload_n hx hb dX9_undo_46 rfl (lv_at hl 1 rfl) ?_
      refine lv_iadd hx hb dX9_undo_47 ?_
      refine r_iald S hG hP (chX9_10 hG ho) hm dX9_undo_48 (fun a1 hm => ?_)
      refine r_iast S hG hP hS (chX9_9 hG ho) hm dX9_undo_49 (fun μ2 H locs hm hP hS => ?_)
      refine r_iinc (b := (1 : Int32)) (k := 1) S hm dX9_undo_50 hl rfl (by decide) (by decide) (fun a3 ls hm hl => ?_)
      have hl : lv_has ls 2 [(1, .int a3), (0, .ref (ad o))] := hl
      refine lv_goto (tgt := 22) hx hb dX9_undo_53 (by decide) ?_
      exact ih a3 μ2 hm H locs ls hP hS (lv_sub hl [1, 0] rfl)
set_option maxHeartbeats 4000000 in
set_option maxRecDepth 100000 in
theorem wX9_undo_0 (S : CallFix p m c cX9_undo 2 s args TB RX9) (hr : meth.sig.returnType = (some .int) ∧ meth.locks = false) (hG : gok D cI cR n K L ad s) {o : Nat} (ho : isk n K o 9) {x : Int32 × Mem} : ∀ (μ : Mem), fX9_undo L o μ = some x → WI p l e (rmL 0) s m args below meth c D cI cR n K L ad 2 x μ 0 [(0, .ref (ad o))] [] := by
  have hx := S.1
  have hb := S.2.1
  intro μ hm H locs ls hP hS hl
  unfold fX9_undo at hm
  refine lv_aload_n hx hb dX9_undo_0 rfl (lv_at hl 0 rfl) ?_
  refine r_geti S hG hP ho clX9 fX9_11 kX9_129 dX9_undo_1 ?_
  refine b_if_ne (tgt := 10) S dX9_undo_4 (by decide) hm (fun hm => ?_) (fun hm => ?_)
  · refine lv_aload_n hx hb dX9_undo_10 rfl (lv_at hl 0 rfl) ?_
    refine lv_dup hx hb dX9_undo_11 rfl ?_
    refine r_geti S hG hP ho clX9 fX9_11 kX9_129 dX9_undo_12 ?_
    refine lv_iconst (v := (1 : Int32)) hx hb dX9_undo_15 (by decide) ?_
    refine lv_isub hx hb dX9_undo_16 ?_
    refine r_puti S hG hP hS ho clX9 fX9_11 kX9_129 hm dX9_undo_17 (fun μ4 H locs hm hP hS => ?_)
    refine lv_iconst (v := (0 : Int32)) hx hb dX9_undo_20 (by decide) ?_
    refine lv_istore_n (lv' := [(1, .int (0 : Int32)), (0, .ref (ad o))]) hx hb dX9_undo_21 rfl hl (by decide) rfl (fun ls hl => ?_)
    exact wX9_undo_22 S hr hG ho FU (0 : Int32) μ4 hm H locs ls hP hS (lv_sub hl [1, 0] rfl)
  · refine lv_bipush (v := (-2 : Int32)) hx hb dX9_undo_7 (by decide) ?_
    exact r_iret S hr hG hP hS hm dX9_undo_9
theorem tX9_undo (l : Launch) (D : va_G) (cI cR : ClassId) (n : Nat) (K L ad : Nat → Nat) {o : Nat} (ho : isk n K o 9) : Ci l yX9_undo cX9_undo 2 (some .int) (rmL 0) D cI cR n K L ad [.ref (ad o)] (fX9_undo L o) := by
  refine Ci.ofW (by decide) (Nat.le_of_ble_eq_true rfl) ?_
  intro μ x hm p e s m args below meth c ls S hr hG hP hS hl
  exact wX9_undo_0 S hr hG ho μ hm _ _ ls hP hS hl
-- X9_grow
set_option maxHeartbeats 4000000 in
set_option maxRecDepth 100000 in
theorem wX9_grow_0 (S : CallFix p m c cX9_grow 4 s args TB RX9) (hr : meth.sig.returnType = (some .int) ∧ meth.locks = false) (hG : gok D cI cR n K L ad s) {o : Nat} (ho : isk n K o 9) {x : Int32 × Mem} : ∀ (v1 v2 v3 : Int32) (μ : Mem), fX9_grow L o v1 v2 v3 μ = some x → WI p l e (rmL 3) s m args below meth c D cI cR n K L ad 4 x μ 0 [(0, .ref (ad o)), (1, .int v1), (2, .int v2), (3, .int v3)] [] := by
  have hx := S.1
  have hb := S.2.1
  intro v1 v2 v3 μ hm H locs ls hP hS hl
  unfold fX9_grow at hm
  refine lv_aload_n hx hb dX9_grow_0 rfl (lv_at hl 0 rfl) ?_
  refine lv_iload_n hx hb dX9_grow_1 rfl (lv_at hl 1 rfl) ?_
  refine lv_iload_n hx hb dX9_grow_2 rfl (lv_at hl 2 rfl) ?_
  refine r_vcalli (As := [.int v1, .int v2]) (rest := []) S hG hP hS mX9_isValue kX9_141 clX9 ho (tX9_isValue _ _ _ _ _ _ _ _ ho v1 v2) ⟨rfl, rfl⟩ (rm_ok (by decide) (by decide)) hm hl.1 rfl (Nat.le_of_ble_eq_true rfl) ⟨Nat.zero_le _, Nat.zero_le _⟩ dX9_grow_3 (fun b2 μ1 H locs hm hP hS => ?_)
  refine b_if_eq (tgt := 19) S dX9_grow_6 (by decide) hm (fun hm => ?_) (fun hm => ?_)
  · refine lv_iconst (v := (-1 : Int32)) hx hb dX9_grow_19 (by decide) ?_
    exact r_iret S hr hG hP hS hm dX9_grow_20
  · refine lv_iload_n hx hb dX9_grow_9 rfl (lv_at hl 3 rfl) ?_
    refine lv_iconst (v := (1 : Int32)) hx hb dX9_grow_10 (by decide) ?_
    refine lv_bipush (v := (99 : Int32)) hx hb dX9_grow_11 (by decide) ?_
    refine r_scalli (As := [.int v3, .int (1 : Int32), .int (99 : Int32)]) (rest := []) S hG hP hS mX9_isIn kX9_85 (tX9_isIn _ _ _ _ _ _ _ _ v3 (1 : Int32) (99 : Int32)) ⟨rfl, rfl⟩ (rm_ok (by decide) (by decide)) hm hl.1 rfl (Nat.le_of_ble_eq_true rfl) ⟨Nat.zero_le _, Nat.zero_le _⟩ dX9_grow_13 (fun b4 μ3 H locs hm hP hS => ?_)
    refine b_if_ne (tgt := 21) S dX9_grow_16 (by decide) hm (fun hm => ?_) (fun hm => ?_)
    · refine lv_aload_n hx hb dX9_grow_21 rfl (lv_at hl 0 rfl) ?_
      refine r_vcallv (As := []) (rest := []) S hG hP hS mX9_keeps kX9_154 clX9 ho (tX9_keeps _ _ _ _ _ _ _ _ ho) ⟨rfl, rfl⟩ (rm_ok (by decide) (by decide)) hm hl.1 rfl (Nat.le_of_ble_eq_true rfl) ⟨Nat.zero_le _, Nat.zero_le _⟩ dX9_grow_22 (fun μ5 H locs hm hP hS => ?_)
      refine lv_aload_n hx hb dX9_grow_25 rfl (lv_at hl 0 rfl) ?_
      refine r_getr S hG hP ho clX9 fX9_9 kX9_25 dX9_grow_26 ?_
      refine lv_iconst (v := (4 : Int32)) hx hb dX9_grow_29 (by decide) ?_
      refine lv_iload_n hx hb dX9_grow_30 rfl (lv_at hl 1 rfl) ?_
      refine lv_imul hx hb dX9_grow_31 ?_
      refine lv_iload_n hx hb dX9_grow_32 rfl (lv_at hl 2 rfl) ?_
      refine lv_iadd hx hb dX9_grow_33 ?_
      refine lv_aload_n hx hb dX9_grow_34 rfl (lv_at hl 0 rfl) ?_
      refine lv_aload_n hx hb dX9_grow_35 rfl (lv_at hl 0 rfl) ?_
      refine r_getr S hG hP ho clX9 fX9_9 kX9_25 dX9_grow_36 ?_
      refine lv_iconst (v := (4 : Int32)) hx hb dX9_grow_39 (by decide) ?_
      refine lv_iload_n hx hb dX9_grow_40 rfl (lv_at hl 1 rfl) ?_
      refine lv_imul hx hb dX9_grow_41 ?_
      refine lv_iload_n hx hb dX9_grow_42 rfl (lv_at hl 2 rfl) ?_
      refine lv_iadd hx hb dX9_grow_43 ?_
      refine r_iald S hG hP (chX9_9 hG ho) hm dX9_grow_44 (fun a6 hm => ?_)
      refine lv_iload_n hx hb dX9_grow_45 rfl (lv_at hl 3 rfl) ?_
      refine r_vcalli (As := [.int a6, .int v3]) (rest := [.int (((4 : Int32) * v1) + v2), .ref (ad (o + 6))]) S hG hP hS mX9_sum kX9_125 clX9 ho (tX9_sum _ _ _ _ _ _ _ _ ho a6 v3) ⟨rfl, rfl⟩ (rm_ok (by decide) (by decide)) hm hl.1 rfl (Nat.le_of_ble_eq_true rfl) ⟨Nat.zero_le _, Nat.zero_le _⟩ dX9_grow_46 (fun b8 μ7 H locs hm hP hS => ?_)
      refine r_iast S hG hP hS (chX9_9 hG ho) hm dX9_grow_49 (fun μ9 H locs hm hP hS => ?_)
      refine lv_aload_n hx hb dX9_grow_50 rfl (lv_at hl 0 rfl) ?_
      refine r_getr S hG hP ho clX9 fX9_9 kX9_25 dX9_grow_51 ?_
      refine lv_iconst (v := (4 : Int32)) hx hb dX9_grow_54 (by decide) ?_
      refine lv_iload_n hx hb dX9_grow_55 rfl (lv_at hl 1 rfl) ?_
      refine lv_imul hx hb dX9_grow_56 ?_
      refine lv_iload_n hx hb dX9_grow_57 rfl (lv_at hl 2 rfl) ?_
      refine lv_iadd hx hb dX9_grow_58 ?_
      refine r_iald S hG hP (chX9_9 hG ho) hm dX9_grow_59 (fun a10 hm => ?_)
      exact r_iret S hr hG hP hS hm dX9_grow_60
    · refine lv_iconst (v := (-1 : Int32)) hx hb dX9_grow_19 (by decide) ?_
      exact r_iret S hr hG hP hS hm dX9_grow_20
theorem tX9_grow (l : Launch) (D : va_G) (cI cR : ClassId) (n : Nat) (K L ad : Nat → Nat) {o : Nat} (ho : isk n K o 9) (v1 : Int32) (v2 : Int32) (v3 : Int32) : Ci l yX9_grow cX9_grow 4 (some .int) (rmL 3) D cI cR n K L ad [.ref (ad o), .int v1, .int v2, .int v3] (fX9_grow L o v1 v2 v3) := by
  refine Ci.ofW (by decide) (Nat.le_of_ble_eq_true rfl) ?_
  intro μ x hm p e s m args below meth c ls S hr hG hP hS hl
  exact wX9_grow_0 S hr hG ho v1 v2 v3 μ hm _ _ ls hP hS hl
-- X9_choose
set_option maxHeartbeats 4000000 in
set_option maxRecDepth 100000 in
theorem wX9_choose_0 (S : CallFix p m c cX9_choose 4 s args TB RX9) (hr : meth.sig.returnType = (some .int) ∧ meth.locks = false) (hG : gok D cI cR n K L ad s) {o : Nat} (ho : isk n K o 9) {x : Int32 × Mem} : ∀ (v1 v2 : Int32) (μ : Mem), fX9_choose L o v1 v2 μ = some x → WI p l e (rmL 3) s m args below meth c D cI cR n K L ad 4 x μ 0 [(0, .ref (ad o)), (1, .int v1), (2, .int v2)] [] := by
  have hx := S.1
  have hb := S.2.1
  intro v1 v2 μ hm H locs ls hP hS hl
  unfold fX9_choose at hm
  refine lv_aload_n hx hb dX9_choose_0 rfl (lv_at hl 0 rfl) ?_
  refine lv_iload_n hx hb dX9_choose_1 rfl (lv_at hl 1 rfl) ?_
  refine lv_iload_n hx hb dX9_choose_2 rfl (lv_at hl 2 rfl) ?_
  refine r_vcalli (As := [.int v1, .int v2]) (rest := []) S hG hP hS mX9_isValue kX9_141 clX9 ho (tX9_isValue _ _ _ _ _ _ _ _ ho v1 v2) ⟨rfl, rfl⟩ (rm_ok (by decide) (by decide)) hm hl.1 rfl (Nat.le_of_ble_eq_true rfl) ⟨Nat.zero_le _, Nat.zero_le _⟩ dX9_choose_3 (fun b2 μ1 H locs hm hP hS => ?_)
  refine b_if_ne (tgt := 11) S dX9_choose_6 (by decide) hm (fun hm => ?_) (fun hm => ?_)
  · refine lv_aload_n hx hb dX9_choose_11 rfl (lv_at hl 0 rfl) ?_
    refine r_getr S hG hP ho clX9 fX9_8 kX9_22 dX9_choose_12 ?_
    refine lv_iload_n hx hb dX9_choose_15 rfl (lv_at hl 1 rfl) ?_
    refine r_iald S hG hP (chX9_8 hG ho) hm dX9_choose_16 (fun a3 hm => ?_)
    refine lv_istore_n (lv' := [(3, .int a3), (0, .ref (ad o)), (1, .int v1), (2, .int v2)]) hx hb dX9_choose_17 rfl hl (by decide) rfl (fun ls hl => ?_)
    refine lv_iload_n hx hb dX9_choose_18 rfl (lv_at hl 0 rfl) ?_
    refine lv_iload_n hx hb dX9_choose_19 rfl (lv_at hl 3 rfl) ?_
    refine b_icmp_ne (tgt := 26) S dX9_choose_20 (by decide) hm (fun hm => ?_) (fun hm => ?_)
    · refine lv_aload_n hx hb dX9_choose_26 rfl (lv_at hl 1 rfl) ?_
      refine r_getr S hG hP ho clX9 fX9_8 kX9_22 dX9_choose_27 ?_
      refine lv_iload_n hx hb dX9_choose_30 rfl (lv_at hl 2 rfl) ?_
      refine lv_iload_n hx hb dX9_choose_31 rfl (lv_at hl 3 rfl) ?_
      refine r_iast S hG hP hS (chX9_8 hG ho) hm dX9_choose_32 (fun μ4 H locs hm hP hS => ?_)
      refine lv_iload_n hx hb dX9_choose_33 rfl (lv_at hl 0 rfl) ?_
      exact r_iret S hr hG hP hS hm dX9_choose_34
    · refine lv_bipush (v := (-2 : Int32)) hx hb dX9_choose_23 (by decide) ?_
      exact r_iret S hr hG hP hS hm dX9_choose_25
  · refine lv_iconst (v := (-1 : Int32)) hx hb dX9_choose_9 (by decide) ?_
    exact r_iret S hr hG hP hS hm dX9_choose_10
theorem tX9_choose (l : Launch) (D : va_G) (cI cR : ClassId) (n : Nat) (K L ad : Nat → Nat) {o : Nat} (ho : isk n K o 9) (v1 : Int32) (v2 : Int32) : Ci l yX9_choose cX9_choose 4 (some .int) (rmL 3) D cI cR n K L ad [.ref (ad o), .int v1, .int v2] (fX9_choose L o v1 v2) := by
  refine Ci.ofW (by decide) (Nat.le_of_ble_eq_true rfl) ?_
  intro μ x hm p e s m args below meth c ls S hr hG hP hS hl
  exact wX9_choose_0 S hr hG ho v1 v2 μ hm _ _ ls hP hS hl
-- X9_leastPair
set_option maxHeartbeats 4000000 in
set_option maxRecDepth 100000 in
theorem wX9_leastPair_56 (S : CallFix p m c cX9_leastPair 7 s args TB RX9) (hr : meth.sig.returnType = (some .int) ∧ meth.locks = false) (hG : gok D cI cR n K L ad s) {o : Nat} (ho : isk n K o 9) {x : Int32 × Mem} {self9 : Int32 → Int32 → Int32 → Int32 → Int32 → Mem → Option (Int32 × Mem)} (hs9 : ∀ (v1 v2 v3 v4 v5 : Int32) (μ : Mem), self9 v1 v2 v3 v4 v5 μ = some x → WI p l e (rmL 1) s m args below meth c D cI cR n K L ad 7 x μ 9 [(0, .ref (ad o)), (1, .int v1), (2, .int v2), (3, .int v3), (4, .int v4), (5, .int v5)] []) : ∀ (v1 v2 v3 v5 s0 : Int32) (μ : Mem), fX9_leastPair_56 L o self9 v1 v2 v3 v5 s0 μ = some x → WI p l e (rmL 1) s m args below meth c D cI cR n K L ad 7 x μ 56 [(0, .ref (ad o)), (1, .int v1), (2, .int v2), (3, .int v3), (5, .int v5)] [.int s0] := by
  have hx := S.1
  have hb := S.2.1
  intro v1 v2 v3 v5 s0 μ hm H locs ls hP hS hl
  unfold fX9_leastPair_56 at hm
  refine lv_istore (lv' := [(4, .int s0), (0, .ref (ad o)), (1, .int v1), (2, .int v2), (3, .int v3), (5, .int v5)]) hx hb dX9_leastPair_56 hl (by decide) rfl (fun ls hl => ?_)
  refine r_iinc (b := (1 : Int32)) (k := 5) S hm dX9_leastPair_58 hl rfl (by decide) (by decide) (fun a1 ls hm hl => ?_)
  have hl : lv_has ls 7 [(5, .int a1), (4, .int s0), (0, .ref (ad o)), (1, .int v1), (2, .int v2), (3, .int v3)] := hl
  refine lv_goto (tgt := 9) hx hb dX9_leastPair_61 (by decide) ?_
  exact hs9 v1 v2 v3 s0 a1 μ hm H locs ls hP hS (lv_sub hl [2, 3, 4, 5, 1, 0] rfl)
set_option maxHeartbeats 4000000 in
set_option maxRecDepth 100000 in
theorem wX9_leastPair_9 (S : CallFix p m c cX9_leastPair 7 s args TB RX9) (hr : meth.sig.returnType = (some .int) ∧ meth.locks = false) (hG : gok D cI cR n K L ad s) {o : Nat} (ho : isk n K o 9) {x : Int32 × Mem} : ∀ (k : Nat) (v1 v2 v3 v4 v5 : Int32) (μ : Mem), fX9_leastPair_9 L o k v1 v2 v3 v4 v5 μ = some x → WI p l e (rmL 1) s m args below meth c D cI cR n K L ad 7 x μ 9 [(0, .ref (ad o)), (1, .int v1), (2, .int v2), (3, .int v3), (4, .int v4), (5, .int v5)] [] := by
  have hx := S.1
  have hb := S.2.1
  intro k
  induction k with
  | zero => intro v1 v2 v3 v4 v5 μ hm; exact absurd (show none = some x from hm) (fun h => by cases h)
  | succ k ih =>
    intro v1 v2 v3 v4 v5 μ hm H locs ls hP hS hl
    have hm : fX9_leastPair_9_b L o (fX9_leastPair_9 L o k) v1 v2 v3 v4 v5 μ = some x := hm
    unfold fX9_leastPair_9_b at hm
    refine lv_iload hx hb dX9_leastPair_9 (lv_at hl 5 rfl) ?_
    refine lv_aload_n hx hb dX9_leastPair_11 rfl (lv_at hl 0 rfl) ?_
    refine r_getr S hG hP ho clX9 fX9_3 kX9_13 dX9_leastPair_12 ?_
    refine lv_aload_n hx hb dX9_leastPair_15 rfl (lv_at hl 0 rfl) ?_
    refine lv_iload_n hx hb dX9_leastPair_16 rfl (lv_at hl 1 rfl) ?_
    refine lv_iconst (v := (1 : Int32)) hx hb dX9_leastPair_17 (by decide) ?_
    refine lv_iload_n hx hb dX9_leastPair_18 rfl (lv_at hl 2 rfl) ?_
    refine lv_isub hx hb dX9_leastPair_19 ?_
    refine r_vcalli (As := [.int v1, .int ((1 : Int32) - v2)]) (rest := [.ref (ad (o + 2)), .int v5]) S hG hP hS mX9_nameOf kX9_147 clX9 ho (tX9_nameOf _ _ _ _ _ _ _ _ ho v1 ((1 : Int32) - v2)) ⟨rfl, rfl⟩ (rm_ok (by decide) (by decide)) hm hl.1 rfl (Nat.le_of_ble_eq_true rfl) ⟨Nat.zero_le _, Nat.zero_le _⟩ dX9_leastPair_20 (fun b3 μ2 H locs hm hP hS => ?_)
    refine r_iald S hG hP (chX9_3 hG ho) hm dX9_leastPair_23 (fun a4 hm => ?_)
    refine b_icmp_ge (tgt := 64) S dX9_leastPair_24 (by decide) hm (fun hm => ?_) (fun hm => ?_)
    · refine lv_iload hx hb dX9_leastPair_64 (lv_at hl 4 rfl) ?_
      exact r_iret S hr hG hP hS hm dX9_leastPair_66
    · refine lv_aload_n hx hb dX9_leastPair_27 rfl (lv_at hl 0 rfl) ?_
      refine r_getr S hG hP ho clX9 fX9_9 kX9_25 dX9_leastPair_28 ?_
      refine lv_iload_n hx hb dX9_leastPair_31 rfl (lv_at hl 1 rfl) ?_
      refine lv_iload_n hx hb dX9_leastPair_32 rfl (lv_at hl 2 rfl) ?_
      refine lv_iload_n hx hb dX9_leastPair_33 rfl (lv_at hl 3 rfl) ?_
      refine lv_iload hx hb dX9_leastPair_34 (lv_at hl 5 rfl) ?_
      refine r_scalli (As := [.int v1, .int v2, .int v3, .int v5]) (rest := [.ref (ad (o + 6))]) S hG hP hS mX9_pairAt kX9_150 (tX9_pairAt _ _ _ _ _ _ _ _ v1 v2 v3 v5) ⟨rfl, rfl⟩ (rm_ok (by decide) (by decide)) hm hl.1 rfl (Nat.le_of_ble_eq_true rfl) ⟨Nat.zero_le _, Nat.zero_le _⟩ dX9_leastPair_36 (fun b6 μ5 H locs hm hP hS => ?_)
      refine r_iald S hG hP (chX9_9 hG ho) hm dX9_leastPair_39 (fun a7 hm => ?_)
      refine lv_istore (lv' := [(6, .int a7), (0, .ref (ad o)), (1, .int v1), (2, .int v2), (3, .int v3), (4, .int v4), (5, .int v5)]) hx hb dX9_leastPair_40 hl (by decide) rfl (fun ls hl => ?_)
      refine lv_iload hx hb dX9_leastPair_42 (lv_at hl 0 rfl) ?_
      refine lv_iload hx hb dX9_leastPair_44 (lv_at hl 5 rfl) ?_
      refine b_icmp_ge (tgt := 54) S dX9_leastPair_46 (by decide) hm (fun hm => ?_) (fun hm => ?_)
      · refine lv_iload hx hb dX9_leastPair_54 (lv_at hl 5 rfl) ?_
        exact wX9_leastPair_56 S hr hG ho ih v1 v2 v3 v5 v4 μ5 hm H locs ls hP hS (lv_sub hl [1, 2, 3, 4, 6] rfl)
      · refine lv_iload hx hb dX9_leastPair_49 (lv_at hl 0 rfl) ?_
        refine lv_goto (tgt := 56) hx hb dX9_leastPair_51 (by decide) ?_
        exact wX9_leastPair_56 S hr hG ho ih v1 v2 v3 v5 a7 μ5 hm H locs ls hP hS (lv_sub hl [1, 2, 3, 4, 6] rfl)
set_option maxHeartbeats 4000000 in
set_option maxRecDepth 100000 in
theorem wX9_leastPair_0 (S : CallFix p m c cX9_leastPair 7 s args TB RX9) (hr : meth.sig.returnType = (some .int) ∧ meth.locks = false) (hG : gok D cI cR n K L ad s) {o : Nat} (ho : isk n K o 9) {x : Int32 × Mem} : ∀ (v1 v2 v3 : Int32) (μ : Mem), fX9_leastPair L o v1 v2 v3 μ = some x → WI p l e (rmL 1) s m args below meth c D cI cR n K L ad 7 x μ 0 [(0, .ref (ad o)), (1, .int v1), (2, .int v2), (3, .int v3)] [] := by
  have hx := S.1
  have hb := S.2.1
  intro v1 v2 v3 μ hm H locs ls hP hS hl
  unfold fX9_leastPair at hm
  refine lv_aload_n hx hb dX9_leastPair_0 rfl (lv_at hl 0 rfl) ?_
  refine r_geti S hG hP ho clX9 fX9_7 kX9_62 dX9_leastPair_1 ?_
  refine r_top hm (fun a8 hm => ?_)
  refine lv_istore (lv' := [(4, .int a8), (0, .ref (ad o)), (1, .int v1), (2, .int v2), (3, .int v3)]) hx hb dX9_leastPair_4 hl (by decide) rfl (fun ls hl => ?_)
  refine lv_iconst (v := (0 : Int32)) hx hb dX9_leastPair_6 (by decide) ?_
  refine lv_istore (lv' := [(5, .int (0 : Int32)), (4, .int a8), (0, .ref (ad o)), (1, .int v1), (2, .int v2), (3, .int v3)]) hx hb dX9_leastPair_7 hl (by decide) rfl (fun ls hl => ?_)
  exact wX9_leastPair_9 S hr hG ho FU v1 v2 v3 a8 (0 : Int32) μ hm H locs ls hP hS (lv_sub hl [2, 3, 4, 5, 1, 0] rfl)
theorem tX9_leastPair (l : Launch) (D : va_G) (cI cR : ClassId) (n : Nat) (K L ad : Nat → Nat) {o : Nat} (ho : isk n K o 9) (v1 : Int32) (v2 : Int32) (v3 : Int32) : Ci l yX9_leastPair cX9_leastPair 7 (some .int) (rmL 1) D cI cR n K L ad [.ref (ad o), .int v1, .int v2, .int v3] (fX9_leastPair L o v1 v2 v3) := by
  refine Ci.ofW (by decide) (Nat.le_of_ble_eq_true rfl) ?_
  intro μ x hm p e s m args below meth c ls S hr hG hP hS hl
  exact wX9_leastPair_0 S hr hG ho v1 v2 v3 μ hm _ _ ls hP hS hl
-- X9_projects
set_option maxHeartbeats 4000000 in
set_option maxRecDepth 100000 in
theorem wX9_projects_3 (S : CallFix p m c cX9_projects 7 s args TB RX9) (hr : meth.sig.returnType = none ∧ meth.locks = false) (hG : gok D cI cR n K L ad s) {o : Nat} (ho : isk n K o 9) {x : Mem} : ∀ (k : Nat) (v1 v2 v3 v4 v5 : Int32) (μ : Mem), fX9_projects_3 L o k v1 v2 v3 v4 v5 μ = some x → WV p l e (rmL 1) s m args below meth c D cI cR n K L ad 7 x μ 3 [(0, .ref (ad o)), (1, .int v1), (2, .int v2), (3, .int v3), (4, .int v4), (5, .int v5)] [] := by
  have hx := S.1
  have hb := S.2.1
  intro k
  induction k with
  | zero => intro v1 v2 v3 v4 v5 μ hm; exact absurd (show none = some x from hm) (fun h => by cases h)
  | succ k ih =>
    intro v1 v2 v3 v4 v5 μ hm H locs ls hP hS hl
    have hm : fX9_projects_3_b L o (fX9_projects_3 L o k) v1 v2 v3 v4 v5 μ = some x := hm
    unfold fX9_projects_3_b at hm
    refine lv_iload hx hb dX9_projects_3 (lv_at hl 5 rfl) ?_
    refine lv_aload_n hx hb dX9_projects_5 rfl (lv_at hl 0 rfl) ?_
    refine r_getr S hG hP ho clX9 fX9_3 kX9_13 dX9_projects_6 ?_
    refine lv_aload_n hx hb dX9_projects_9 rfl (lv_at hl 0 rfl) ?_
    refine lv_iload_n hx hb dX9_projects_10 rfl (lv_at hl 1 rfl) ?_
    refine lv_iconst (v := (1 : Int32)) hx hb dX9_projects_11 (by decide) ?_
    refine lv_iload_n hx hb dX9_projects_12 rfl (lv_at hl 2 rfl) ?_
    refine lv_isub hx hb dX9_projects_13 ?_
    refine r_vcalli (As := [.int v1, .int ((1 : Int32) - v2)]) (rest := [.ref (ad (o + 2)), .int v5]) S hG hP hS mX9_nameOf kX9_147 clX9 ho (tX9_nameOf _ _ _ _ _ _ _ _ ho v1 ((1 : Int32) - v2)) ⟨rfl, rfl⟩ (rm_ok (by decide) (by decide)) hm hl.1 rfl (Nat.le_of_ble_eq_true rfl) ⟨Nat.zero_le _, Nat.zero_le _⟩ dX9_projects_14 (fun b2 μ1 H locs hm hP hS => ?_)
    refine r_iald S hG hP (chX9_3 hG ho) hm dX9_projects_17 (fun a3 hm => ?_)
    refine b_icmp_ge (tgt := 57) S dX9_projects_18 (by decide) hm (fun hm => ?_) (fun hm => ?_)
    · refine lv_iconst (v := (4 : Int32)) hx hb dX9_projects_57 (by decide) ?_
      refine lv_aload_n hx hb dX9_projects_58 rfl (lv_at hl 0 rfl) ?_
      refine lv_iload_n hx hb dX9_projects_59 rfl (lv_at hl 1 rfl) ?_
      refine lv_iload_n hx hb dX9_projects_60 rfl (lv_at hl 2 rfl) ?_
      refine r_vcalli (As := [.int v1, .int v2]) (rest := [.int (4 : Int32)]) S hG hP hS mX9_nameOf kX9_147 clX9 ho (tX9_nameOf _ _ _ _ _ _ _ _ ho v1 v2) ⟨rfl, rfl⟩ (rm_ok (by decide) (by decide)) hm hl.1 rfl (Nat.le_of_ble_eq_true rfl) ⟨Nat.zero_le _, Nat.zero_le _⟩ dX9_projects_61 (fun b5 μ4 H locs hm hP hS => ?_)
      refine lv_imul hx hb dX9_projects_64 ?_
      refine lv_iload_n hx hb dX9_projects_65 rfl (lv_at hl 3 rfl) ?_
      refine lv_iadd hx hb dX9_projects_66 ?_
      refine r_top hm (fun a6 hm => ?_)
      refine lv_istore (lv' := [(5, .int a6), (0, .ref (ad o)), (1, .int v1), (2, .int v2), (3, .int v3), (4, .int v4)]) hx hb dX9_projects_67 hl (by decide) rfl (fun ls hl => ?_)
      refine lv_aload_n hx hb dX9_projects_69 rfl (lv_at hl 1 rfl) ?_
      refine r_getr S hG hP ho clX9 fX9_9 kX9_25 dX9_projects_70 ?_
      refine lv_iload hx hb dX9_projects_73 (lv_at hl 0 rfl) ?_
      refine lv_aload_n hx hb dX9_projects_75 rfl (lv_at hl 1 rfl) ?_
      refine lv_aload_n hx hb dX9_projects_76 rfl (lv_at hl 1 rfl) ?_
      refine r_getr S hG hP ho clX9 fX9_9 kX9_25 dX9_projects_77 ?_
      refine lv_iload hx hb dX9_projects_80 (lv_at hl 0 rfl) ?_
      refine r_iald S hG hP (chX9_9 hG ho) hm dX9_projects_82 (fun a7 hm => ?_)
      refine lv_iload hx hb dX9_projects_83 (lv_at hl 5 rfl) ?_
      refine r_vcalli (As := [.int a7, .int v4]) (rest := [.int a6, .ref (ad (o + 6))]) S hG hP hS mX9_sum kX9_125 clX9 ho (tX9_sum _ _ _ _ _ _ _ _ ho a7 v4) ⟨rfl, rfl⟩ (rm_ok (by decide) (by decide)) hm hl.1 rfl (Nat.le_of_ble_eq_true rfl) ⟨Nat.zero_le _, Nat.zero_le _⟩ dX9_projects_85 (fun b9 μ8 H locs hm hP hS => ?_)
      refine r_iast S hG hP hS (chX9_9 hG ho) hm dX9_projects_88 (fun μ10 H locs hm hP hS => ?_)
      exact r_vret S hr hG hP hS hm dX9_projects_89
    · refine lv_iload_n hx hb dX9_projects_21 rfl (lv_at hl 1 rfl) ?_
      refine lv_iload_n hx hb dX9_projects_22 rfl (lv_at hl 2 rfl) ?_
      refine lv_iload_n hx hb dX9_projects_23 rfl (lv_at hl 3 rfl) ?_
      refine lv_iload hx hb dX9_projects_24 (lv_at hl 5 rfl) ?_
      refine r_scalli (As := [.int v1, .int v2, .int v3, .int v5]) (rest := []) S hG hP hS mX9_pairAt kX9_150 (tX9_pairAt _ _ _ _ _ _ _ _ v1 v2 v3 v5) ⟨rfl, rfl⟩ (rm_ok (by decide) (by decide)) hm hl.1 rfl (Nat.le_of_ble_eq_true rfl) ⟨Nat.zero_le _, Nat.zero_le _⟩ dX9_projects_26 (fun b12 μ11 H locs hm hP hS => ?_)
      refine lv_istore (lv' := [(6, .int b12), (0, .ref (ad o)), (1, .int v1), (2, .int v2), (3, .int v3), (4, .int v4), (5, .int v5)]) hx hb dX9_projects_29 hl (by decide) rfl (fun ls hl => ?_)
      refine lv_aload_n hx hb dX9_projects_31 rfl (lv_at hl 1 rfl) ?_
      refine r_getr S hG hP ho clX9 fX9_9 kX9_25 dX9_projects_32 ?_
      refine lv_iload hx hb dX9_projects_35 (lv_at hl 0 rfl) ?_
      refine lv_aload_n hx hb dX9_projects_37 rfl (lv_at hl 1 rfl) ?_
      refine lv_aload_n hx hb dX9_projects_38 rfl (lv_at hl 1 rfl) ?_
      refine r_getr S hG hP ho clX9 fX9_9 kX9_25 dX9_projects_39 ?_
      refine lv_iload hx hb dX9_projects_42 (lv_at hl 0 rfl) ?_
      refine r_iald S hG hP (chX9_9 hG ho) hm dX9_projects_44 (fun a13 hm => ?_)
      refine lv_iload hx hb dX9_projects_45 (lv_at hl 5 rfl) ?_
      refine r_vcalli (As := [.int a13, .int v4]) (rest := [.int b12, .ref (ad (o + 6))]) S hG hP hS mX9_less kX9_157 clX9 ho (tX9_less _ _ _ _ _ _ _ _ ho a13 v4) ⟨rfl, rfl⟩ (rm_ok (by decide) (by decide)) hm hl.1 rfl (Nat.le_of_ble_eq_true rfl) ⟨Nat.zero_le _, Nat.zero_le _⟩ dX9_projects_47 (fun b15 μ14 H locs hm hP hS => ?_)
      refine r_iast S hG hP hS (chX9_9 hG ho) hm dX9_projects_50 (fun μ16 H locs hm hP hS => ?_)
      refine r_iinc (b := (1 : Int32)) (k := 6) S hm dX9_projects_51 hl rfl (by decide) (by decide) (fun a17 ls hm hl => ?_)
      have hl : lv_has ls 7 [(5, .int a17), (6, .int b12), (0, .ref (ad o)), (1, .int v1), (2, .int v2), (3, .int v3), (4, .int v4)] := hl
      refine lv_goto (tgt := 3) hx hb dX9_projects_54 (by decide) ?_
      exact ih v1 v2 v3 v4 a17 μ16 hm H locs ls hP hS (lv_sub hl [2, 3, 4, 5, 6, 0] rfl)
set_option maxHeartbeats 4000000 in
set_option maxRecDepth 100000 in
theorem wX9_projects_0 (S : CallFix p m c cX9_projects 7 s args TB RX9) (hr : meth.sig.returnType = none ∧ meth.locks = false) (hG : gok D cI cR n K L ad s) {o : Nat} (ho : isk n K o 9) {x : Mem} : ∀ (v1 v2 v3 v4 : Int32) (μ : Mem), fX9_projects L o v1 v2 v3 v4 μ = some x → WV p l e (rmL 1) s m args below meth c D cI cR n K L ad 7 x μ 0 [(0, .ref (ad o)), (1, .int v1), (2, .int v2), (3, .int v3), (4, .int v4)] [] := by
  have hx := S.1
  have hb := S.2.1
  intro v1 v2 v3 v4 μ hm H locs ls hP hS hl
  unfold fX9_projects at hm
  refine lv_iconst (v := (0 : Int32)) hx hb dX9_projects_0 (by decide) ?_
  refine lv_istore (lv' := [(5, .int (0 : Int32)), (0, .ref (ad o)), (1, .int v1), (2, .int v2), (3, .int v3), (4, .int v4)]) hx hb dX9_projects_1 hl (by decide) rfl (fun ls hl => ?_)
  exact wX9_projects_3 S hr hG ho FU v1 v2 v3 v4 (0 : Int32) μ hm H locs ls hP hS (lv_sub hl [1, 2, 3, 4, 5, 0] rfl)
theorem tX9_projects (l : Launch) (D : va_G) (cI cR : ClassId) (n : Nat) (K L ad : Nat → Nat) {o : Nat} (ho : isk n K o 9) (v1 : Int32) (v2 : Int32) (v3 : Int32) (v4 : Int32) : Cv l yX9_projects cX9_projects 7 none (rmL 1) D cI cR n K L ad [.ref (ad o), .int v1, .int v2, .int v3, .int v4] (fX9_projects L o v1 v2 v3 v4) := by
  refine Cv.ofW (by decide) (Nat.le_of_ble_eq_true rfl) ?_
  intro μ x hm p e s m args below meth c ls S hr hG hP hS hl
  exact wX9_projects_0 S hr hG ho v1 v2 v3 v4 μ hm _ _ ls hP hS hl
-- X9_extendsBy
set_option maxHeartbeats 4000000 in
set_option maxRecDepth 100000 in
theorem wX9_extendsBy_35 (S : CallFix p m c cX9_extendsBy 8 s args TB RX9) (hr : meth.sig.returnType = none ∧ meth.locks = false) (hG : gok D cI cR n K L ad s) {o : Nat} (ho : isk n K o 9) {x : Mem} : ∀ (k : Nat) (v1 v2 v3 v4 v6 : Int32) (μ : Mem), fX9_extendsBy_35 L o k v1 v2 v3 v4 v6 μ = some x → WV p l e (rmL 1) s m args below meth c D cI cR n K L ad 8 x μ 35 [(0, .ref (ad o)), (1, .int v1), (2, .int v2), (3, .int v3), (4, .int v4), (6, .int v6)] [] := by
  have hx := S.1
  have hb := S.2.1
  intro k
  induction k with
  | zero => intro v1 v2 v3 v4 v6 μ hm; exact absurd (show none = some x from hm) (fun h => by cases h)
  | succ k ih =>
    intro v1 v2 v3 v4 v6 μ hm H locs ls hP hS hl
    have hm : fX9_extendsBy_35_b L o (fX9_extendsBy_35 L o k) v1 v2 v3 v4 v6 μ = some x := hm
    unfold fX9_extendsBy_35_b at hm
    refine lv_iload hx hb dX9_extendsBy_35 (lv_at hl 5 rfl) ?_
    refine lv_aload_n hx hb dX9_extendsBy_37 rfl (lv_at hl 0 rfl) ?_
    refine r_getr S hG hP ho clX9 fX9_3 kX9_13 dX9_extendsBy_38 ?_
    refine lv_aload_n hx hb dX9_extendsBy_41 rfl (lv_at hl 0 rfl) ?_
    refine lv_iload_n hx hb dX9_extendsBy_42 rfl (lv_at hl 1 rfl) ?_
    refine lv_iconst (v := (1 : Int32)) hx hb dX9_extendsBy_43 (by decide) ?_
    refine lv_iload_n hx hb dX9_extendsBy_44 rfl (lv_at hl 2 rfl) ?_
    refine lv_isub hx hb dX9_extendsBy_45 ?_
    refine r_vcalli (As := [.int v1, .int ((1 : Int32) - v2)]) (rest := [.ref (ad (o + 2)), .int v6]) S hG hP hS mX9_nameOf kX9_147 clX9 ho (tX9_nameOf _ _ _ _ _ _ _ _ ho v1 ((1 : Int32) - v2)) ⟨rfl, rfl⟩ (rm_ok (by decide) (by decide)) hm hl.1 rfl (Nat.le_of_ble_eq_true rfl) ⟨Nat.zero_le _, Nat.zero_le _⟩ dX9_extendsBy_46 (fun b2 μ1 H locs hm hP hS => ?_)
    refine r_iald S hG hP (chX9_3 hG ho) hm dX9_extendsBy_49 (fun a3 hm => ?_)
    refine b_icmp_ge (tgt := 89) S dX9_extendsBy_50 (by decide) hm (fun hm => ?_) (fun hm => ?_)
    · exact r_vret S hr hG hP hS hm dX9_extendsBy_89
    · refine lv_iload_n hx hb dX9_extendsBy_53 rfl (lv_at hl 1 rfl) ?_
      refine lv_iload_n hx hb dX9_extendsBy_54 rfl (lv_at hl 2 rfl) ?_
      refine lv_iload_n hx hb dX9_extendsBy_55 rfl (lv_at hl 3 rfl) ?_
      refine lv_iload hx hb dX9_extendsBy_56 (lv_at hl 5 rfl) ?_
      refine r_scalli (As := [.int v1, .int v2, .int v3, .int v6]) (rest := []) S hG hP hS mX9_pairAt kX9_150 (tX9_pairAt _ _ _ _ _ _ _ _ v1 v2 v3 v6) ⟨rfl, rfl⟩ (rm_ok (by decide) (by decide)) hm hl.1 rfl (Nat.le_of_ble_eq_true rfl) ⟨Nat.zero_le _, Nat.zero_le _⟩ dX9_extendsBy_58 (fun b5 μ4 H locs hm hP hS => ?_)
      refine lv_istore (lv' := [(7, .int b5), (0, .ref (ad o)), (1, .int v1), (2, .int v2), (3, .int v3), (4, .int v4), (6, .int v6)]) hx hb dX9_extendsBy_61 hl (by decide) rfl (fun ls hl => ?_)
      refine lv_aload_n hx hb dX9_extendsBy_63 rfl (lv_at hl 1 rfl) ?_
      refine r_getr S hG hP ho clX9 fX9_9 kX9_25 dX9_extendsBy_64 ?_
      refine lv_iload hx hb dX9_extendsBy_67 (lv_at hl 0 rfl) ?_
      refine lv_aload_n hx hb dX9_extendsBy_69 rfl (lv_at hl 1 rfl) ?_
      refine lv_aload_n hx hb dX9_extendsBy_70 rfl (lv_at hl 1 rfl) ?_
      refine r_getr S hG hP ho clX9 fX9_9 kX9_25 dX9_extendsBy_71 ?_
      refine lv_iload hx hb dX9_extendsBy_74 (lv_at hl 0 rfl) ?_
      refine r_iald S hG hP (chX9_9 hG ho) hm dX9_extendsBy_76 (fun a6 hm => ?_)
      refine lv_iload hx hb dX9_extendsBy_77 (lv_at hl 5 rfl) ?_
      refine r_vcalli (As := [.int a6, .int v4]) (rest := [.int b5, .ref (ad (o + 6))]) S hG hP hS mX9_sum kX9_125 clX9 ho (tX9_sum _ _ _ _ _ _ _ _ ho a6 v4) ⟨rfl, rfl⟩ (rm_ok (by decide) (by decide)) hm hl.1 rfl (Nat.le_of_ble_eq_true rfl) ⟨Nat.zero_le _, Nat.zero_le _⟩ dX9_extendsBy_79 (fun b8 μ7 H locs hm hP hS => ?_)
      refine r_iast S hG hP hS (chX9_9 hG ho) hm dX9_extendsBy_82 (fun μ9 H locs hm hP hS => ?_)
      refine r_iinc (b := (1 : Int32)) (k := 6) S hm dX9_extendsBy_83 hl rfl (by decide) (by decide) (fun a10 ls hm hl => ?_)
      have hl : lv_has ls 8 [(6, .int a10), (7, .int b5), (0, .ref (ad o)), (1, .int v1), (2, .int v2), (3, .int v3), (4, .int v4)] := hl
      refine lv_goto (tgt := 35) hx hb dX9_extendsBy_86 (by decide) ?_
      exact ih v1 v2 v3 v4 a10 μ9 hm H locs ls hP hS (lv_sub hl [2, 3, 4, 5, 6, 0] rfl)
set_option maxHeartbeats 4000000 in
set_option maxRecDepth 100000 in
theorem wX9_extendsBy_0 (S : CallFix p m c cX9_extendsBy 8 s args TB RX9) (hr : meth.sig.returnType = none ∧ meth.locks = false) (hG : gok D cI cR n K L ad s) {o : Nat} (ho : isk n K o 9) {x : Mem} : ∀ (v1 v2 v3 v4 : Int32) (μ : Mem), fX9_extendsBy L o v1 v2 v3 v4 μ = some x → WV p l e (rmL 1) s m args below meth c D cI cR n K L ad 8 x μ 0 [(0, .ref (ad o)), (1, .int v1), (2, .int v2), (3, .int v3), (4, .int v4)] [] := by
  have hx := S.1
  have hb := S.2.1
  intro v1 v2 v3 v4 μ hm H locs ls hP hS hl
  unfold fX9_extendsBy at hm
  refine lv_iconst (v := (4 : Int32)) hx hb dX9_extendsBy_0 (by decide) ?_
  refine lv_aload_n hx hb dX9_extendsBy_1 rfl (lv_at hl 0 rfl) ?_
  refine lv_iload_n hx hb dX9_extendsBy_2 rfl (lv_at hl 1 rfl) ?_
  refine lv_iload_n hx hb dX9_extendsBy_3 rfl (lv_at hl 2 rfl) ?_
  refine r_vcalli (As := [.int v1, .int v2]) (rest := [.int (4 : Int32)]) S hG hP hS mX9_nameOf kX9_147 clX9 ho (tX9_nameOf _ _ _ _ _ _ _ _ ho v1 v2) ⟨rfl, rfl⟩ (rm_ok (by decide) (by decide)) hm hl.1 rfl (Nat.le_of_ble_eq_true rfl) ⟨Nat.zero_le _, Nat.zero_le _⟩ dX9_extendsBy_4 (fun b12 μ11 H locs hm hP hS => ?_)
  refine lv_imul hx hb dX9_extendsBy_7 ?_
  refine lv_iload_n hx hb dX9_extendsBy_8 rfl (lv_at hl 3 rfl) ?_
  refine lv_iadd hx hb dX9_extendsBy_9 ?_
  refine r_top hm (fun a13 hm => ?_)
  refine lv_istore (lv' := [(5, .int a13), (0, .ref (ad o)), (1, .int v1), (2, .int v2), (3, .int v3), (4, .int v4)]) hx hb dX9_extendsBy_10 hl (by decide) rfl (fun ls hl => ?_)
  refine lv_aload_n hx hb dX9_extendsBy_12 rfl (lv_at hl 1 rfl) ?_
  refine r_getr S hG hP ho clX9 fX9_9 kX9_25 dX9_extendsBy_13 ?_
  refine lv_iload hx hb dX9_extendsBy_16 (lv_at hl 0 rfl) ?_
  refine lv_aload_n hx hb dX9_extendsBy_18 rfl (lv_at hl 1 rfl) ?_
  refine lv_aload_n hx hb dX9_extendsBy_19 rfl (lv_at hl 1 rfl) ?_
  refine r_getr S hG hP ho clX9 fX9_9 kX9_25 dX9_extendsBy_20 ?_
  refine lv_iload hx hb dX9_extendsBy_23 (lv_at hl 0 rfl) ?_
  refine r_iald S hG hP (chX9_9 hG ho) hm dX9_extendsBy_25 (fun a14 hm => ?_)
  refine lv_iload hx hb dX9_extendsBy_26 (lv_at hl 5 rfl) ?_
  refine r_vcalli (As := [.int a14, .int v4]) (rest := [.int a13, .ref (ad (o + 6))]) S hG hP hS mX9_less kX9_157 clX9 ho (tX9_less _ _ _ _ _ _ _ _ ho a14 v4) ⟨rfl, rfl⟩ (rm_ok (by decide) (by decide)) hm hl.1 rfl (Nat.le_of_ble_eq_true rfl) ⟨Nat.zero_le _, Nat.zero_le _⟩ dX9_extendsBy_28 (fun b16 μ15 H locs hm hP hS => ?_)
  refine r_iast S hG hP hS (chX9_9 hG ho) hm dX9_extendsBy_31 (fun μ17 H locs hm hP hS => ?_)
  refine lv_iconst (v := (0 : Int32)) hx hb dX9_extendsBy_32 (by decide) ?_
  refine lv_istore (lv' := [(6, .int (0 : Int32)), (5, .int a13), (0, .ref (ad o)), (1, .int v1), (2, .int v2), (3, .int v3), (4, .int v4)]) hx hb dX9_extendsBy_33 hl (by decide) rfl (fun ls hl => ?_)
  exact wX9_extendsBy_35 S hr hG ho FU v1 v2 v3 v4 (0 : Int32) μ17 hm H locs ls hP hS (lv_sub hl [2, 3, 4, 5, 6, 0] rfl)
theorem tX9_extendsBy (l : Launch) (D : va_G) (cI cR : ClassId) (n : Nat) (K L ad : Nat → Nat) {o : Nat} (ho : isk n K o 9) (v1 : Int32) (v2 : Int32) (v3 : Int32) (v4 : Int32) : Cv l yX9_extendsBy cX9_extendsBy 8 none (rmL 1) D cI cR n K L ad [.ref (ad o), .int v1, .int v2, .int v3, .int v4] (fX9_extendsBy L o v1 v2 v3 v4) := by
  refine Cv.ofW (by decide) (Nat.le_of_ble_eq_true rfl) ?_
  intro μ x hm p e s m args below meth c ls S hr hG hP hS hl
  exact wX9_extendsBy_0 S hr hG ho v1 v2 v3 v4 μ hm _ _ ls hP hS hl
-- X9_raises
set_option maxHeartbeats 4000000 in
set_option maxRecDepth 100000 in
theorem wX9_raises_2 (S : CallFix p m c cX9_raises 4 s args TB RX9) (hr : meth.sig.returnType = none ∧ meth.locks = false) (hG : gok D cI cR n K L ad s) {o : Nat} (ho : isk n K o 9) {x : Mem} : ∀ (k : Nat) (v1 v2 v3 : Int32) (μ : Mem), fX9_raises_2 L o k v1 v2 v3 μ = some x → WV p l e (rmL 1) s m args below meth c D cI cR n K L ad 4 x μ 2 [(0, .ref (ad o)), (1, .int v1), (2, .int v2), (3, .int v3)] [] := by
  have hx := S.1
  have hb := S.2.1
  intro k
  induction k with
  | zero => intro v1 v2 v3 μ hm; exact absurd (show none = some x from hm) (fun h => by cases h)
  | succ k ih =>
    intro v1 v2 v3 μ hm H locs ls hP hS hl
    have hm : fX9_raises_2_b L o (fX9_raises_2 L o k) v1 v2 v3 μ = some x := hm
    unfold fX9_raises_2_b at hm
    refine lv_iload_n hx hb dX9_raises_2 rfl (lv_at hl 3 rfl) ?_
    refine lv_aload_n hx hb dX9_raises_3 rfl (lv_at hl 0 rfl) ?_
    refine r_getr S hG hP ho clX9 fX9_3 kX9_13 dX9_raises_4 ?_
    refine lv_iload_n hx hb dX9_raises_7 rfl (lv_at hl 1 rfl) ?_
    refine r_iald S hG hP (chX9_3 hG ho) hm dX9_raises_8 (fun a1 hm => ?_)
    refine b_icmp_ge (tgt := 43) S dX9_raises_9 (by decide) hm (fun hm => ?_) (fun hm => ?_)
    · refine lv_aload_n hx hb dX9_raises_43 rfl (lv_at hl 0 rfl) ?_
      refine r_getr S hG hP ho clX9 fX9_9 kX9_25 dX9_raises_44 ?_
      refine lv_sipush (v := (168 : Int32)) hx hb dX9_raises_47 (by decide) ?_
      refine lv_aload_n hx hb dX9_raises_50 rfl (lv_at hl 0 rfl) ?_
      refine lv_aload_n hx hb dX9_raises_51 rfl (lv_at hl 0 rfl) ?_
      refine r_getr S hG hP ho clX9 fX9_9 kX9_25 dX9_raises_52 ?_
      refine lv_sipush (v := (168 : Int32)) hx hb dX9_raises_55 (by decide) ?_
      refine r_iald S hG hP (chX9_9 hG ho) hm dX9_raises_58 (fun a2 hm => ?_)
      refine lv_iload_n hx hb dX9_raises_59 rfl (lv_at hl 2 rfl) ?_
      refine r_vcalli (As := [.int a2, .int v2]) (rest := [.int (168 : Int32), .ref (ad (o + 6))]) S hG hP hS mX9_sum kX9_125 clX9 ho (tX9_sum _ _ _ _ _ _ _ _ ho a2 v2) ⟨rfl, rfl⟩ (rm_ok (by decide) (by decide)) hm hl.1 rfl (Nat.le_of_ble_eq_true rfl) ⟨Nat.zero_le _, Nat.zero_le _⟩ dX9_raises_60 (fun b4 μ3 H locs hm hP hS => ?_)
      refine r_iast S hG hP hS (chX9_9 hG ho) hm dX9_raises_63 (fun μ5 H locs hm hP hS => ?_)
      exact r_vret S hr hG hP hS hm dX9_raises_64
    · refine lv_aload_n hx hb dX9_raises_12 rfl (lv_at hl 0 rfl) ?_
      refine r_getr S hG hP ho clX9 fX9_9 kX9_25 dX9_raises_13 ?_
      refine lv_iconst (v := (4 : Int32)) hx hb dX9_raises_16 (by decide) ?_
      refine lv_iload_n hx hb dX9_raises_17 rfl (lv_at hl 1 rfl) ?_
      refine lv_imul hx hb dX9_raises_18 ?_
      refine lv_iload_n hx hb dX9_raises_19 rfl (lv_at hl 3 rfl) ?_
      refine lv_iadd hx hb dX9_raises_20 ?_
      refine lv_aload_n hx hb dX9_raises_21 rfl (lv_at hl 0 rfl) ?_
      refine lv_aload_n hx hb dX9_raises_22 rfl (lv_at hl 0 rfl) ?_
      refine r_getr S hG hP ho clX9 fX9_9 kX9_25 dX9_raises_23 ?_
      refine lv_iconst (v := (4 : Int32)) hx hb dX9_raises_26 (by decide) ?_
      refine lv_iload_n hx hb dX9_raises_27 rfl (lv_at hl 1 rfl) ?_
      refine lv_imul hx hb dX9_raises_28 ?_
      refine lv_iload_n hx hb dX9_raises_29 rfl (lv_at hl 3 rfl) ?_
      refine lv_iadd hx hb dX9_raises_30 ?_
      refine r_iald S hG hP (chX9_9 hG ho) hm dX9_raises_31 (fun a6 hm => ?_)
      refine lv_iload_n hx hb dX9_raises_32 rfl (lv_at hl 2 rfl) ?_
      refine r_vcalli (As := [.int a6, .int v2]) (rest := [.int (((4 : Int32) * v1) + v3), .ref (ad (o + 6))]) S hG hP hS mX9_less kX9_157 clX9 ho (tX9_less _ _ _ _ _ _ _ _ ho a6 v2) ⟨rfl, rfl⟩ (rm_ok (by decide) (by decide)) hm hl.1 rfl (Nat.le_of_ble_eq_true rfl) ⟨Nat.zero_le _, Nat.zero_le _⟩ dX9_raises_33 (fun b8 μ7 H locs hm hP hS => ?_)
      refine r_iast S hG hP hS (chX9_9 hG ho) hm dX9_raises_36 (fun μ9 H locs hm hP hS => ?_)
      refine r_iinc (b := (1 : Int32)) (k := 3) S hm dX9_raises_37 hl rfl (by decide) (by decide) (fun a10 ls hm hl => ?_)
      have hl : lv_has ls 4 [(3, .int a10), (0, .ref (ad o)), (1, .int v1), (2, .int v2)] := hl
      refine lv_goto (tgt := 2) hx hb dX9_raises_40 (by decide) ?_
      exact ih v1 v2 a10 μ9 hm H locs ls hP hS (lv_sub hl [1, 2, 3, 0] rfl)
set_option maxHeartbeats 4000000 in
set_option maxRecDepth 100000 in
theorem wX9_raises_0 (S : CallFix p m c cX9_raises 4 s args TB RX9) (hr : meth.sig.returnType = none ∧ meth.locks = false) (hG : gok D cI cR n K L ad s) {o : Nat} (ho : isk n K o 9) {x : Mem} : ∀ (v1 v2 : Int32) (μ : Mem), fX9_raises L o v1 v2 μ = some x → WV p l e (rmL 1) s m args below meth c D cI cR n K L ad 4 x μ 0 [(0, .ref (ad o)), (1, .int v1), (2, .int v2)] [] := by
  have hx := S.1
  have hb := S.2.1
  intro v1 v2 μ hm H locs ls hP hS hl
  unfold fX9_raises at hm
  refine lv_iconst (v := (0 : Int32)) hx hb dX9_raises_0 (by decide) ?_
  refine lv_istore_n (lv' := [(3, .int (0 : Int32)), (0, .ref (ad o)), (1, .int v1), (2, .int v2)]) hx hb dX9_raises_1 rfl hl (by decide) rfl (fun ls hl => ?_)
  exact wX9_raises_2 S hr hG ho FU v1 v2 (0 : Int32) μ hm H locs ls hP hS (lv_sub hl [1, 2, 3, 0] rfl)
theorem tX9_raises (l : Launch) (D : va_G) (cI cR : ClassId) (n : Nat) (K L ad : Nat → Nat) {o : Nat} (ho : isk n K o 9) (v1 : Int32) (v2 : Int32) : Cv l yX9_raises cX9_raises 4 none (rmL 1) D cI cR n K L ad [.ref (ad o), .int v1, .int v2] (fX9_raises L o v1 v2) := by
  refine Cv.ofW (by decide) (Nat.le_of_ble_eq_true rfl) ?_
  intro μ x hm p e s m args below meth c ls S hr hG hP hS hl
  exact wX9_raises_0 S hr hG ho v1 v2 μ hm _ _ ls hP hS hl
-- X9_isMoved
set_option maxHeartbeats 4000000 in
set_option maxRecDepth 100000 in
theorem wX9_isMoved_0 (S : CallFix p m c cX9_isMoved 5 s args TB RX9) (hr : meth.sig.returnType = (some .boolean) ∧ meth.locks = false) (hG : gok D cI cR n K L ad s) {o : Nat} (ho : isk n K o 9) {x : Int32 × Mem} : ∀ (v1 v2 v3 v4 : Int32) (μ : Mem), fX9_isMoved L o v1 v2 v3 v4 μ = some x → WI p l e (rmL 3) s m args below meth c D cI cR n K L ad 5 x μ 0 [(0, .ref (ad o)), (1, .int v1), (2, .int v2), (3, .int v3), (4, .int v4)] [] := by
  have hx := S.1
  have hb := S.2.1
  intro v1 v2 v3 v4 μ hm H locs ls hP hS hl
  unfold fX9_isMoved at hm
  refine lv_aload_n hx hb dX9_isMoved_0 rfl (lv_at hl 0 rfl) ?_
  refine lv_iload_n hx hb dX9_isMoved_1 rfl (lv_at hl 1 rfl) ?_
  refine r_vcalli (As := [.int v1]) (rest := []) S hG hP hS mX9_isTable kX9_144 clX9 ho (tX9_isTable _ _ _ _ _ _ _ _ ho v1) ⟨rfl, rfl⟩ (rm_ok (by decide) (by decide)) hm hl.1 rfl (Nat.le_of_ble_eq_true rfl) ⟨Nat.zero_le _, Nat.zero_le _⟩ dX9_isMoved_2 (fun b2 μ1 H locs hm hP hS => ?_)
  refine b_if_eq (tgt := 46) S dX9_isMoved_5 (by decide) hm (fun hm => ?_) (fun hm => ?_)
  · refine lv_iconst (v := (0 : Int32)) hx hb dX9_isMoved_46 (by decide) ?_
    exact r_zretC S hr hG hP hS rfl hm dX9_isMoved_47
  · refine lv_iload_n hx hb dX9_isMoved_8 rfl (lv_at hl 2 rfl) ?_
    refine lv_iconst (v := (0 : Int32)) hx hb dX9_isMoved_9 (by decide) ?_
    refine lv_iconst (v := (1 : Int32)) hx hb dX9_isMoved_10 (by decide) ?_
    refine r_scalli (As := [.int v2, .int (0 : Int32), .int (1 : Int32)]) (rest := []) S hG hP hS mX9_isIn kX9_85 (tX9_isIn _ _ _ _ _ _ _ _ v2 (0 : Int32) (1 : Int32)) ⟨rfl, rfl⟩ (rm_ok (by decide) (by decide)) hm hl.1 rfl (Nat.le_of_ble_eq_true rfl) ⟨Nat.zero_le _, Nat.zero_le _⟩ dX9_isMoved_11 (fun b4 μ3 H locs hm hP hS => ?_)
    refine b_if_eq (tgt := 46) S dX9_isMoved_14 (by decide) hm (fun hm => ?_) (fun hm => ?_)
    · refine lv_iconst (v := (0 : Int32)) hx hb dX9_isMoved_46 (by decide) ?_
      exact r_zretC S hr hG hP hS rfl hm dX9_isMoved_47
    · refine lv_aload_n hx hb dX9_isMoved_17 rfl (lv_at hl 0 rfl) ?_
      refine lv_aload_n hx hb dX9_isMoved_18 rfl (lv_at hl 0 rfl) ?_
      refine lv_iload_n hx hb dX9_isMoved_19 rfl (lv_at hl 1 rfl) ?_
      refine lv_iload_n hx hb dX9_isMoved_20 rfl (lv_at hl 2 rfl) ?_
      refine r_vcalli (As := [.int v1, .int v2]) (rest := [.ref (ad o)]) S hG hP hS mX9_nameOf kX9_147 clX9 ho (tX9_nameOf _ _ _ _ _ _ _ _ ho v1 v2) ⟨rfl, rfl⟩ (rm_ok (by decide) (by decide)) hm hl.1 rfl (Nat.le_of_ble_eq_true rfl) ⟨Nat.zero_le _, Nat.zero_le _⟩ dX9_isMoved_21 (fun b6 μ5 H locs hm hP hS => ?_)
      refine lv_iload_n hx hb dX9_isMoved_24 rfl (lv_at hl 3 rfl) ?_
      refine r_vcalli (As := [.int b6, .int v3]) (rest := []) S hG hP hS mX9_isValue kX9_141 clX9 ho (tX9_isValue _ _ _ _ _ _ _ _ ho b6 v3) ⟨rfl, rfl⟩ (rm_ok (by decide) (by decide)) hm hl.1 rfl (Nat.le_of_ble_eq_true rfl) ⟨Nat.zero_le _, Nat.zero_le _⟩ dX9_isMoved_25 (fun b8 μ7 H locs hm hP hS => ?_)
      refine b_if_eq (tgt := 46) S dX9_isMoved_28 (by decide) hm (fun hm => ?_) (fun hm => ?_)
      · refine lv_iconst (v := (0 : Int32)) hx hb dX9_isMoved_46 (by decide) ?_
        exact r_zretC S hr hG hP hS rfl hm dX9_isMoved_47
      · refine lv_iload hx hb dX9_isMoved_31 (lv_at hl 4 rfl) ?_
        refine lv_iconst (v := (1 : Int32)) hx hb dX9_isMoved_33 (by decide) ?_
        refine lv_bipush (v := (99 : Int32)) hx hb dX9_isMoved_34 (by decide) ?_
        refine r_scalli (As := [.int v4, .int (1 : Int32), .int (99 : Int32)]) (rest := []) S hG hP hS mX9_isIn kX9_85 (tX9_isIn _ _ _ _ _ _ _ _ v4 (1 : Int32) (99 : Int32)) ⟨rfl, rfl⟩ (rm_ok (by decide) (by decide)) hm hl.1 rfl (Nat.le_of_ble_eq_true rfl) ⟨Nat.zero_le _, Nat.zero_le _⟩ dX9_isMoved_36 (fun b10 μ9 H locs hm hP hS => ?_)
        refine b_if_eq (tgt := 46) S dX9_isMoved_39 (by decide) hm (fun hm => ?_) (fun hm => ?_)
        · refine lv_iconst (v := (0 : Int32)) hx hb dX9_isMoved_46 (by decide) ?_
          exact r_zretC S hr hG hP hS rfl hm dX9_isMoved_47
        · refine lv_iconst (v := (1 : Int32)) hx hb dX9_isMoved_42 (by decide) ?_
          refine lv_goto (tgt := 47) hx hb dX9_isMoved_43 (by decide) ?_
          exact r_zretC S hr hG hP hS rfl hm dX9_isMoved_47
theorem tX9_isMoved (l : Launch) (D : va_G) (cI cR : ClassId) (n : Nat) (K L ad : Nat → Nat) {o : Nat} (ho : isk n K o 9) (v1 : Int32) (v2 : Int32) (v3 : Int32) (v4 : Int32) : Ci l yX9_isMoved cX9_isMoved 5 (some .boolean) (rmL 3) D cI cR n K L ad [.ref (ad o), .int v1, .int v2, .int v3, .int v4] (fX9_isMoved L o v1 v2 v3 v4) := by
  refine Ci.ofW (by decide) (Nat.le_of_ble_eq_true rfl) ?_
  intro μ x hm p e s m args below meth c ls S hr hG hP hS hl
  exact wX9_isMoved_0 S hr hG ho v1 v2 v3 v4 μ hm _ _ ls hP hS hl
-- X9_project
set_option maxHeartbeats 4000000 in
set_option maxRecDepth 100000 in
theorem wX9_project_0 (S : CallFix p m c cX9_project 5 s args TB RX9) (hr : meth.sig.returnType = (some .int) ∧ meth.locks = false) (hG : gok D cI cR n K L ad s) {o : Nat} (ho : isk n K o 9) {x : Int32 × Mem} : ∀ (v1 v2 v3 v4 : Int32) (μ : Mem), fX9_project L o v1 v2 v3 v4 μ = some x → WI p l e (rmL 4) s m args below meth c D cI cR n K L ad 5 x μ 0 [(0, .ref (ad o)), (1, .int v1), (2, .int v2), (3, .int v3), (4, .int v4)] [] := by
  have hx := S.1
  have hb := S.2.1
  intro v1 v2 v3 v4 μ hm H locs ls hP hS hl
  unfold fX9_project at hm
  refine lv_aload_n hx hb dX9_project_0 rfl (lv_at hl 0 rfl) ?_
  refine lv_iload_n hx hb dX9_project_1 rfl (lv_at hl 1 rfl) ?_
  refine lv_iload_n hx hb dX9_project_2 rfl (lv_at hl 2 rfl) ?_
  refine lv_iload_n hx hb dX9_project_3 rfl (lv_at hl 3 rfl) ?_
  refine lv_iload hx hb dX9_project_4 (lv_at hl 4 rfl) ?_
  refine r_vcalli (As := [.int v1, .int v2, .int v3, .int v4]) (rest := []) S hG hP hS mX9_isMoved kX9_160 clX9 ho (tX9_isMoved _ _ _ _ _ _ _ _ ho v1 v2 v3 v4) ⟨rfl, rfl⟩ (rm_ok (by decide) (by decide)) hm hl.1 rfl (Nat.le_of_ble_eq_true rfl) ⟨Nat.zero_le _, Nat.zero_le _⟩ dX9_project_6 (fun b2 μ1 H locs hm hP hS => ?_)
  refine b_if_ne (tgt := 14) S dX9_project_9 (by decide) hm (fun hm => ?_) (fun hm => ?_)
  · refine lv_aload_n hx hb dX9_project_14 rfl (lv_at hl 0 rfl) ?_
    refine lv_iload_n hx hb dX9_project_15 rfl (lv_at hl 1 rfl) ?_
    refine lv_iload_n hx hb dX9_project_16 rfl (lv_at hl 2 rfl) ?_
    refine lv_iload_n hx hb dX9_project_17 rfl (lv_at hl 3 rfl) ?_
    refine r_vcalli (As := [.int v1, .int v2, .int v3]) (rest := []) S hG hP hS mX9_leastPair kX9_164 clX9 ho (tX9_leastPair _ _ _ _ _ _ _ _ ho v1 v2 v3) ⟨rfl, rfl⟩ (rm_ok (by decide) (by decide)) hm hl.1 rfl (Nat.le_of_ble_eq_true rfl) ⟨Nat.zero_le _, Nat.zero_le _⟩ dX9_project_18 (fun b4 μ3 H locs hm hP hS => ?_)
    refine lv_iload hx hb dX9_project_21 (lv_at hl 4 rfl) ?_
    refine b_icmp_ge (tgt := 29) S dX9_project_23 (by decide) hm (fun hm => ?_) (fun hm => ?_)
    · refine lv_aload_n hx hb dX9_project_29 rfl (lv_at hl 0 rfl) ?_
      refine r_vcallv (As := []) (rest := []) S hG hP hS mX9_keeps kX9_154 clX9 ho (tX9_keeps _ _ _ _ _ _ _ _ ho) ⟨rfl, rfl⟩ (rm_ok (by decide) (by decide)) hm hl.1 rfl (Nat.le_of_ble_eq_true rfl) ⟨Nat.zero_le _, Nat.zero_le _⟩ dX9_project_30 (fun μ5 H locs hm hP hS => ?_)
      refine lv_aload_n hx hb dX9_project_33 rfl (lv_at hl 0 rfl) ?_
      refine lv_iload_n hx hb dX9_project_34 rfl (lv_at hl 1 rfl) ?_
      refine lv_iload_n hx hb dX9_project_35 rfl (lv_at hl 2 rfl) ?_
      refine lv_iload_n hx hb dX9_project_36 rfl (lv_at hl 3 rfl) ?_
      refine lv_iload hx hb dX9_project_37 (lv_at hl 4 rfl) ?_
      refine r_vcallv (As := [.int v1, .int v2, .int v3, .int v4]) (rest := []) S hG hP hS mX9_projects kX9_168 clX9 ho (tX9_projects _ _ _ _ _ _ _ _ ho v1 v2 v3 v4) ⟨rfl, rfl⟩ (rm_ok (by decide) (by decide)) hm hl.1 rfl (Nat.le_of_ble_eq_true rfl) ⟨Nat.zero_le _, Nat.zero_le _⟩ dX9_project_39 (fun μ6 H locs hm hP hS => ?_)
      refine lv_aload_n hx hb dX9_project_42 rfl (lv_at hl 0 rfl) ?_
      refine r_getr S hG hP ho clX9 fX9_9 kX9_25 dX9_project_43 ?_
      refine lv_iconst (v := (4 : Int32)) hx hb dX9_project_46 (by decide) ?_
      refine lv_aload_n hx hb dX9_project_47 rfl (lv_at hl 0 rfl) ?_
      refine lv_iload_n hx hb dX9_project_48 rfl (lv_at hl 1 rfl) ?_
      refine lv_iload_n hx hb dX9_project_49 rfl (lv_at hl 2 rfl) ?_
      refine r_vcalli (As := [.int v1, .int v2]) (rest := [.int (4 : Int32), .ref (ad (o + 6))]) S hG hP hS mX9_nameOf kX9_147 clX9 ho (tX9_nameOf _ _ _ _ _ _ _ _ ho v1 v2) ⟨rfl, rfl⟩ (rm_ok (by decide) (by decide)) hm hl.1 rfl (Nat.le_of_ble_eq_true rfl) ⟨Nat.zero_le _, Nat.zero_le _⟩ dX9_project_50 (fun b8 μ7 H locs hm hP hS => ?_)
      refine lv_imul hx hb dX9_project_53 ?_
      refine lv_iload_n hx hb dX9_project_54 rfl (lv_at hl 3 rfl) ?_
      refine lv_iadd hx hb dX9_project_55 ?_
      refine r_iald S hG hP (chX9_9 hG ho) hm dX9_project_56 (fun a9 hm => ?_)
      exact r_iret S hr hG hP hS hm dX9_project_57
    · refine lv_bipush (v := (-2 : Int32)) hx hb dX9_project_26 (by decide) ?_
      exact r_iret S hr hG hP hS hm dX9_project_28
  · refine lv_iconst (v := (-1 : Int32)) hx hb dX9_project_12 (by decide) ?_
    exact r_iret S hr hG hP hS hm dX9_project_13
theorem tX9_project (l : Launch) (D : va_G) (cI cR : ClassId) (n : Nat) (K L ad : Nat → Nat) {o : Nat} (ho : isk n K o 9) (v1 : Int32) (v2 : Int32) (v3 : Int32) (v4 : Int32) : Ci l yX9_project cX9_project 5 (some .int) (rmL 4) D cI cR n K L ad [.ref (ad o), .int v1, .int v2, .int v3, .int v4] (fX9_project L o v1 v2 v3 v4) := by
  refine Ci.ofW (by decide) (Nat.le_of_ble_eq_true rfl) ?_
  intro μ x hm p e s m args below meth c ls S hr hG hP hS hl
  exact wX9_project_0 S hr hG ho v1 v2 v3 v4 μ hm _ _ ls hP hS hl
-- X9_extend
set_option maxHeartbeats 4000000 in
set_option maxRecDepth 100000 in
theorem wX9_extend_0 (S : CallFix p m c cX9_extend 5 s args TB RX9) (hr : meth.sig.returnType = (some .int) ∧ meth.locks = false) (hG : gok D cI cR n K L ad s) {o : Nat} (ho : isk n K o 9) {x : Int32 × Mem} : ∀ (v1 v2 v3 v4 : Int32) (μ : Mem), fX9_extend L o v1 v2 v3 v4 μ = some x → WI p l e (rmL 4) s m args below meth c D cI cR n K L ad 5 x μ 0 [(0, .ref (ad o)), (1, .int v1), (2, .int v2), (3, .int v3), (4, .int v4)] [] := by
  have hx := S.1
  have hb := S.2.1
  intro v1 v2 v3 v4 μ hm H locs ls hP hS hl
  unfold fX9_extend at hm
  refine lv_aload_n hx hb dX9_extend_0 rfl (lv_at hl 0 rfl) ?_
  refine lv_iload_n hx hb dX9_extend_1 rfl (lv_at hl 1 rfl) ?_
  refine lv_iload_n hx hb dX9_extend_2 rfl (lv_at hl 2 rfl) ?_
  refine lv_iload_n hx hb dX9_extend_3 rfl (lv_at hl 3 rfl) ?_
  refine lv_iload hx hb dX9_extend_4 (lv_at hl 4 rfl) ?_
  refine r_vcalli (As := [.int v1, .int v2, .int v3, .int v4]) (rest := []) S hG hP hS mX9_isMoved kX9_160 clX9 ho (tX9_isMoved _ _ _ _ _ _ _ _ ho v1 v2 v3 v4) ⟨rfl, rfl⟩ (rm_ok (by decide) (by decide)) hm hl.1 rfl (Nat.le_of_ble_eq_true rfl) ⟨Nat.zero_le _, Nat.zero_le _⟩ dX9_extend_6 (fun b2 μ1 H locs hm hP hS => ?_)
  refine b_if_ne (tgt := 14) S dX9_extend_9 (by decide) hm (fun hm => ?_) (fun hm => ?_)
  · refine lv_aload_n hx hb dX9_extend_14 rfl (lv_at hl 0 rfl) ?_
    refine r_getr S hG hP ho clX9 fX9_9 kX9_25 dX9_extend_15 ?_
    refine lv_iconst (v := (4 : Int32)) hx hb dX9_extend_18 (by decide) ?_
    refine lv_aload_n hx hb dX9_extend_19 rfl (lv_at hl 0 rfl) ?_
    refine lv_iload_n hx hb dX9_extend_20 rfl (lv_at hl 1 rfl) ?_
    refine lv_iload_n hx hb dX9_extend_21 rfl (lv_at hl 2 rfl) ?_
    refine r_vcalli (As := [.int v1, .int v2]) (rest := [.int (4 : Int32), .ref (ad (o + 6))]) S hG hP hS mX9_nameOf kX9_147 clX9 ho (tX9_nameOf _ _ _ _ _ _ _ _ ho v1 v2) ⟨rfl, rfl⟩ (rm_ok (by decide) (by decide)) hm hl.1 rfl (Nat.le_of_ble_eq_true rfl) ⟨Nat.zero_le _, Nat.zero_le _⟩ dX9_extend_22 (fun b4 μ3 H locs hm hP hS => ?_)
    refine lv_imul hx hb dX9_extend_25 ?_
    refine lv_iload_n hx hb dX9_extend_26 rfl (lv_at hl 3 rfl) ?_
    refine lv_iadd hx hb dX9_extend_27 ?_
    refine r_iald S hG hP (chX9_9 hG ho) hm dX9_extend_28 (fun a5 hm => ?_)
    refine lv_iload hx hb dX9_extend_29 (lv_at hl 4 rfl) ?_
    refine b_icmp_ge (tgt := 37) S dX9_extend_31 (by decide) hm (fun hm => ?_) (fun hm => ?_)
    · refine lv_aload_n hx hb dX9_extend_37 rfl (lv_at hl 0 rfl) ?_
      refine r_vcallv (As := []) (rest := []) S hG hP hS mX9_keeps kX9_154 clX9 ho (tX9_keeps _ _ _ _ _ _ _ _ ho) ⟨rfl, rfl⟩ (rm_ok (by decide) (by decide)) hm hl.1 rfl (Nat.le_of_ble_eq_true rfl) ⟨Nat.zero_le _, Nat.zero_le _⟩ dX9_extend_38 (fun μ6 H locs hm hP hS => ?_)
      refine lv_aload_n hx hb dX9_extend_41 rfl (lv_at hl 0 rfl) ?_
      refine lv_iload_n hx hb dX9_extend_42 rfl (lv_at hl 1 rfl) ?_
      refine lv_iload_n hx hb dX9_extend_43 rfl (lv_at hl 2 rfl) ?_
      refine lv_iload_n hx hb dX9_extend_44 rfl (lv_at hl 3 rfl) ?_
      refine lv_iload hx hb dX9_extend_45 (lv_at hl 4 rfl) ?_
      refine r_vcallv (As := [.int v1, .int v2, .int v3, .int v4]) (rest := []) S hG hP hS mX9_extendsBy kX9_171 clX9 ho (tX9_extendsBy _ _ _ _ _ _ _ _ ho v1 v2 v3 v4) ⟨rfl, rfl⟩ (rm_ok (by decide) (by decide)) hm hl.1 rfl (Nat.le_of_ble_eq_true rfl) ⟨Nat.zero_le _, Nat.zero_le _⟩ dX9_extend_47 (fun μ7 H locs hm hP hS => ?_)
      refine lv_aload_n hx hb dX9_extend_50 rfl (lv_at hl 0 rfl) ?_
      refine r_getr S hG hP ho clX9 fX9_9 kX9_25 dX9_extend_51 ?_
      refine lv_iconst (v := (4 : Int32)) hx hb dX9_extend_54 (by decide) ?_
      refine lv_aload_n hx hb dX9_extend_55 rfl (lv_at hl 0 rfl) ?_
      refine lv_iload_n hx hb dX9_extend_56 rfl (lv_at hl 1 rfl) ?_
      refine lv_iload_n hx hb dX9_extend_57 rfl (lv_at hl 2 rfl) ?_
      refine r_vcalli (As := [.int v1, .int v2]) (rest := [.int (4 : Int32), .ref (ad (o + 6))]) S hG hP hS mX9_nameOf kX9_147 clX9 ho (tX9_nameOf _ _ _ _ _ _ _ _ ho v1 v2) ⟨rfl, rfl⟩ (rm_ok (by decide) (by decide)) hm hl.1 rfl (Nat.le_of_ble_eq_true rfl) ⟨Nat.zero_le _, Nat.zero_le _⟩ dX9_extend_58 (fun b9 μ8 H locs hm hP hS => ?_)
      refine lv_imul hx hb dX9_extend_61 ?_
      refine lv_iload_n hx hb dX9_extend_62 rfl (lv_at hl 3 rfl) ?_
      refine lv_iadd hx hb dX9_extend_63 ?_
      refine r_iald S hG hP (chX9_9 hG ho) hm dX9_extend_64 (fun a10 hm => ?_)
      exact r_iret S hr hG hP hS hm dX9_extend_65
    · refine lv_bipush (v := (-2 : Int32)) hx hb dX9_extend_34 (by decide) ?_
      exact r_iret S hr hG hP hS hm dX9_extend_36
  · refine lv_iconst (v := (-1 : Int32)) hx hb dX9_extend_12 (by decide) ?_
    exact r_iret S hr hG hP hS hm dX9_extend_13
theorem tX9_extend (l : Launch) (D : va_G) (cI cR : ClassId) (n : Nat) (K L ad : Nat → Nat) {o : Nat} (ho : isk n K o 9) (v1 : Int32) (v2 : Int32) (v3 : Int32) (v4 : Int32) : Ci l yX9_extend cX9_extend 5 (some .int) (rmL 4) D cI cR n K L ad [.ref (ad o), .int v1, .int v2, .int v3, .int v4] (fX9_extend L o v1 v2 v3 v4) := by
  refine Ci.ofW (by decide) (Nat.le_of_ble_eq_true rfl) ?_
  intro μ x hm p e s m args below meth c ls S hr hG hP hS hl
  exact wX9_extend_0 S hr hG ho v1 v2 v3 v4 μ hm _ _ ls hP hS hl
-- X9_raise
set_option maxHeartbeats 4000000 in
set_option maxRecDepth 100000 in
theorem wX9_raise_0 (S : CallFix p m c cX9_raise 3 s args TB RX9) (hr : meth.sig.returnType = (some .int) ∧ meth.locks = false) (hG : gok D cI cR n K L ad s) {o : Nat} (ho : isk n K o 9) {x : Int32 × Mem} : ∀ (v1 v2 : Int32) (μ : Mem), fX9_raise L o v1 v2 μ = some x → WI p l e (rmL 2) s m args below meth c D cI cR n K L ad 3 x μ 0 [(0, .ref (ad o)), (1, .int v1), (2, .int v2)] [] := by
  have hx := S.1
  have hb := S.2.1
  intro v1 v2 μ hm H locs ls hP hS hl
  unfold fX9_raise at hm
  refine lv_aload_n hx hb dX9_raise_0 rfl (lv_at hl 0 rfl) ?_
  refine lv_iload_n hx hb dX9_raise_1 rfl (lv_at hl 1 rfl) ?_
  refine r_vcalli (As := [.int v1]) (rest := []) S hG hP hS mX9_isName kX9_132 clX9 ho (tX9_isName _ _ _ _ _ _ _ _ ho v1) ⟨rfl, rfl⟩ (rm_ok (by decide) (by decide)) hm hl.1 rfl (Nat.le_of_ble_eq_true rfl) ⟨Nat.zero_le _, Nat.zero_le _⟩ dX9_raise_2 (fun b2 μ1 H locs hm hP hS => ?_)
  refine b_if_eq (tgt := 18) S dX9_raise_5 (by decide) hm (fun hm => ?_) (fun hm => ?_)
  · refine lv_iconst (v := (-1 : Int32)) hx hb dX9_raise_18 (by decide) ?_
    exact r_iret S hr hG hP hS hm dX9_raise_19
  · refine lv_iload_n hx hb dX9_raise_8 rfl (lv_at hl 2 rfl) ?_
    refine lv_iconst (v := (1 : Int32)) hx hb dX9_raise_9 (by decide) ?_
    refine lv_bipush (v := (99 : Int32)) hx hb dX9_raise_10 (by decide) ?_
    refine r_scalli (As := [.int v2, .int (1 : Int32), .int (99 : Int32)]) (rest := []) S hG hP hS mX9_isIn kX9_85 (tX9_isIn _ _ _ _ _ _ _ _ v2 (1 : Int32) (99 : Int32)) ⟨rfl, rfl⟩ (rm_ok (by decide) (by decide)) hm hl.1 rfl (Nat.le_of_ble_eq_true rfl) ⟨Nat.zero_le _, Nat.zero_le _⟩ dX9_raise_12 (fun b4 μ3 H locs hm hP hS => ?_)
    refine b_if_ne (tgt := 20) S dX9_raise_15 (by decide) hm (fun hm => ?_) (fun hm => ?_)
    · refine lv_aload_n hx hb dX9_raise_20 rfl (lv_at hl 0 rfl) ?_
      refine lv_iload_n hx hb dX9_raise_21 rfl (lv_at hl 1 rfl) ?_
      refine r_vcalli (As := [.int v1]) (rest := []) S hG hP hS mX9_leastSingle kX9_135 clX9 ho (tX9_leastSingle _ _ _ _ _ _ _ _ ho v1) ⟨rfl, rfl⟩ (rm_ok (by decide) (by decide)) hm hl.1 rfl (Nat.le_of_ble_eq_true rfl) ⟨Nat.zero_le _, Nat.zero_le _⟩ dX9_raise_22 (fun b6 μ5 H locs hm hP hS => ?_)
      refine lv_iload_n hx hb dX9_raise_25 rfl (lv_at hl 2 rfl) ?_
      refine b_icmp_ge (tgt := 32) S dX9_raise_26 (by decide) hm (fun hm => ?_) (fun hm => ?_)
      · refine lv_aload_n hx hb dX9_raise_32 rfl (lv_at hl 0 rfl) ?_
        refine r_vcallv (As := []) (rest := []) S hG hP hS mX9_keeps kX9_154 clX9 ho (tX9_keeps _ _ _ _ _ _ _ _ ho) ⟨rfl, rfl⟩ (rm_ok (by decide) (by decide)) hm hl.1 rfl (Nat.le_of_ble_eq_true rfl) ⟨Nat.zero_le _, Nat.zero_le _⟩ dX9_raise_33 (fun μ7 H locs hm hP hS => ?_)
        refine lv_aload_n hx hb dX9_raise_36 rfl (lv_at hl 0 rfl) ?_
        refine lv_iload_n hx hb dX9_raise_37 rfl (lv_at hl 1 rfl) ?_
        refine lv_iload_n hx hb dX9_raise_38 rfl (lv_at hl 2 rfl) ?_
        refine r_vcallv (As := [.int v1, .int v2]) (rest := []) S hG hP hS mX9_raises kX9_174 clX9 ho (tX9_raises _ _ _ _ _ _ _ _ ho v1 v2) ⟨rfl, rfl⟩ (rm_ok (by decide) (by decide)) hm hl.1 rfl (Nat.le_of_ble_eq_true rfl) ⟨Nat.zero_le _, Nat.zero_le _⟩ dX9_raise_39 (fun μ8 H locs hm hP hS => ?_)
        refine lv_aload_n hx hb dX9_raise_42 rfl (lv_at hl 0 rfl) ?_
        refine r_getr S hG hP ho clX9 fX9_9 kX9_25 dX9_raise_43 ?_
        refine lv_sipush (v := (168 : Int32)) hx hb dX9_raise_46 (by decide) ?_
        refine r_iald S hG hP (chX9_9 hG ho) hm dX9_raise_49 (fun a9 hm => ?_)
        exact r_iret S hr hG hP hS hm dX9_raise_50
      · refine lv_bipush (v := (-2 : Int32)) hx hb dX9_raise_29 (by decide) ?_
        exact r_iret S hr hG hP hS hm dX9_raise_31
    · refine lv_iconst (v := (-1 : Int32)) hx hb dX9_raise_18 (by decide) ?_
      exact r_iret S hr hG hP hS hm dX9_raise_19
theorem tX9_raise (l : Launch) (D : va_G) (cI cR : ClassId) (n : Nat) (K L ad : Nat → Nat) {o : Nat} (ho : isk n K o 9) (v1 : Int32) (v2 : Int32) : Ci l yX9_raise cX9_raise 3 (some .int) (rmL 2) D cI cR n K L ad [.ref (ad o), .int v1, .int v2] (fX9_raise L o v1 v2) := by
  refine Ci.ofW (by decide) (Nat.le_of_ble_eq_true rfl) ?_
  intro μ x hm p e s m args below meth c ls S hr hG hP hS hl
  exact wX9_raise_0 S hr hG ho v1 v2 μ hm _ _ ls hP hS hl
-- X9_nodes
set_option maxHeartbeats 4000000 in
set_option maxRecDepth 100000 in
theorem wX9_nodes_73 (S : CallFix p m c cX9_nodes 4 s args TB RX9) (hr : meth.sig.returnType = none ∧ meth.locks = false) (hG : gok D cI cR n K L ad s) {o : Nat} (ho : isk n K o 9) {x : Mem} {self28 : Int32 → Int32 → Mem → Option Mem} (hs28 : ∀ (v1 v3 : Int32) (μ : Mem), self28 v1 v3 μ = some x → WV p l e (rmL 2) s m args below meth c D cI cR n K L ad 4 x μ 28 [(0, .ref (ad o)), (1, .int v1), (3, .int v3)] []) : ∀ (v1 v3 s0 s1 : Int32) (μ : Mem), fX9_nodes_73 L o self28 v1 v3 s0 s1 μ = some x → WV p l e (rmL 2) s m args below meth c D cI cR n K L ad 4 x μ 73 [(0, .ref (ad o)), (1, .int v1), (3, .int v3)] [.int s0, .int s1, .ref (ad (o + 6))] := by
  have hx := S.1
  have hb := S.2.1
  intro v1 v3 s0 s1 μ hm H locs ls hP hS hl
  unfold fX9_nodes_73 at hm
  refine r_iast S hG hP hS (chX9_9 hG ho) hm dX9_nodes_73 (fun μ1 H locs hm hP hS => ?_)
  refine r_iinc (b := (1 : Int32)) (k := 2) S hm dX9_nodes_74 hl rfl (by decide) (by decide) (fun a2 ls hm hl => ?_)
  have hl : lv_has ls 4 [(3, .int a2), (0, .ref (ad o)), (1, .int v1)] := hl
  refine lv_goto (tgt := 28) hx hb dX9_nodes_77 (by decide) ?_
  exact hs28 v1 a2 μ1 hm H locs ls hP hS (lv_sub hl [1, 2, 0] rfl)
set_option maxHeartbeats 4000000 in
set_option maxRecDepth 100000 in
theorem wX9_nodes_28 (S : CallFix p m c cX9_nodes 4 s args TB RX9) (hr : meth.sig.returnType = none ∧ meth.locks = false) (hG : gok D cI cR n K L ad s) {o : Nat} (ho : isk n K o 9) {x : Mem} {self2 : Int32 → Mem → Option Mem} (hs2 : ∀ (v1 : Int32) (μ : Mem), self2 v1 μ = some x → WV p l e (rmL 2) s m args below meth c D cI cR n K L ad 4 x μ 2 [(0, .ref (ad o)), (1, .int v1)] []) : ∀ (k : Nat) (v1 v3 : Int32) (μ : Mem), fX9_nodes_28 L o self2 k v1 v3 μ = some x → WV p l e (rmL 2) s m args below meth c D cI cR n K L ad 4 x μ 28 [(0, .ref (ad o)), (1, .int v1), (3, .int v3)] [] := by
  have hx := S.1
  have hb := S.2.1
  intro k
  induction k with
  | zero => intro v1 v3 μ hm; exact absurd (show none = some x from hm) (fun h => by cases h)
  | succ k ih =>
    intro v1 v3 μ hm H locs ls hP hS hl
    have hm : fX9_nodes_28_b L o self2 (fX9_nodes_28 L o self2 k) v1 v3 μ = some x := hm
    unfold fX9_nodes_28_b at hm
    refine lv_iload_n hx hb dX9_nodes_28 rfl (lv_at hl 2 rfl) ?_
    refine lv_aload_n hx hb dX9_nodes_29 rfl (lv_at hl 0 rfl) ?_
    refine r_getr S hG hP ho clX9 fX9_3 kX9_13 dX9_nodes_30 ?_
    refine lv_iload_n hx hb dX9_nodes_33 rfl (lv_at hl 1 rfl) ?_
    refine r_iald S hG hP (chX9_3 hG ho) hm dX9_nodes_34 (fun a3 hm => ?_)
    refine b_icmp_ge (tgt := 80) S dX9_nodes_35 (by decide) hm (fun hm => ?_) (fun hm => ?_)
    · refine r_iinc (b := (1 : Int32)) (k := 1) S hm dX9_nodes_80 hl rfl (by decide) (by decide) (fun a4 ls hm hl => ?_)
      have hl : lv_has ls 4 [(1, .int a4), (0, .ref (ad o)), (3, .int v3)] := hl
      refine lv_goto (tgt := 2) hx hb dX9_nodes_83 (by decide) ?_
      exact hs2 a4 μ hm H locs ls hP hS (lv_sub hl [1, 0] rfl)
    · refine lv_aload_n hx hb dX9_nodes_38 rfl (lv_at hl 0 rfl) ?_
      refine r_getr S hG hP ho clX9 fX9_9 kX9_25 dX9_nodes_39 ?_
      refine lv_iconst (v := (4 : Int32)) hx hb dX9_nodes_42 (by decide) ?_
      refine lv_iload_n hx hb dX9_nodes_43 rfl (lv_at hl 1 rfl) ?_
      refine lv_imul hx hb dX9_nodes_44 ?_
      refine lv_iload_n hx hb dX9_nodes_45 rfl (lv_at hl 2 rfl) ?_
      refine lv_iadd hx hb dX9_nodes_46 ?_
      refine lv_aload_n hx hb dX9_nodes_47 rfl (lv_at hl 0 rfl) ?_
      refine lv_iload_n hx hb dX9_nodes_48 rfl (lv_at hl 1 rfl) ?_
      refine lv_iload_n hx hb dX9_nodes_49 rfl (lv_at hl 2 rfl) ?_
      refine r_vcalli (As := [.int v1, .int v3]) (rest := [.int (((4 : Int32) * v1) + v3), .ref (ad (o + 6))]) S hG hP hS mX9_isShut kX9_138 clX9 ho (tX9_isShut _ _ _ _ _ _ _ _ ho v1 v3) ⟨rfl, rfl⟩ (rm_ok (by decide) (by decide)) hm hl.1 rfl (Nat.le_of_ble_eq_true rfl) ⟨Nat.zero_le _, Nat.zero_le _⟩ dX9_nodes_50 (fun b6 μ5 H locs hm hP hS => ?_)
      refine b_if_eq (tgt := 63) S dX9_nodes_53 (by decide) hm (fun hm => ?_) (fun hm => ?_)
      · refine lv_aload_n hx hb dX9_nodes_63 rfl (lv_at hl 0 rfl) ?_
        refine r_getr S hG hP ho clX9 fX9_9 kX9_25 dX9_nodes_64 ?_
        refine lv_iconst (v := (4 : Int32)) hx hb dX9_nodes_67 (by decide) ?_
        refine lv_iload_n hx hb dX9_nodes_68 rfl (lv_at hl 1 rfl) ?_
        refine lv_imul hx hb dX9_nodes_69 ?_
        refine lv_iload_n hx hb dX9_nodes_70 rfl (lv_at hl 2 rfl) ?_
        refine lv_iadd hx hb dX9_nodes_71 ?_
        refine r_iald S hG hP (chX9_9 hG ho) hm dX9_nodes_72 (fun a7 hm => ?_)
        exact wX9_nodes_73 S hr hG ho ih v1 v3 a7 (((4 : Int32) * v1) + v3) μ5 hm H locs ls hP hS (lv_sub hl [0, 1, 2] rfl)
      · refine lv_aload_n hx hb dX9_nodes_56 rfl (lv_at hl 0 rfl) ?_
        refine r_geti S hG hP ho clX9 fX9_7 kX9_62 dX9_nodes_57 ?_
        refine lv_goto (tgt := 73) hx hb dX9_nodes_60 (by decide) ?_
        exact wX9_nodes_73 S hr hG ho ih v1 v3 (μ5 o 7) (((4 : Int32) * v1) + v3) μ5 hm H locs ls hP hS (lv_sub hl [0, 1, 2] rfl)
set_option maxHeartbeats 4000000 in
set_option maxRecDepth 100000 in
theorem wX9_nodes_26 (S : CallFix p m c cX9_nodes 4 s args TB RX9) (hr : meth.sig.returnType = none ∧ meth.locks = false) (hG : gok D cI cR n K L ad s) {o : Nat} (ho : isk n K o 9) {x : Mem} {self2 : Int32 → Mem → Option Mem} (hs2 : ∀ (v1 : Int32) (μ : Mem), self2 v1 μ = some x → WV p l e (rmL 2) s m args below meth c D cI cR n K L ad 4 x μ 2 [(0, .ref (ad o)), (1, .int v1)] []) : ∀ (v1 : Int32) (μ : Mem), fX9_nodes_26 L o self2 v1 μ = some x → WV p l e (rmL 2) s m args below meth c D cI cR n K L ad 4 x μ 26 [(0, .ref (ad o)), (1, .int v1)] [] := by
  have hx := S.1
  have hb := S.2.1
  intro v1 μ hm H locs ls hP hS hl
  unfold fX9_nodes_26 at hm
  refine lv_iconst (v := (0 : Int32)) hx hb dX9_nodes_26 (by decide) ?_
  refine lv_istore_n (lv' := [(3, .int (0 : Int32)), (0, .ref (ad o)), (1, .int v1)]) hx hb dX9_nodes_27 rfl hl (by decide) rfl (fun ls hl => ?_)
  exact wX9_nodes_28 S hr hG ho hs2 FU v1 (0 : Int32) μ hm H locs ls hP hS (lv_sub hl [1, 2, 0] rfl)
set_option maxHeartbeats 4000000 in
set_option maxRecDepth 100000 in
theorem wX9_nodes_2 (S : CallFix p m c cX9_nodes 4 s args TB RX9) (hr : meth.sig.returnType = none ∧ meth.locks = false) (hG : gok D cI cR n K L ad s) {o : Nat} (ho : isk n K o 9) {x : Mem} : ∀ (k : Nat) (v1 : Int32) (μ : Mem), fX9_nodes_2 L o k v1 μ = some x → WV p l e (rmL 2) s m args below meth c D cI cR n K L ad 4 x μ 2 [(0, .ref (ad o)), (1, .int v1)] [] := by
  have hx := S.1
  have hb := S.2.1
  intro k
  induction k with
  | zero => intro v1 μ hm; exact absurd (show none = some x from hm) (fun h => by cases h)
  | succ k ih =>
    intro v1 μ hm H locs ls hP hS hl
    have hm : fX9_nodes_2_b L o (fX9_nodes_2 L o k) v1 μ = some x := hm
    unfold fX9_nodes_2_b at hm
    refine lv_iload_n hx hb dX9_nodes_2 rfl (lv_at hl 1 rfl) ?_
    refine lv_aload_n hx hb dX9_nodes_3 rfl (lv_at hl 0 rfl) ?_
    refine r_geti S hG hP ho clX9 fX9_2 kX9_58 dX9_nodes_4 ?_
    refine b_icmp_ge (tgt := 86) S dX9_nodes_7 (by decide) hm (fun hm => ?_) (fun hm => ?_)
    · exact r_vret S hr hG hP hS hm dX9_nodes_86
    · refine lv_aload_n hx hb dX9_nodes_10 rfl (lv_at hl 0 rfl) ?_
      refine lv_iload_n hx hb dX9_nodes_11 rfl (lv_at hl 1 rfl) ?_
      refine r_vcalli (As := [.int v1]) (rest := []) S hG hP hS mX9_leastSingle kX9_135 clX9 ho (tX9_leastSingle _ _ _ _ _ _ _ _ ho v1) ⟨rfl, rfl⟩ (rm_ok (by decide) (by decide)) hm hl.1 rfl (Nat.le_of_ble_eq_true rfl) ⟨Nat.zero_le _, Nat.zero_le _⟩ dX9_nodes_12 (fun b9 μ8 H locs hm hP hS => ?_)
      refine lv_istore_n (lv' := [(2, .int b9), (0, .ref (ad o)), (1, .int v1)]) hx hb dX9_nodes_15 rfl hl (by decide) rfl (fun ls hl => ?_)
      refine lv_iload_n hx hb dX9_nodes_16 rfl (lv_at hl 0 rfl) ?_
      refine b_if_le (tgt := 26) S dX9_nodes_17 (by decide) hm (fun hm => ?_) (fun hm => ?_)
      · exact wX9_nodes_26 S hr hG ho ih v1 μ8 hm H locs ls hP hS (lv_sub hl [1, 2] rfl)
      · refine lv_aload_n hx hb dX9_nodes_20 rfl (lv_at hl 1 rfl) ?_
        refine lv_iload_n hx hb dX9_nodes_21 rfl (lv_at hl 2 rfl) ?_
        refine lv_iload_n hx hb dX9_nodes_22 rfl (lv_at hl 0 rfl) ?_
        refine r_vcallv (As := [.int v1, .int b9]) (rest := []) S hG hP hS mX9_raises kX9_174 clX9 ho (tX9_raises _ _ _ _ _ _ _ _ ho v1 b9) ⟨rfl, rfl⟩ (rm_ok (by decide) (by decide)) hm hl.1 rfl (Nat.le_of_ble_eq_true rfl) ⟨Nat.zero_le _, Nat.zero_le _⟩ dX9_nodes_23 (fun μ10 H locs hm hP hS => ?_)
        exact wX9_nodes_26 S hr hG ho ih v1 μ10 hm H locs ls hP hS (lv_sub hl [1, 2] rfl)
set_option maxHeartbeats 4000000 in
set_option maxRecDepth 100000 in
theorem wX9_nodes_0 (S : CallFix p m c cX9_nodes 4 s args TB RX9) (hr : meth.sig.returnType = none ∧ meth.locks = false) (hG : gok D cI cR n K L ad s) {o : Nat} (ho : isk n K o 9) {x : Mem} : ∀ (μ : Mem), fX9_nodes L o μ = some x → WV p l e (rmL 2) s m args below meth c D cI cR n K L ad 4 x μ 0 [(0, .ref (ad o))] [] := by
  have hx := S.1
  have hb := S.2.1
  intro μ hm H locs ls hP hS hl
  unfold fX9_nodes at hm
  refine lv_iconst (v := (0 : Int32)) hx hb dX9_nodes_0 (by decide) ?_
  refine lv_istore_n (lv' := [(1, .int (0 : Int32)), (0, .ref (ad o))]) hx hb dX9_nodes_1 rfl hl (by decide) rfl (fun ls hl => ?_)
  exact wX9_nodes_2 S hr hG ho FU (0 : Int32) μ hm H locs ls hP hS (lv_sub hl [1, 0] rfl)
theorem tX9_nodes (l : Launch) (D : va_G) (cI cR : ClassId) (n : Nat) (K L ad : Nat → Nat) {o : Nat} (ho : isk n K o 9) : Cv l yX9_nodes cX9_nodes 4 none (rmL 2) D cI cR n K L ad [.ref (ad o)] (fX9_nodes L o) := by
  refine Cv.ofW (by decide) (Nat.le_of_ble_eq_true rfl) ?_
  intro μ x hm p e s m args below meth c ls S hr hG hP hS hl
  exact wX9_nodes_0 S hr hG ho μ hm _ _ ls hP hS hl
-- X9_shuts
set_option maxHeartbeats 4000000 in
set_option maxRecDepth 100000 in
theorem wX9_shuts_94 (S : CallFix p m c cX9_shuts 4 s args TB RX9) (hr : meth.sig.returnType = none ∧ meth.locks = false) (hG : gok D cI cR n K L ad s) {o : Nat} (ho : isk n K o 9) {x : Mem} {self19 : Int32 → Int32 → Int32 → Mem → Option Mem} (hs19 : ∀ (v1 v2 v3 : Int32) (μ : Mem), self19 v1 v2 v3 μ = some x → WV p l e (rmL 1) s m args below meth c D cI cR n K L ad 4 x μ 19 [(0, .ref (ad o)), (1, .int v1), (2, .int v2), (3, .int v3)] []) : ∀ (v1 v2 v3 : Int32) (μ : Mem), fX9_shuts_94 L o self19 v1 v2 v3 μ = some x → WV p l e (rmL 1) s m args below meth c D cI cR n K L ad 4 x μ 94 [(0, .ref (ad o)), (1, .int v1), (2, .int v2), (3, .int v3)] [] := by
  have hx := S.1
  have hb := S.2.1
  intro v1 v2 v3 μ hm H locs ls hP hS hl
  unfold fX9_shuts_94 at hm
  refine r_iinc (b := (1 : Int32)) (k := 3) S hm dX9_shuts_94 hl rfl (by decide) (by decide) (fun a1 ls hm hl => ?_)
  have hl : lv_has ls 4 [(3, .int a1), (0, .ref (ad o)), (1, .int v1), (2, .int v2)] := hl
  refine lv_goto (tgt := 19) hx hb dX9_shuts_97 (by decide) ?_
  exact hs19 v1 v2 a1 μ hm H locs ls hP hS (lv_sub hl [1, 2, 3, 0] rfl)
set_option maxHeartbeats 4000000 in
set_option maxRecDepth 100000 in
theorem wX9_shuts_78 (S : CallFix p m c cX9_shuts 4 s args TB RX9) (hr : meth.sig.returnType = none ∧ meth.locks = false) (hG : gok D cI cR n K L ad s) {o : Nat} (ho : isk n K o 9) {x : Mem} {self19 : Int32 → Int32 → Int32 → Mem → Option Mem} (hs19 : ∀ (v1 v2 v3 : Int32) (μ : Mem), self19 v1 v2 v3 μ = some x → WV p l e (rmL 1) s m args below meth c D cI cR n K L ad 4 x μ 19 [(0, .ref (ad o)), (1, .int v1), (2, .int v2), (3, .int v3)] []) : ∀ (v1 v2 v3 : Int32) (μ : Mem), fX9_shuts_78 L o self19 v1 v2 v3 μ = some x → WV p l e (rmL 1) s m args below meth c D cI cR n K L ad 4 x μ 78 [(0, .ref (ad o)), (1, .int v1), (2, .int v2), (3, .int v3)] [] := by
  have hx := S.1
  have hb := S.2.1
  intro v1 v2 v3 μ hm H locs ls hP hS hl
  unfold fX9_shuts_78 at hm
  refine lv_aload_n hx hb dX9_shuts_78 rfl (lv_at hl 0 rfl) ?_
  refine r_getr S hG hP ho clX9 fX9_9 kX9_25 dX9_shuts_79 ?_
  refine lv_iload_n hx hb dX9_shuts_82 rfl (lv_at hl 1 rfl) ?_
  refine lv_iconst (v := (0 : Int32)) hx hb dX9_shuts_83 (by decide) ?_
  refine lv_iload_n hx hb dX9_shuts_84 rfl (lv_at hl 2 rfl) ?_
  refine lv_iload_n hx hb dX9_shuts_85 rfl (lv_at hl 3 rfl) ?_
  refine r_scalli (As := [.int v1, .int (0 : Int32), .int v2, .int v3]) (rest := [.ref (ad (o + 6))]) S hG hP hS mX9_pairAt kX9_150 (tX9_pairAt _ _ _ _ _ _ _ _ v1 (0 : Int32) v2 v3) ⟨rfl, rfl⟩ (rm_ok (by decide) (by decide)) hm hl.1 rfl (Nat.le_of_ble_eq_true rfl) ⟨Nat.zero_le _, Nat.zero_le _⟩ dX9_shuts_86 (fun b3 μ2 H locs hm hP hS => ?_)
  refine lv_aload_n hx hb dX9_shuts_89 rfl (lv_at hl 0 rfl) ?_
  refine r_geti S hG hP ho clX9 fX9_7 kX9_62 dX9_shuts_90 ?_
  refine r_iast S hG hP hS (chX9_9 hG ho) hm dX9_shuts_93 (fun μ4 H locs hm hP hS => ?_)
  exact wX9_shuts_94 S hr hG ho hs19 v1 v2 v3 μ4 hm H locs ls hP hS (lv_sub hl [0, 1, 2, 3] rfl)
set_option maxHeartbeats 4000000 in
set_option maxRecDepth 100000 in
theorem wX9_shuts_19 (S : CallFix p m c cX9_shuts 4 s args TB RX9) (hr : meth.sig.returnType = none ∧ meth.locks = false) (hG : gok D cI cR n K L ad s) {o : Nat} (ho : isk n K o 9) {x : Mem} {self2 : Int32 → Int32 → Mem → Option Mem} (hs2 : ∀ (v1 v2 : Int32) (μ : Mem), self2 v1 v2 μ = some x → WV p l e (rmL 1) s m args below meth c D cI cR n K L ad 4 x μ 2 [(0, .ref (ad o)), (1, .int v1), (2, .int v2)] []) : ∀ (k : Nat) (v1 v2 v3 : Int32) (μ : Mem), fX9_shuts_19 L o self2 k v1 v2 v3 μ = some x → WV p l e (rmL 1) s m args below meth c D cI cR n K L ad 4 x μ 19 [(0, .ref (ad o)), (1, .int v1), (2, .int v2), (3, .int v3)] [] := by
  have hx := S.1
  have hb := S.2.1
  intro k
  induction k with
  | zero => intro v1 v2 v3 μ hm; exact absurd (show none = some x from hm) (fun h => by cases h)
  | succ k ih =>
    intro v1 v2 v3 μ hm H locs ls hP hS hl
    have hm : fX9_shuts_19_b L o self2 (fX9_shuts_19 L o self2 k) v1 v2 v3 μ = some x := hm
    unfold fX9_shuts_19_b at hm
    refine lv_iload_n hx hb dX9_shuts_19 rfl (lv_at hl 3 rfl) ?_
    refine lv_aload_n hx hb dX9_shuts_20 rfl (lv_at hl 0 rfl) ?_
    refine r_getr S hG hP ho clX9 fX9_3 kX9_13 dX9_shuts_21 ?_
    refine lv_aload_n hx hb dX9_shuts_24 rfl (lv_at hl 0 rfl) ?_
    refine r_getr S hG hP ho clX9 fX9_6 kX9_19 dX9_shuts_25 ?_
    refine lv_iload_n hx hb dX9_shuts_28 rfl (lv_at hl 1 rfl) ?_
    refine r_iald S hG hP (chX9_6 hG ho) hm dX9_shuts_29 (fun a5 hm => ?_)
    refine r_iald S hG hP (chX9_3 hG ho) hm dX9_shuts_30 (fun a6 hm => ?_)
    refine b_icmp_ge (tgt := 100) S dX9_shuts_31 (by decide) hm (fun hm => ?_) (fun hm => ?_)
    · refine r_iinc (b := (1 : Int32)) (k := 2) S hm dX9_shuts_100 hl rfl (by decide) (by decide) (fun a7 ls hm hl => ?_)
      have hl : lv_has ls 4 [(2, .int a7), (0, .ref (ad o)), (1, .int v1), (3, .int v3)] := hl
      refine lv_goto (tgt := 2) hx hb dX9_shuts_103 (by decide) ?_
      exact hs2 v1 a7 μ hm H locs ls hP hS (lv_sub hl [1, 2, 0] rfl)
    · refine lv_aload_n hx hb dX9_shuts_34 rfl (lv_at hl 0 rfl) ?_
      refine r_getr S hG hP ho clX9 fX9_9 kX9_25 dX9_shuts_35 ?_
      refine lv_iconst (v := (4 : Int32)) hx hb dX9_shuts_38 (by decide) ?_
      refine lv_aload_n hx hb dX9_shuts_39 rfl (lv_at hl 0 rfl) ?_
      refine r_getr S hG hP ho clX9 fX9_5 kX9_16 dX9_shuts_40 ?_
      refine lv_iload_n hx hb dX9_shuts_43 rfl (lv_at hl 1 rfl) ?_
      refine r_iald S hG hP (chX9_5 hG ho) hm dX9_shuts_44 (fun a8 hm => ?_)
      refine lv_imul hx hb dX9_shuts_45 ?_
      refine lv_iload_n hx hb dX9_shuts_46 rfl (lv_at hl 2 rfl) ?_
      refine lv_iadd hx hb dX9_shuts_47 ?_
      refine r_iald S hG hP (chX9_9 hG ho) hm dX9_shuts_48 (fun a9 hm => ?_)
      refine lv_aload_n hx hb dX9_shuts_49 rfl (lv_at hl 0 rfl) ?_
      refine r_geti S hG hP ho clX9 fX9_7 kX9_62 dX9_shuts_50 ?_
      refine b_icmp_eq (tgt := 78) S dX9_shuts_53 (by decide) hm (fun hm => ?_) (fun hm => ?_)
      · exact wX9_shuts_78 S hr hG ho ih v1 v2 v3 μ hm H locs ls hP hS (lv_sub hl [0, 1, 2, 3] rfl)
      · refine lv_aload_n hx hb dX9_shuts_56 rfl (lv_at hl 0 rfl) ?_
        refine r_getr S hG hP ho clX9 fX9_9 kX9_25 dX9_shuts_57 ?_
        refine lv_iconst (v := (4 : Int32)) hx hb dX9_shuts_60 (by decide) ?_
        refine lv_aload_n hx hb dX9_shuts_61 rfl (lv_at hl 0 rfl) ?_
        refine r_getr S hG hP ho clX9 fX9_6 kX9_19 dX9_shuts_62 ?_
        refine lv_iload_n hx hb dX9_shuts_65 rfl (lv_at hl 1 rfl) ?_
        refine r_iald S hG hP (chX9_6 hG ho) hm dX9_shuts_66 (fun a10 hm => ?_)
        refine lv_imul hx hb dX9_shuts_67 ?_
        refine lv_iload_n hx hb dX9_shuts_68 rfl (lv_at hl 3 rfl) ?_
        refine lv_iadd hx hb dX9_shuts_69 ?_
        refine r_iald S hG hP (chX9_9 hG ho) hm dX9_shuts_70 (fun a11 hm => ?_)
        refine lv_aload_n hx hb dX9_shuts_71 rfl (lv_at hl 0 rfl) ?_
        refine r_geti S hG hP ho clX9 fX9_7 kX9_62 dX9_shuts_72 ?_
        refine b_icmp_ne (tgt := 94) S dX9_shuts_75 (by decide) hm (fun hm => ?_) (fun hm => ?_)
        · exact wX9_shuts_94 S hr hG ho ih v1 v2 v3 μ hm H locs ls hP hS (lv_sub hl [0, 1, 2, 3] rfl)
        · exact wX9_shuts_78 S hr hG ho ih v1 v2 v3 μ hm H locs ls hP hS (lv_sub hl [0, 1, 2, 3] rfl)
set_option maxHeartbeats 4000000 in
set_option maxRecDepth 100000 in
theorem wX9_shuts_2 (S : CallFix p m c cX9_shuts 4 s args TB RX9) (hr : meth.sig.returnType = none ∧ meth.locks = false) (hG : gok D cI cR n K L ad s) {o : Nat} (ho : isk n K o 9) {x : Mem} : ∀ (k : Nat) (v1 v2 : Int32) (μ : Mem), fX9_shuts_2 L o k v1 v2 μ = some x → WV p l e (rmL 1) s m args below meth c D cI cR n K L ad 4 x μ 2 [(0, .ref (ad o)), (1, .int v1), (2, .int v2)] [] := by
  have hx := S.1
  have hb := S.2.1
  intro k
  induction k with
  | zero => intro v1 v2 μ hm; exact absurd (show none = some x from hm) (fun h => by cases h)
  | succ k ih =>
    intro v1 v2 μ hm H locs ls hP hS hl
    have hm : fX9_shuts_2_b L o (fX9_shuts_2 L o k) v1 v2 μ = some x := hm
    unfold fX9_shuts_2_b at hm
    refine lv_iload_n hx hb dX9_shuts_2 rfl (lv_at hl 2 rfl) ?_
    refine lv_aload_n hx hb dX9_shuts_3 rfl (lv_at hl 0 rfl) ?_
    refine r_getr S hG hP ho clX9 fX9_3 kX9_13 dX9_shuts_4 ?_
    refine lv_aload_n hx hb dX9_shuts_7 rfl (lv_at hl 0 rfl) ?_
    refine r_getr S hG hP ho clX9 fX9_5 kX9_16 dX9_shuts_8 ?_
    refine lv_iload_n hx hb dX9_shuts_11 rfl (lv_at hl 1 rfl) ?_
    refine r_iald S hG hP (chX9_5 hG ho) hm dX9_shuts_12 (fun a12 hm => ?_)
    refine r_iald S hG hP (chX9_3 hG ho) hm dX9_shuts_13 (fun a13 hm => ?_)
    refine b_icmp_ge (tgt := 106) S dX9_shuts_14 (by decide) hm (fun hm => ?_) (fun hm => ?_)
    · exact r_vret S hr hG hP hS hm dX9_shuts_106
    · refine lv_iconst (v := (0 : Int32)) hx hb dX9_shuts_17 (by decide) ?_
      refine lv_istore_n (lv' := [(3, .int (0 : Int32)), (0, .ref (ad o)), (1, .int v1), (2, .int v2)]) hx hb dX9_shuts_18 rfl hl (by decide) rfl (fun ls hl => ?_)
      exact wX9_shuts_19 S hr hG ho ih FU v1 v2 (0 : Int32) μ hm H locs ls hP hS (lv_sub hl [1, 2, 3, 0] rfl)
set_option maxHeartbeats 4000000 in
set_option maxRecDepth 100000 in
theorem wX9_shuts_0 (S : CallFix p m c cX9_shuts 4 s args TB RX9) (hr : meth.sig.returnType = none ∧ meth.locks = false) (hG : gok D cI cR n K L ad s) {o : Nat} (ho : isk n K o 9) {x : Mem} : ∀ (v1 : Int32) (μ : Mem), fX9_shuts L o v1 μ = some x → WV p l e (rmL 1) s m args below meth c D cI cR n K L ad 4 x μ 0 [(0, .ref (ad o)), (1, .int v1)] [] := by
  have hx := S.1
  have hb := S.2.1
  intro v1 μ hm H locs ls hP hS hl
  unfold fX9_shuts at hm
  refine lv_iconst (v := (0 : Int32)) hx hb dX9_shuts_0 (by decide) ?_
  refine lv_istore_n (lv' := [(2, .int (0 : Int32)), (0, .ref (ad o)), (1, .int v1)]) hx hb dX9_shuts_1 rfl hl (by decide) rfl (fun ls hl => ?_)
  exact wX9_shuts_2 S hr hG ho FU v1 (0 : Int32) μ hm H locs ls hP hS (lv_sub hl [1, 2, 0] rfl)
theorem tX9_shuts (l : Launch) (D : va_G) (cI cR : ClassId) (n : Nat) (K L ad : Nat → Nat) {o : Nat} (ho : isk n K o 9) (v1 : Int32) : Cv l yX9_shuts cX9_shuts 4 none (rmL 1) D cI cR n K L ad [.ref (ad o), .int v1] (fX9_shuts L o v1) := by
  refine Cv.ofW (by decide) (Nat.le_of_ble_eq_true rfl) ?_
  intro μ x hm p e s m args below meth c ls S hr hG hP hS hl
  exact wX9_shuts_0 S hr hG ho v1 μ hm _ _ ls hP hS hl
-- X9_arcs
set_option maxHeartbeats 4000000 in
set_option maxRecDepth 100000 in
theorem wX9_arcs_52 (S : CallFix p m c cX9_arcs 5 s args TB RX9) (hr : meth.sig.returnType = none ∧ meth.locks = false) (hG : gok D cI cR n K L ad s) {o : Nat} (ho : isk n K o 9) {x : Mem} {self14 : Int32 → Int32 → Int32 → Mem → Option Mem} (hs14 : ∀ (v1 v2 v3 : Int32) (μ : Mem), self14 v1 v2 v3 μ = some x → WV p l e (rmL 2) s m args below meth c D cI cR n K L ad 5 x μ 14 [(0, .ref (ad o)), (1, .int v1), (2, .int v2), (3, .int v3)] []) : ∀ (v1 v2 v3 : Int32) (μ : Mem), fX9_arcs_52 L o self14 v1 v2 v3 μ = some x → WV p l e (rmL 2) s m args below meth c D cI cR n K L ad 5 x μ 52 [(0, .ref (ad o)), (1, .int v1), (2, .int v2), (3, .int v3)] [] := by
  have hx := S.1
  have hb := S.2.1
  intro v1 v2 v3 μ hm H locs ls hP hS hl
  unfold fX9_arcs_52 at hm
  refine r_iinc (b := (1 : Int32)) (k := 3) S hm dX9_arcs_52 hl rfl (by decide) (by decide) (fun a1 ls hm hl => ?_)
  have hl : lv_has ls 5 [(3, .int a1), (0, .ref (ad o)), (1, .int v1), (2, .int v2)] := hl
  refine lv_goto (tgt := 14) hx hb dX9_arcs_55 (by decide) ?_
  exact hs14 v1 v2 a1 μ hm H locs ls hP hS (lv_sub hl [1, 2, 3, 0] rfl)
set_option maxHeartbeats 4000000 in
set_option maxRecDepth 100000 in
theorem wX9_arcs_14 (S : CallFix p m c cX9_arcs 5 s args TB RX9) (hr : meth.sig.returnType = none ∧ meth.locks = false) (hG : gok D cI cR n K L ad s) {o : Nat} (ho : isk n K o 9) {x : Mem} {self7 : Int32 → Int32 → Mem → Option Mem} (hs7 : ∀ (v1 v2 : Int32) (μ : Mem), self7 v1 v2 μ = some x → WV p l e (rmL 2) s m args below meth c D cI cR n K L ad 5 x μ 7 [(0, .ref (ad o)), (1, .int v1), (2, .int v2)] []) : ∀ (k : Nat) (v1 v2 v3 : Int32) (μ : Mem), fX9_arcs_14 L o self7 k v1 v2 v3 μ = some x → WV p l e (rmL 2) s m args below meth c D cI cR n K L ad 5 x μ 14 [(0, .ref (ad o)), (1, .int v1), (2, .int v2), (3, .int v3)] [] := by
  have hx := S.1
  have hb := S.2.1
  intro k
  induction k with
  | zero => intro v1 v2 v3 μ hm; exact absurd (show none = some x from hm) (fun h => by cases h)
  | succ k ih =>
    intro v1 v2 v3 μ hm H locs ls hP hS hl
    have hm : fX9_arcs_14_b L o self7 (fX9_arcs_14 L o self7 k) v1 v2 v3 μ = some x := hm
    unfold fX9_arcs_14_b at hm
    refine lv_iload_n hx hb dX9_arcs_14 rfl (lv_at hl 3 rfl) ?_
    refine lv_aload_n hx hb dX9_arcs_15 rfl (lv_at hl 0 rfl) ?_
    refine r_getr S hG hP ho clX9 fX9_3 kX9_13 dX9_arcs_16 ?_
    refine lv_aload_n hx hb dX9_arcs_19 rfl (lv_at hl 0 rfl) ?_
    refine lv_iload_n hx hb dX9_arcs_20 rfl (lv_at hl 1 rfl) ?_
    refine lv_iload_n hx hb dX9_arcs_21 rfl (lv_at hl 2 rfl) ?_
    refine r_vcalli (As := [.int v1, .int v2]) (rest := [.ref (ad (o + 2)), .int v3]) S hG hP hS mX9_nameOf kX9_147 clX9 ho (tX9_nameOf _ _ _ _ _ _ _ _ ho v1 v2) ⟨rfl, rfl⟩ (rm_ok (by decide) (by decide)) hm hl.1 rfl (Nat.le_of_ble_eq_true rfl) ⟨Nat.zero_le _, Nat.zero_le _⟩ dX9_arcs_22 (fun b3 μ2 H locs hm hP hS => ?_)
    refine r_iald S hG hP (chX9_3 hG ho) hm dX9_arcs_25 (fun a4 hm => ?_)
    refine b_icmp_ge (tgt := 58) S dX9_arcs_26 (by decide) hm (fun hm => ?_) (fun hm => ?_)
    · refine r_iinc (b := (1 : Int32)) (k := 2) S hm dX9_arcs_58 hl rfl (by decide) (by decide) (fun a5 ls hm hl => ?_)
      have hl : lv_has ls 5 [(2, .int a5), (0, .ref (ad o)), (1, .int v1), (3, .int v3)] := hl
      refine lv_goto (tgt := 7) hx hb dX9_arcs_61 (by decide) ?_
      exact hs7 v1 a5 μ2 hm H locs ls hP hS (lv_sub hl [1, 2, 0] rfl)
    · refine lv_aload_n hx hb dX9_arcs_29 rfl (lv_at hl 0 rfl) ?_
      refine lv_iload_n hx hb dX9_arcs_30 rfl (lv_at hl 1 rfl) ?_
      refine lv_iload_n hx hb dX9_arcs_31 rfl (lv_at hl 2 rfl) ?_
      refine lv_iload_n hx hb dX9_arcs_32 rfl (lv_at hl 3 rfl) ?_
      refine r_vcalli (As := [.int v1, .int v2, .int v3]) (rest := []) S hG hP hS mX9_leastPair kX9_164 clX9 ho (tX9_leastPair _ _ _ _ _ _ _ _ ho v1 v2 v3) ⟨rfl, rfl⟩ (rm_ok (by decide) (by decide)) hm hl.1 rfl (Nat.le_of_ble_eq_true rfl) ⟨Nat.zero_le _, Nat.zero_le _⟩ dX9_arcs_33 (fun b7 μ6 H locs hm hP hS => ?_)
      refine lv_istore (lv' := [(4, .int b7), (0, .ref (ad o)), (1, .int v1), (2, .int v2), (3, .int v3)]) hx hb dX9_arcs_36 hl (by decide) rfl (fun ls hl => ?_)
      refine lv_iload hx hb dX9_arcs_38 (lv_at hl 0 rfl) ?_
      refine b_if_le (tgt := 52) S dX9_arcs_40 (by decide) hm (fun hm => ?_) (fun hm => ?_)
      · exact wX9_arcs_52 S hr hG ho ih v1 v2 v3 μ6 hm H locs ls hP hS (lv_sub hl [1, 2, 3, 4] rfl)
      · refine lv_aload_n hx hb dX9_arcs_43 rfl (lv_at hl 1 rfl) ?_
        refine lv_iload_n hx hb dX9_arcs_44 rfl (lv_at hl 2 rfl) ?_
        refine lv_iload_n hx hb dX9_arcs_45 rfl (lv_at hl 3 rfl) ?_
        refine lv_iload_n hx hb dX9_arcs_46 rfl (lv_at hl 4 rfl) ?_
        refine lv_iload hx hb dX9_arcs_47 (lv_at hl 0 rfl) ?_
        refine r_vcallv (As := [.int v1, .int v2, .int v3, .int b7]) (rest := []) S hG hP hS mX9_projects kX9_168 clX9 ho (tX9_projects _ _ _ _ _ _ _ _ ho v1 v2 v3 b7) ⟨rfl, rfl⟩ (rm_ok (by decide) (by decide)) hm hl.1 rfl (Nat.le_of_ble_eq_true rfl) ⟨Nat.zero_le _, Nat.zero_le _⟩ dX9_arcs_49 (fun μ8 H locs hm hP hS => ?_)
        exact wX9_arcs_52 S hr hG ho ih v1 v2 v3 μ8 hm H locs ls hP hS (lv_sub hl [1, 2, 3, 4] rfl)
set_option maxHeartbeats 4000000 in
set_option maxRecDepth 100000 in
theorem wX9_arcs_7 (S : CallFix p m c cX9_arcs 5 s args TB RX9) (hr : meth.sig.returnType = none ∧ meth.locks = false) (hG : gok D cI cR n K L ad s) {o : Nat} (ho : isk n K o 9) {x : Mem} : ∀ (k : Nat) (v1 v2 : Int32) (μ : Mem), fX9_arcs_7 L o k v1 v2 μ = some x → WV p l e (rmL 2) s m args below meth c D cI cR n K L ad 5 x μ 7 [(0, .ref (ad o)), (1, .int v1), (2, .int v2)] [] := by
  have hx := S.1
  have hb := S.2.1
  intro k
  induction k with
  | zero => intro v1 v2 μ hm; exact absurd (show none = some x from hm) (fun h => by cases h)
  | succ k ih =>
    intro v1 v2 μ hm H locs ls hP hS hl
    have hm : fX9_arcs_7_b L o (fX9_arcs_7 L o k) v1 v2 μ = some x := hm
    unfold fX9_arcs_7_b at hm
    refine lv_iload_n hx hb dX9_arcs_7 rfl (lv_at hl 2 rfl) ?_
    refine lv_iconst (v := (2 : Int32)) hx hb dX9_arcs_8 (by decide) ?_
    refine b_icmp_ge (tgt := 64) S dX9_arcs_9 (by decide) hm (fun hm => ?_) (fun hm => ?_)
    · exact r_vret S hr hG hP hS hm dX9_arcs_64
    · refine lv_iconst (v := (0 : Int32)) hx hb dX9_arcs_12 (by decide) ?_
      refine lv_istore_n (lv' := [(3, .int (0 : Int32)), (0, .ref (ad o)), (1, .int v1), (2, .int v2)]) hx hb dX9_arcs_13 rfl hl (by decide) rfl (fun ls hl => ?_)
      exact wX9_arcs_14 S hr hG ho ih FU v1 v2 (0 : Int32) μ hm H locs ls hP hS (lv_sub hl [1, 2, 3, 0] rfl)
set_option maxHeartbeats 4000000 in
set_option maxRecDepth 100000 in
theorem wX9_arcs_0 (S : CallFix p m c cX9_arcs 5 s args TB RX9) (hr : meth.sig.returnType = none ∧ meth.locks = false) (hG : gok D cI cR n K L ad s) {o : Nat} (ho : isk n K o 9) {x : Mem} : ∀ (v1 : Int32) (μ : Mem), fX9_arcs L o v1 μ = some x → WV p l e (rmL 2) s m args below meth c D cI cR n K L ad 5 x μ 0 [(0, .ref (ad o)), (1, .int v1)] [] := by
  have hx := S.1
  have hb := S.2.1
  intro v1 μ hm H locs ls hP hS hl
  unfold fX9_arcs at hm
  refine lv_aload_n hx hb dX9_arcs_0 rfl (lv_at hl 0 rfl) ?_
  refine lv_iload_n hx hb dX9_arcs_1 rfl (lv_at hl 1 rfl) ?_
  refine r_vcallv (As := [.int v1]) (rest := []) S hG hP hS mX9_shuts kX9_178 clX9 ho (tX9_shuts _ _ _ _ _ _ _ _ ho v1) ⟨rfl, rfl⟩ (rm_ok (by decide) (by decide)) hm hl.1 rfl (Nat.le_of_ble_eq_true rfl) ⟨Nat.zero_le _, Nat.zero_le _⟩ dX9_arcs_2 (fun μ9 H locs hm hP hS => ?_)
  refine lv_iconst (v := (0 : Int32)) hx hb dX9_arcs_5 (by decide) ?_
  refine lv_istore_n (lv' := [(2, .int (0 : Int32)), (0, .ref (ad o)), (1, .int v1)]) hx hb dX9_arcs_6 rfl hl (by decide) rfl (fun ls hl => ?_)
  exact wX9_arcs_7 S hr hG ho FU v1 (0 : Int32) μ9 hm H locs ls hP hS (lv_sub hl [1, 2, 0] rfl)
theorem tX9_arcs (l : Launch) (D : va_G) (cI cR : ClassId) (n : Nat) (K L ad : Nat → Nat) {o : Nat} (ho : isk n K o 9) (v1 : Int32) : Cv l yX9_arcs cX9_arcs 5 none (rmL 2) D cI cR n K L ad [.ref (ad o), .int v1] (fX9_arcs L o v1) := by
  refine Cv.ofW (by decide) (Nat.le_of_ble_eq_true rfl) ?_
  intro μ x hm p e s m args below meth c ls S hr hG hP hS hl
  exact wX9_arcs_0 S hr hG ho v1 μ hm _ _ ls hP hS hl
-- X9_directs
set_option maxHeartbeats 4000000 in
set_option maxRecDepth 100000 in
theorem wX9_directs_269 (S : CallFix p m c cX9_directs 8 s args TB RX9) (hr : meth.sig.returnType = none ∧ meth.locks = false) (hG : gok D cI cR n K L ad s) {o : Nat} (ho : isk n K o 9) {x : Mem} {self233 : Int32 → Int32 → Int32 → Mem → Option Mem} (hs233 : ∀ (v1 v2 v4 : Int32) (μ : Mem), self233 v1 v2 v4 μ = some x → WV p l e (rmL 2) s m args below meth c D cI cR n K L ad 8 x μ 233 [(0, .ref (ad o)), (1, .int v1), (2, .int v2), (4, .int v4)] []) : ∀ (v1 v2 v4 : Int32) (μ : Mem), fX9_directs_269 L o self233 v1 v2 v4 μ = some x → WV p l e (rmL 2) s m args below meth c D cI cR n K L ad 8 x μ 269 [(0, .ref (ad o)), (1, .int v1), (2, .int v2), (4, .int v4)] [] := by
  have hx := S.1
  have hb := S.2.1
  intro v1 v2 v4 μ hm H locs ls hP hS hl
  unfold fX9_directs_269 at hm
  refine r_iinc (b := (1 : Int32)) (k := 3) S hm dX9_directs_269 hl rfl (by decide) (by decide) (fun a1 ls hm hl => ?_)
  have hl : lv_has ls 8 [(4, .int a1), (0, .ref (ad o)), (1, .int v1), (2, .int v2)] := hl
  refine lv_goto (tgt := 233) hx hb dX9_directs_272 (by decide) ?_
  exact hs233 v1 v2 a1 μ hm H locs ls hP hS (lv_sub hl [1, 2, 3, 0] rfl)
set_option maxHeartbeats 4000000 in
set_option maxRecDepth 100000 in
theorem wX9_directs_233 (S : CallFix p m c cX9_directs 8 s args TB RX9) (hr : meth.sig.returnType = none ∧ meth.locks = false) (hG : gok D cI cR n K L ad s) {o : Nat} (ho : isk n K o 9) {x : Mem} : ∀ (k : Nat) (v1 v2 v4 : Int32) (μ : Mem), fX9_directs_233 L o k v1 v2 v4 μ = some x → WV p l e (rmL 2) s m args below meth c D cI cR n K L ad 8 x μ 233 [(0, .ref (ad o)), (1, .int v1), (2, .int v2), (4, .int v4)] [] := by
  have hx := S.1
  have hb := S.2.1
  intro k
  induction k with
  | zero => intro v1 v2 v4 μ hm; exact absurd (show none = some x from hm) (fun h => by cases h)
  | succ k ih =>
    intro v1 v2 v4 μ hm H locs ls hP hS hl
    have hm : fX9_directs_233_b L o (fX9_directs_233 L o k) v1 v2 v4 μ = some x := hm
    unfold fX9_directs_233_b at hm
    refine lv_iload hx hb dX9_directs_233 (lv_at hl 3 rfl) ?_
    refine lv_aload_n hx hb dX9_directs_235 rfl (lv_at hl 0 rfl) ?_
    refine r_getr S hG hP ho clX9 fX9_3 kX9_13 dX9_directs_236 ?_
    refine lv_iload_n hx hb dX9_directs_239 rfl (lv_at hl 2 rfl) ?_
    refine r_iald S hG hP (chX9_3 hG ho) hm dX9_directs_240 (fun a2 hm => ?_)
    refine b_icmp_ge (tgt := 275) S dX9_directs_241 (by decide) hm (fun hm => ?_) (fun hm => ?_)
    · exact r_vret S hr hG hP hS hm dX9_directs_275
    · refine lv_aload_n hx hb dX9_directs_244 rfl (lv_at hl 0 rfl) ?_
      refine r_getr S hG hP ho clX9 fX9_22 kX9_46 dX9_directs_245 ?_
      refine lv_iload hx hb dX9_directs_248 (lv_at hl 3 rfl) ?_
      refine r_iald S hG hP (chX9_22 hG ho) hm dX9_directs_250 (fun a3 hm => ?_)
      refine b_if_le (tgt := 269) S dX9_directs_251 (by decide) hm (fun hm => ?_) (fun hm => ?_)
      · exact wX9_directs_269 S hr hG ho ih v1 v2 v4 μ hm H locs ls hP hS (lv_sub hl [0, 1, 2, 3] rfl)
      · refine lv_aload_n hx hb dX9_directs_254 rfl (lv_at hl 0 rfl) ?_
        refine lv_iload_n hx hb dX9_directs_255 rfl (lv_at hl 1 rfl) ?_
        refine lv_iconst (v := (0 : Int32)) hx hb dX9_directs_256 (by decide) ?_
        refine lv_iload hx hb dX9_directs_257 (lv_at hl 3 rfl) ?_
        refine lv_aload_n hx hb dX9_directs_259 rfl (lv_at hl 0 rfl) ?_
        refine r_getr S hG hP ho clX9 fX9_22 kX9_46 dX9_directs_260 ?_
        refine lv_iload hx hb dX9_directs_263 (lv_at hl 3 rfl) ?_
        refine r_iald S hG hP (chX9_22 hG ho) hm dX9_directs_265 (fun a4 hm => ?_)
        refine r_vcallv (As := [.int v1, .int (0 : Int32), .int v4, .int a4]) (rest := []) S hG hP hS mX9_projects kX9_168 clX9 ho (tX9_projects _ _ _ _ _ _ _ _ ho v1 (0 : Int32) v4 a4) ⟨rfl, rfl⟩ (rm_ok (by decide) (by decide)) hm hl.1 rfl (Nat.le_of_ble_eq_true rfl) ⟨Nat.zero_le _, Nat.zero_le _⟩ dX9_directs_266 (fun μ5 H locs hm hP hS => ?_)
        exact wX9_directs_269 S hr hG ho ih v1 v2 v4 μ5 hm H locs ls hP hS (lv_sub hl [0, 1, 2, 3] rfl)
set_option maxHeartbeats 4000000 in
set_option maxRecDepth 100000 in
theorem wX9_directs_224 (S : CallFix p m c cX9_directs 8 s args TB RX9) (hr : meth.sig.returnType = none ∧ meth.locks = false) (hG : gok D cI cR n K L ad s) {o : Nat} (ho : isk n K o 9) {x : Mem} {self135 : Int32 → Int32 → Int32 → Int32 → Mem → Option Mem} (hs135 : ∀ (v1 v2 v3 v4 : Int32) (μ : Mem), self135 v1 v2 v3 v4 μ = some x → WV p l e (rmL 2) s m args below meth c D cI cR n K L ad 8 x μ 135 [(0, .ref (ad o)), (1, .int v1), (2, .int v2), (3, .int v3), (4, .int v4)] []) : ∀ (v1 v2 v3 v4 : Int32) (μ : Mem), fX9_directs_224 L o self135 v1 v2 v3 v4 μ = some x → WV p l e (rmL 2) s m args below meth c D cI cR n K L ad 8 x μ 224 [(0, .ref (ad o)), (1, .int v1), (2, .int v2), (3, .int v3), (4, .int v4)] [] := by
  have hx := S.1
  have hb := S.2.1
  intro v1 v2 v3 v4 μ hm H locs ls hP hS hl
  unfold fX9_directs_224 at hm
  refine r_iinc (b := (1 : Int32)) (k := 4) S hm dX9_directs_224 hl rfl (by decide) (by decide) (fun a6 ls hm hl => ?_)
  have hl : lv_has ls 8 [(4, .int a6), (0, .ref (ad o)), (1, .int v1), (2, .int v2), (3, .int v3)] := hl
  refine lv_goto (tgt := 135) hx hb dX9_directs_227 (by decide) ?_
  exact hs135 v1 v2 v3 a6 μ hm H locs ls hP hS (lv_sub hl [1, 2, 3, 4, 0] rfl)
set_option maxHeartbeats 4000000 in
set_option maxRecDepth 100000 in
theorem wX9_directs_201 (S : CallFix p m c cX9_directs 8 s args TB RX9) (hr : meth.sig.returnType = none ∧ meth.locks = false) (hG : gok D cI cR n K L ad s) {o : Nat} (ho : isk n K o 9) {x : Mem} {self152 : Int32 → Int32 → Int32 → Int32 → Int32 → Int32 → Mem → Option Mem} (hs152 : ∀ (v1 v2 v3 v4 v5 v6 : Int32) (μ : Mem), self152 v1 v2 v3 v4 v5 v6 μ = some x → WV p l e (rmL 2) s m args below meth c D cI cR n K L ad 8 x μ 152 [(0, .ref (ad o)), (1, .int v1), (2, .int v2), (3, .int v3), (4, .int v4), (5, .int v5), (6, .int v6)] []) : ∀ (v1 v2 v3 v4 v6 s0 : Int32) (μ : Mem), fX9_directs_201 L o self152 v1 v2 v3 v4 v6 s0 μ = some x → WV p l e (rmL 2) s m args below meth c D cI cR n K L ad 8 x μ 201 [(0, .ref (ad o)), (1, .int v1), (2, .int v2), (3, .int v3), (4, .int v4), (6, .int v6)] [.int s0] := by
  have hx := S.1
  have hb := S.2.1
  intro v1 v2 v3 v4 v6 s0 μ hm H locs ls hP hS hl
  unfold fX9_directs_201 at hm
  refine lv_istore (lv' := [(5, .int s0), (0, .ref (ad o)), (1, .int v1), (2, .int v2), (3, .int v3), (4, .int v4), (6, .int v6)]) hx hb dX9_directs_201 hl (by decide) rfl (fun ls hl => ?_)
  refine r_iinc (b := (1 : Int32)) (k := 6) S hm dX9_directs_203 hl rfl (by decide) (by decide) (fun a7 ls hm hl => ?_)
  have hl : lv_has ls 8 [(6, .int a7), (5, .int s0), (0, .ref (ad o)), (1, .int v1), (2, .int v2), (3, .int v3), (4, .int v4)] := hl
  refine lv_goto (tgt := 152) hx hb dX9_directs_206 (by decide) ?_
  exact hs152 v1 v2 v3 v4 s0 a7 μ hm H locs ls hP hS (lv_sub hl [2, 3, 4, 5, 6, 1, 0] rfl)
set_option maxHeartbeats 4000000 in
set_option maxRecDepth 100000 in
theorem wX9_directs_152 (S : CallFix p m c cX9_directs 8 s args TB RX9) (hr : meth.sig.returnType = none ∧ meth.locks = false) (hG : gok D cI cR n K L ad s) {o : Nat} (ho : isk n K o 9) {x : Mem} {self135 : Int32 → Int32 → Int32 → Int32 → Mem → Option Mem} (hs135 : ∀ (v1 v2 v3 v4 : Int32) (μ : Mem), self135 v1 v2 v3 v4 μ = some x → WV p l e (rmL 2) s m args below meth c D cI cR n K L ad 8 x μ 135 [(0, .ref (ad o)), (1, .int v1), (2, .int v2), (3, .int v3), (4, .int v4)] []) : ∀ (k : Nat) (v1 v2 v3 v4 v5 v6 : Int32) (μ : Mem), fX9_directs_152 L o self135 k v1 v2 v3 v4 v5 v6 μ = some x → WV p l e (rmL 2) s m args below meth c D cI cR n K L ad 8 x μ 152 [(0, .ref (ad o)), (1, .int v1), (2, .int v2), (3, .int v3), (4, .int v4), (5, .int v5), (6, .int v6)] [] := by
  have hx := S.1
  have hb := S.2.1
  intro k
  induction k with
  | zero => intro v1 v2 v3 v4 v5 v6 μ hm; exact absurd (show none = some x from hm) (fun h => by cases h)
  | succ k ih =>
    intro v1 v2 v3 v4 v5 v6 μ hm H locs ls hP hS hl
    have hm : fX9_directs_152_b L o self135 (fX9_directs_152 L o self135 k) v1 v2 v3 v4 v5 v6 μ = some x := hm
    unfold fX9_directs_152_b at hm
    refine lv_iload hx hb dX9_directs_152 (lv_at hl 6 rfl) ?_
    refine lv_aload_n hx hb dX9_directs_154 rfl (lv_at hl 0 rfl) ?_
    refine r_getr S hG hP ho clX9 fX9_3 kX9_13 dX9_directs_155 ?_
    refine lv_iload_n hx hb dX9_directs_158 rfl (lv_at hl 2 rfl) ?_
    refine r_iald S hG hP (chX9_3 hG ho) hm dX9_directs_159 (fun a8 hm => ?_)
    refine b_icmp_ge (tgt := 209) S dX9_directs_160 (by decide) hm (fun hm => ?_) (fun hm => ?_)
    · refine lv_iload hx hb dX9_directs_209 (lv_at hl 5 rfl) ?_
      refine b_if_le (tgt := 224) S dX9_directs_211 (by decide) hm (fun hm => ?_) (fun hm => ?_)
      · exact wX9_directs_224 S hr hG ho hs135 v1 v2 v3 v4 μ hm H locs ls hP hS (lv_sub hl [0, 1, 2, 3, 4] rfl)
      · refine lv_aload_n hx hb dX9_directs_214 rfl (lv_at hl 0 rfl) ?_
        refine lv_iload_n hx hb dX9_directs_215 rfl (lv_at hl 1 rfl) ?_
        refine lv_iconst (v := (1 : Int32)) hx hb dX9_directs_216 (by decide) ?_
        refine lv_iload hx hb dX9_directs_217 (lv_at hl 4 rfl) ?_
        refine lv_iload hx hb dX9_directs_219 (lv_at hl 5 rfl) ?_
        refine r_vcallv (As := [.int v1, .int (1 : Int32), .int v4, .int v5]) (rest := []) S hG hP hS mX9_extendsBy kX9_171 clX9 ho (tX9_extendsBy _ _ _ _ _ _ _ _ ho v1 (1 : Int32) v4 v5) ⟨rfl, rfl⟩ (rm_ok (by decide) (by decide)) hm hl.1 rfl (Nat.le_of_ble_eq_true rfl) ⟨Nat.zero_le _, Nat.zero_le _⟩ dX9_directs_221 (fun μ9 H locs hm hP hS => ?_)
        exact wX9_directs_224 S hr hG ho hs135 v1 v2 v3 v4 μ9 hm H locs ls hP hS (lv_sub hl [0, 1, 2, 3, 4] rfl)
    · refine lv_aload_n hx hb dX9_directs_163 rfl (lv_at hl 0 rfl) ?_
      refine r_getr S hG hP ho clX9 fX9_22 kX9_46 dX9_directs_164 ?_
      refine lv_iload hx hb dX9_directs_167 (lv_at hl 6 rfl) ?_
      refine r_iald S hG hP (chX9_22 hG ho) hm dX9_directs_169 (fun a10 hm => ?_)
      refine lv_aload_n hx hb dX9_directs_170 rfl (lv_at hl 0 rfl) ?_
      refine r_getr S hG hP ho clX9 fX9_9 kX9_25 dX9_directs_171 ?_
      refine lv_iload_n hx hb dX9_directs_174 rfl (lv_at hl 1 rfl) ?_
      refine lv_iconst (v := (0 : Int32)) hx hb dX9_directs_175 (by decide) ?_
      refine lv_iload hx hb dX9_directs_176 (lv_at hl 6 rfl) ?_
      refine lv_iload hx hb dX9_directs_178 (lv_at hl 4 rfl) ?_
      refine r_scalli (As := [.int v1, .int (0 : Int32), .int v6, .int v4]) (rest := [.ref (ad (o + 6)), .int a10]) S hG hP hS mX9_pairAt kX9_150 (tX9_pairAt _ _ _ _ _ _ _ _ v1 (0 : Int32) v6 v4) ⟨rfl, rfl⟩ (rm_ok (by decide) (by decide)) hm hl.1 rfl (Nat.le_of_ble_eq_true rfl) ⟨Nat.zero_le _, Nat.zero_le _⟩ dX9_directs_180 (fun b12 μ11 H locs hm hP hS => ?_)
      refine r_iald S hG hP (chX9_9 hG ho) hm dX9_directs_183 (fun a13 hm => ?_)
      refine lv_isub hx hb dX9_directs_184 ?_
      refine r_top hm (fun a14 hm => ?_)
      refine lv_istore (lv' := [(7, .int a14), (0, .ref (ad o)), (1, .int v1), (2, .int v2), (3, .int v3), (4, .int v4), (5, .int v5), (6, .int v6)]) hx hb dX9_directs_185 hl (by decide) rfl (fun ls hl => ?_)
      refine lv_iload hx hb dX9_directs_187 (lv_at hl 0 rfl) ?_
      refine lv_iload hx hb dX9_directs_189 (lv_at hl 6 rfl) ?_
      refine b_icmp_le (tgt := 199) S dX9_directs_191 (by decide) hm (fun hm => ?_) (fun hm => ?_)
      · refine lv_iload hx hb dX9_directs_199 (lv_at hl 6 rfl) ?_
        exact wX9_directs_201 S hr hG ho ih v1 v2 v3 v4 v6 v5 μ11 hm H locs ls hP hS (lv_sub hl [1, 2, 3, 4, 5, 7] rfl)
      · refine lv_iload hx hb dX9_directs_194 (lv_at hl 0 rfl) ?_
        refine lv_goto (tgt := 201) hx hb dX9_directs_196 (by decide) ?_
        exact wX9_directs_201 S hr hG ho ih v1 v2 v3 v4 v6 a14 μ11 hm H locs ls hP hS (lv_sub hl [1, 2, 3, 4, 5, 7] rfl)
set_option maxHeartbeats 4000000 in
set_option maxRecDepth 100000 in
theorem wX9_directs_135 (S : CallFix p m c cX9_directs 8 s args TB RX9) (hr : meth.sig.returnType = none ∧ meth.locks = false) (hG : gok D cI cR n K L ad s) {o : Nat} (ho : isk n K o 9) {x : Mem} : ∀ (k : Nat) (v1 v2 v3 v4 : Int32) (μ : Mem), fX9_directs_135 L o k v1 v2 v3 v4 μ = some x → WV p l e (rmL 2) s m args below meth c D cI cR n K L ad 8 x μ 135 [(0, .ref (ad o)), (1, .int v1), (2, .int v2), (3, .int v3), (4, .int v4)] [] := by
  have hx := S.1
  have hb := S.2.1
  intro k
  induction k with
  | zero => intro v1 v2 v3 v4 μ hm; exact absurd (show none = some x from hm) (fun h => by cases h)
  | succ k ih =>
    intro v1 v2 v3 v4 μ hm H locs ls hP hS hl
    have hm : fX9_directs_135_b L o (fX9_directs_135 L o k) v1 v2 v3 v4 μ = some x := hm
    unfold fX9_directs_135_b at hm
    refine lv_iload hx hb dX9_directs_135 (lv_at hl 4 rfl) ?_
    refine lv_aload_n hx hb dX9_directs_137 rfl (lv_at hl 0 rfl) ?_
    refine r_getr S hG hP ho clX9 fX9_3 kX9_13 dX9_directs_138 ?_
    refine lv_iload_n hx hb dX9_directs_141 rfl (lv_at hl 3 rfl) ?_
    refine r_iald S hG hP (chX9_3 hG ho) hm dX9_directs_142 (fun a15 hm => ?_)
    refine b_icmp_ge (tgt := 230) S dX9_directs_143 (by decide) hm (fun hm => ?_) (fun hm => ?_)
    · refine lv_iconst (v := (0 : Int32)) hx hb dX9_directs_230 (by decide) ?_
      refine lv_istore (lv' := [(4, .int (0 : Int32)), (0, .ref (ad o)), (1, .int v1), (2, .int v2), (3, .int v3)]) hx hb dX9_directs_231 hl (by decide) rfl (fun ls hl => ?_)
      exact wX9_directs_233 S hr hG ho FU v1 v2 (0 : Int32) μ hm H locs ls hP hS (lv_sub hl [1, 2, 3, 0] rfl)
    · refine lv_iconst (v := (0 : Int32)) hx hb dX9_directs_146 (by decide) ?_
      refine lv_istore (lv' := [(5, .int (0 : Int32)), (0, .ref (ad o)), (1, .int v1), (2, .int v2), (3, .int v3), (4, .int v4)]) hx hb dX9_directs_147 hl (by decide) rfl (fun ls hl => ?_)
      refine lv_iconst (v := (0 : Int32)) hx hb dX9_directs_149 (by decide) ?_
      refine lv_istore (lv' := [(6, .int (0 : Int32)), (5, .int (0 : Int32)), (0, .ref (ad o)), (1, .int v1), (2, .int v2), (3, .int v3), (4, .int v4)]) hx hb dX9_directs_150 hl (by decide) rfl (fun ls hl => ?_)
      exact wX9_directs_152 S hr hG ho ih FU v1 v2 v3 v4 (0 : Int32) (0 : Int32) μ hm H locs ls hP hS (lv_sub hl [2, 3, 4, 5, 6, 1, 0] rfl)
set_option maxHeartbeats 4000000 in
set_option maxRecDepth 100000 in
theorem wX9_directs_119 (S : CallFix p m c cX9_directs 8 s args TB RX9) (hr : meth.sig.returnType = none ∧ meth.locks = false) (hG : gok D cI cR n K L ad s) {o : Nat} (ho : isk n K o 9) {x : Mem} {self47 : Int32 → Int32 → Int32 → Int32 → Int32 → Mem → Option Mem} (hs47 : ∀ (v1 v2 v3 v4 v5 : Int32) (μ : Mem), self47 v1 v2 v3 v4 v5 μ = some x → WV p l e (rmL 2) s m args below meth c D cI cR n K L ad 8 x μ 47 [(0, .ref (ad o)), (1, .int v1), (2, .int v2), (3, .int v3), (4, .int v4), (5, .int v5)] []) : ∀ (v1 v2 v3 v4 v5 s0 s1 : Int32) (μ : Mem), fX9_directs_119 L o self47 v1 v2 v3 v4 v5 s0 s1 μ = some x → WV p l e (rmL 2) s m args below meth c D cI cR n K L ad 8 x μ 119 [(0, .ref (ad o)), (1, .int v1), (2, .int v2), (3, .int v3), (4, .int v4), (5, .int v5)] [.int s0, .int s1, .ref (ad (o + 13))] := by
  have hx := S.1
  have hb := S.2.1
  intro v1 v2 v3 v4 v5 s0 s1 μ hm H locs ls hP hS hl
  unfold fX9_directs_119 at hm
  refine r_iast S hG hP hS (chX9_22 hG ho) hm dX9_directs_119 (fun μ16 H locs hm hP hS => ?_)
  refine r_iinc (b := (1 : Int32)) (k := 5) S hm dX9_directs_120 hl rfl (by decide) (by decide) (fun a17 ls hm hl => ?_)
  have hl : lv_has ls 8 [(5, .int a17), (0, .ref (ad o)), (1, .int v1), (2, .int v2), (3, .int v3), (4, .int v4)] := hl
  refine lv_goto (tgt := 47) hx hb dX9_directs_123 (by decide) ?_
  exact hs47 v1 v2 v3 v4 a17 μ16 hm H locs ls hP hS (lv_sub hl [1, 2, 3, 4, 5, 0] rfl)
set_option maxHeartbeats 4000000 in
set_option maxRecDepth 100000 in
theorem wX9_directs_47 (S : CallFix p m c cX9_directs 8 s args TB RX9) (hr : meth.sig.returnType = none ∧ meth.locks = false) (hG : gok D cI cR n K L ad s) {o : Nat} (ho : isk n K o 9) {x : Mem} {self22 : Int32 → Int32 → Int32 → Int32 → Mem → Option Mem} (hs22 : ∀ (v1 v2 v3 v4 : Int32) (μ : Mem), self22 v1 v2 v3 v4 μ = some x → WV p l e (rmL 2) s m args below meth c D cI cR n K L ad 8 x μ 22 [(0, .ref (ad o)), (1, .int v1), (2, .int v2), (3, .int v3), (4, .int v4)] []) : ∀ (k : Nat) (v1 v2 v3 v4 v5 : Int32) (μ : Mem), fX9_directs_47 L o self22 k v1 v2 v3 v4 v5 μ = some x → WV p l e (rmL 2) s m args below meth c D cI cR n K L ad 8 x μ 47 [(0, .ref (ad o)), (1, .int v1), (2, .int v2), (3, .int v3), (4, .int v4), (5, .int v5)] [] := by
  have hx := S.1
  have hb := S.2.1
  intro k
  induction k with
  | zero => intro v1 v2 v3 v4 v5 μ hm; exact absurd (show none = some x from hm) (fun h => by cases h)
  | succ k ih =>
    intro v1 v2 v3 v4 v5 μ hm H locs ls hP hS hl
    have hm : fX9_directs_47_b L o self22 (fX9_directs_47 L o self22 k) v1 v2 v3 v4 v5 μ = some x := hm
    unfold fX9_directs_47_b at hm
    refine lv_iload hx hb dX9_directs_47 (lv_at hl 5 rfl) ?_
    refine lv_aload_n hx hb dX9_directs_49 rfl (lv_at hl 0 rfl) ?_
    refine r_getr S hG hP ho clX9 fX9_3 kX9_13 dX9_directs_50 ?_
    refine lv_iload_n hx hb dX9_directs_53 rfl (lv_at hl 3 rfl) ?_
    refine r_iald S hG hP (chX9_3 hG ho) hm dX9_directs_54 (fun a18 hm => ?_)
    refine b_icmp_ge (tgt := 126) S dX9_directs_55 (by decide) hm (fun hm => ?_) (fun hm => ?_)
    · refine r_iinc (b := (1 : Int32)) (k := 4) S hm dX9_directs_126 hl rfl (by decide) (by decide) (fun a19 ls hm hl => ?_)
      have hl : lv_has ls 8 [(4, .int a19), (0, .ref (ad o)), (1, .int v1), (2, .int v2), (3, .int v3), (5, .int v5)] := hl
      refine lv_goto (tgt := 22) hx hb dX9_directs_129 (by decide) ?_
      exact hs22 v1 v2 v3 a19 μ hm H locs ls hP hS (lv_sub hl [1, 2, 3, 4, 0] rfl)
    · refine lv_aload_n hx hb dX9_directs_58 rfl (lv_at hl 0 rfl) ?_
      refine lv_aload_n hx hb dX9_directs_59 rfl (lv_at hl 0 rfl) ?_
      refine r_getr S hG hP ho clX9 fX9_9 kX9_25 dX9_directs_60 ?_
      refine lv_iload_n hx hb dX9_directs_63 rfl (lv_at hl 1 rfl) ?_
      refine lv_iconst (v := (0 : Int32)) hx hb dX9_directs_64 (by decide) ?_
      refine lv_iload hx hb dX9_directs_65 (lv_at hl 4 rfl) ?_
      refine lv_iload hx hb dX9_directs_67 (lv_at hl 5 rfl) ?_
      refine r_scalli (As := [.int v1, .int (0 : Int32), .int v4, .int v5]) (rest := [.ref (ad (o + 6)), .ref (ad o)]) S hG hP hS mX9_pairAt kX9_150 (tX9_pairAt _ _ _ _ _ _ _ _ v1 (0 : Int32) v4 v5) ⟨rfl, rfl⟩ (rm_ok (by decide) (by decide)) hm hl.1 rfl (Nat.le_of_ble_eq_true rfl) ⟨Nat.zero_le _, Nat.zero_le _⟩ dX9_directs_69 (fun b21 μ20 H locs hm hP hS => ?_)
      refine r_iald S hG hP (chX9_9 hG ho) hm dX9_directs_72 (fun a22 hm => ?_)
      refine lv_aload_n hx hb dX9_directs_73 rfl (lv_at hl 0 rfl) ?_
      refine r_getr S hG hP ho clX9 fX9_9 kX9_25 dX9_directs_74 ?_
      refine lv_iconst (v := (4 : Int32)) hx hb dX9_directs_77 (by decide) ?_
      refine lv_iload_n hx hb dX9_directs_78 rfl (lv_at hl 3 rfl) ?_
      refine lv_imul hx hb dX9_directs_79 ?_
      refine lv_iload hx hb dX9_directs_80 (lv_at hl 5 rfl) ?_
      refine lv_iadd hx hb dX9_directs_82 ?_
      refine r_iald S hG hP (chX9_9 hG ho) hm dX9_directs_83 (fun a23 hm => ?_)
      refine r_vcalli (As := [.int a22, .int a23]) (rest := []) S hG hP hS mX9_sum kX9_125 clX9 ho (tX9_sum _ _ _ _ _ _ _ _ ho a22 a23) ⟨rfl, rfl⟩ (rm_ok (by decide) (by decide)) hm hl.1 rfl (Nat.le_of_ble_eq_true rfl) ⟨Nat.zero_le _, Nat.zero_le _⟩ dX9_directs_84 (fun b25 μ24 H locs hm hP hS => ?_)
      refine lv_istore (lv' := [(6, .int b25), (0, .ref (ad o)), (1, .int v1), (2, .int v2), (3, .int v3), (4, .int v4), (5, .int v5)]) hx hb dX9_directs_87 hl (by decide) rfl (fun ls hl => ?_)
      refine lv_aload_n hx hb dX9_directs_89 rfl (lv_at hl 1 rfl) ?_
      refine r_getr S hG hP ho clX9 fX9_22 kX9_46 dX9_directs_90 ?_
      refine lv_iload hx hb dX9_directs_93 (lv_at hl 5 rfl) ?_
      refine lv_iload hx hb dX9_directs_95 (lv_at hl 0 rfl) ?_
      refine lv_aload_n hx hb dX9_directs_97 rfl (lv_at hl 1 rfl) ?_
      refine r_getr S hG hP ho clX9 fX9_22 kX9_46 dX9_directs_98 ?_
      refine lv_iload hx hb dX9_directs_101 (lv_at hl 5 rfl) ?_
      refine r_iald S hG hP (chX9_22 hG ho) hm dX9_directs_103 (fun a26 hm => ?_)
      refine b_icmp_ge (tgt := 112) S dX9_directs_104 (by decide) hm (fun hm => ?_) (fun hm => ?_)
      · refine lv_aload_n hx hb dX9_directs_112 rfl (lv_at hl 1 rfl) ?_
        refine r_getr S hG hP ho clX9 fX9_22 kX9_46 dX9_directs_113 ?_
        refine lv_iload hx hb dX9_directs_116 (lv_at hl 5 rfl) ?_
        refine r_iald S hG hP (chX9_22 hG ho) hm dX9_directs_118 (fun a27 hm => ?_)
        exact wX9_directs_119 S hr hG ho ih v1 v2 v3 v4 v5 a27 v4 μ24 hm H locs ls hP hS (lv_sub hl [1, 2, 3, 4, 5, 6] rfl)
      · refine lv_iload hx hb dX9_directs_107 (lv_at hl 0 rfl) ?_
        refine lv_goto (tgt := 119) hx hb dX9_directs_109 (by decide) ?_
        exact wX9_directs_119 S hr hG ho ih v1 v2 v3 v4 v5 b25 v4 μ24 hm H locs ls hP hS (lv_sub hl [1, 2, 3, 4, 5, 6] rfl)
set_option maxHeartbeats 4000000 in
set_option maxRecDepth 100000 in
theorem wX9_directs_22 (S : CallFix p m c cX9_directs 8 s args TB RX9) (hr : meth.sig.returnType = none ∧ meth.locks = false) (hG : gok D cI cR n K L ad s) {o : Nat} (ho : isk n K o 9) {x : Mem} : ∀ (k : Nat) (v1 v2 v3 v4 : Int32) (μ : Mem), fX9_directs_22 L o k v1 v2 v3 v4 μ = some x → WV p l e (rmL 2) s m args below meth c D cI cR n K L ad 8 x μ 22 [(0, .ref (ad o)), (1, .int v1), (2, .int v2), (3, .int v3), (4, .int v4)] [] := by
  have hx := S.1
  have hb := S.2.1
  intro k
  induction k with
  | zero => intro v1 v2 v3 v4 μ hm; exact absurd (show none = some x from hm) (fun h => by cases h)
  | succ k ih =>
    intro v1 v2 v3 v4 μ hm H locs ls hP hS hl
    have hm : fX9_directs_22_b L o (fX9_directs_22 L o k) v1 v2 v3 v4 μ = some x := hm
    unfold fX9_directs_22_b at hm
    refine lv_iload hx hb dX9_directs_22 (lv_at hl 4 rfl) ?_
    refine lv_aload_n hx hb dX9_directs_24 rfl (lv_at hl 0 rfl) ?_
    refine r_getr S hG hP ho clX9 fX9_3 kX9_13 dX9_directs_25 ?_
    refine lv_iload_n hx hb dX9_directs_28 rfl (lv_at hl 2 rfl) ?_
    refine r_iald S hG hP (chX9_3 hG ho) hm dX9_directs_29 (fun a28 hm => ?_)
    refine b_icmp_ge (tgt := 132) S dX9_directs_30 (by decide) hm (fun hm => ?_) (fun hm => ?_)
    · refine lv_iconst (v := (0 : Int32)) hx hb dX9_directs_132 (by decide) ?_
      refine lv_istore (lv' := [(4, .int (0 : Int32)), (0, .ref (ad o)), (1, .int v1), (2, .int v2), (3, .int v3)]) hx hb dX9_directs_133 hl (by decide) rfl (fun ls hl => ?_)
      exact wX9_directs_135 S hr hG ho FU v1 v2 v3 (0 : Int32) μ hm H locs ls hP hS (lv_sub hl [1, 2, 3, 4, 0] rfl)
    · refine lv_aload_n hx hb dX9_directs_33 rfl (lv_at hl 0 rfl) ?_
      refine r_getr S hG hP ho clX9 fX9_22 kX9_46 dX9_directs_34 ?_
      refine lv_iload hx hb dX9_directs_37 (lv_at hl 4 rfl) ?_
      refine lv_aload_n hx hb dX9_directs_39 rfl (lv_at hl 0 rfl) ?_
      refine r_geti S hG hP ho clX9 fX9_7 kX9_62 dX9_directs_40 ?_
      refine r_iast S hG hP hS (chX9_22 hG ho) hm dX9_directs_43 (fun μ29 H locs hm hP hS => ?_)
      refine lv_iconst (v := (0 : Int32)) hx hb dX9_directs_44 (by decide) ?_
      refine lv_istore (lv' := [(5, .int (0 : Int32)), (0, .ref (ad o)), (1, .int v1), (2, .int v2), (3, .int v3), (4, .int v4)]) hx hb dX9_directs_45 hl (by decide) rfl (fun ls hl => ?_)
      exact wX9_directs_47 S hr hG ho ih FU v1 v2 v3 v4 (0 : Int32) μ29 hm H locs ls hP hS (lv_sub hl [1, 2, 3, 4, 5, 0] rfl)
set_option maxHeartbeats 4000000 in
set_option maxRecDepth 100000 in
theorem wX9_directs_0 (S : CallFix p m c cX9_directs 8 s args TB RX9) (hr : meth.sig.returnType = none ∧ meth.locks = false) (hG : gok D cI cR n K L ad s) {o : Nat} (ho : isk n K o 9) {x : Mem} : ∀ (v1 : Int32) (μ : Mem), fX9_directs L o v1 μ = some x → WV p l e (rmL 2) s m args below meth c D cI cR n K L ad 8 x μ 0 [(0, .ref (ad o)), (1, .int v1)] [] := by
  have hx := S.1
  have hb := S.2.1
  intro v1 μ hm H locs ls hP hS hl
  unfold fX9_directs at hm
  refine lv_aload_n hx hb dX9_directs_0 rfl (lv_at hl 0 rfl) ?_
  refine lv_iload_n hx hb dX9_directs_1 rfl (lv_at hl 1 rfl) ?_
  refine r_vcallv (As := [.int v1]) (rest := []) S hG hP hS mX9_shuts kX9_178 clX9 ho (tX9_shuts _ _ _ _ _ _ _ _ ho v1) ⟨rfl, rfl⟩ (rm_ok (by decide) (by decide)) hm hl.1 rfl (Nat.le_of_ble_eq_true rfl) ⟨Nat.zero_le _, Nat.zero_le _⟩ dX9_directs_2 (fun μ30 H locs hm hP hS => ?_)
  refine lv_aload_n hx hb dX9_directs_5 rfl (lv_at hl 0 rfl) ?_
  refine r_getr S hG hP ho clX9 fX9_5 kX9_16 dX9_directs_6 ?_
  refine lv_iload_n hx hb dX9_directs_9 rfl (lv_at hl 1 rfl) ?_
  refine r_iald S hG hP (chX9_5 hG ho) hm dX9_directs_10 (fun a31 hm => ?_)
  refine lv_istore_n (lv' := [(2, .int a31), (0, .ref (ad o)), (1, .int v1)]) hx hb dX9_directs_11 rfl hl (by decide) rfl (fun ls hl => ?_)
  refine lv_aload_n hx hb dX9_directs_12 rfl (lv_at hl 1 rfl) ?_
  refine r_getr S hG hP ho clX9 fX9_6 kX9_19 dX9_directs_13 ?_
  refine lv_iload_n hx hb dX9_directs_16 rfl (lv_at hl 2 rfl) ?_
  refine r_iald S hG hP (chX9_6 hG ho) hm dX9_directs_17 (fun a32 hm => ?_)
  refine lv_istore_n (lv' := [(3, .int a32), (2, .int a31), (0, .ref (ad o)), (1, .int v1)]) hx hb dX9_directs_18 rfl hl (by decide) rfl (fun ls hl => ?_)
  refine lv_iconst (v := (0 : Int32)) hx hb dX9_directs_19 (by decide) ?_
  refine lv_istore (lv' := [(4, .int (0 : Int32)), (3, .int a32), (2, .int a31), (0, .ref (ad o)), (1, .int v1)]) hx hb dX9_directs_20 hl (by decide) rfl (fun ls hl => ?_)
  exact wX9_directs_22 S hr hG ho FU v1 a31 a32 (0 : Int32) μ30 hm H locs ls hP hS (lv_sub hl [3, 4, 2, 1, 0] rfl)
theorem tX9_directs (l : Launch) (D : va_G) (cI cR : ClassId) (n : Nat) (K L ad : Nat → Nat) {o : Nat} (ho : isk n K o 9) (v1 : Int32) : Cv l yX9_directs cX9_directs 8 none (rmL 2) D cI cR n K L ad [.ref (ad o), .int v1] (fX9_directs L o v1) := by
  refine Cv.ofW (by decide) (Nat.le_of_ble_eq_true rfl) ?_
  intro μ x hm p e s m args below meth c ls S hr hG hP hS hl
  exact wX9_directs_0 S hr hG ho v1 μ hm _ _ ls hP hS hl
end WALKG
