section WALKH
variable {p : Program} {l : Launch} {e : Env} {s : State} {m : MethodId} {args : Array Value} {below : List Frame} {meth : Method} {c : Code} {D : va_G} {cI cR : ClassId} {n : Nat} {K L ad : Nat → Nat}
-- X9_sweeps
set_option maxHeartbeats 4000000 in
set_option maxRecDepth 100000 in
theorem wX9_sweeps_79 (S : CallFix p m c cX9_sweeps 4 s args TB RX9) (hr : meth.sig.returnType = none ∧ meth.locks = false) (hG : gok D cI cR n K L ad s) {o : Nat} (ho : isk n K o 9) {x : Mem} : ∀ (μ : Mem), fX9_sweeps_79 L o μ = some x → WV p l e (rmL 3) s m args below meth c D cI cR n K L ad 4 x μ 79 [(0, .ref (ad o))] [] := by
  have hx := S.1
  have hb := S.2.1
  intro μ hm H locs ls hP hS hl
  unfold fX9_sweeps_79 at hm
  refine lv_aload_n hx hb dX9_sweeps_79 rfl (lv_at hl 0 rfl) ?_
  refine r_vcallv (As := []) (rest := []) S hG hP hS mX9_nodes kX9_188 clX9 ho (tX9_nodes _ _ _ _ _ _ _ _ ho) ⟨rfl, rfl⟩ (rm_ok (by decide) (by decide)) hm hl.1 rfl (Nat.le_of_ble_eq_true rfl) ⟨Nat.zero_le _, Nat.zero_le _⟩ dX9_sweeps_80 (fun μ1 H locs hm hP hS => ?_)
  exact r_vret S hr hG hP hS hm dX9_sweeps_83
set_option maxHeartbeats 4000000 in
set_option maxRecDepth 100000 in
theorem wX9_sweeps_67 (S : CallFix p m c cX9_sweeps 4 s args TB RX9) (hr : meth.sig.returnType = none ∧ meth.locks = false) (hG : gok D cI cR n K L ad s) {o : Nat} (ho : isk n K o 9) {x : Mem} {self44 : Int32 → Int32 → Int32 → Mem → Option Mem} (hs44 : ∀ (v1 v2 v3 : Int32) (μ : Mem), self44 v1 v2 v3 μ = some x → WV p l e (rmL 3) s m args below meth c D cI cR n K L ad 4 x μ 44 [(0, .ref (ad o)), (1, .int v1), (2, .int v2), (3, .int v3)] []) : ∀ (v1 v2 v3 : Int32) (μ : Mem), fX9_sweeps_67 L o self44 v1 v2 v3 μ = some x → WV p l e (rmL 3) s m args below meth c D cI cR n K L ad 4 x μ 67 [(0, .ref (ad o)), (1, .int v1), (2, .int v2), (3, .int v3)] [] := by
  have hx := S.1
  have hb := S.2.1
  intro v1 v2 v3 μ hm H locs ls hP hS hl
  unfold fX9_sweeps_67 at hm
  refine r_iinc (b := (1 : Int32)) (k := 3) S hm dX9_sweeps_67 hl rfl (by decide) (by decide) (fun a2 ls hm hl => ?_)
  have hl : lv_has ls 4 [(3, .int a2), (0, .ref (ad o)), (1, .int v1), (2, .int v2)] := hl
  refine lv_goto (tgt := 44) hx hb dX9_sweeps_70 (by decide) ?_
  exact hs44 v1 v2 a2 μ hm H locs ls hP hS (lv_sub hl [1, 2, 3, 0] rfl)
set_option maxHeartbeats 4000000 in
set_option maxRecDepth 100000 in
theorem wX9_sweeps_44 (S : CallFix p m c cX9_sweeps 4 s args TB RX9) (hr : meth.sig.returnType = none ∧ meth.locks = false) (hG : gok D cI cR n K L ad s) {o : Nat} (ho : isk n K o 9) {x : Mem} {self33 : Int32 → Int32 → Mem → Option Mem} (hs33 : ∀ (v1 v2 : Int32) (μ : Mem), self33 v1 v2 μ = some x → WV p l e (rmL 3) s m args below meth c D cI cR n K L ad 4 x μ 33 [(0, .ref (ad o)), (1, .int v1), (2, .int v2)] []) : ∀ (k : Nat) (v1 v2 v3 : Int32) (μ : Mem), fX9_sweeps_44 L o self33 k v1 v2 v3 μ = some x → WV p l e (rmL 3) s m args below meth c D cI cR n K L ad 4 x μ 44 [(0, .ref (ad o)), (1, .int v1), (2, .int v2), (3, .int v3)] [] := by
  have hx := S.1
  have hb := S.2.1
  intro k
  induction k with
  | zero => intro v1 v2 v3 μ hm; exact absurd (show none = some x from hm) (fun h => by cases h)
  | succ k ih =>
    intro v1 v2 v3 μ hm H locs ls hP hS hl
    have hm : fX9_sweeps_44_b L o self33 (fX9_sweeps_44 L o self33 k) v1 v2 v3 μ = some x := hm
    unfold fX9_sweeps_44_b at hm
    refine lv_iload_n hx hb dX9_sweeps_44 rfl (lv_at hl 3 rfl) ?_
    refine lv_aload_n hx hb dX9_sweeps_45 rfl (lv_at hl 0 rfl) ?_
    refine r_geti S hG hP ho clX9 fX9_4 kX9_65 dX9_sweeps_46 ?_
    refine b_icmp_ge (tgt := 73) S dX9_sweeps_49 (by decide) hm (fun hm => ?_) (fun hm => ?_)
    · refine r_iinc (b := (-1 : Int32)) (k := 2) S hm dX9_sweeps_73 hl rfl (by decide) (by decide) (fun a3 ls hm hl => ?_)
      have hl : lv_has ls 4 [(2, .int a3), (0, .ref (ad o)), (1, .int v1), (3, .int v3)] := hl
      refine lv_goto (tgt := 33) hx hb dX9_sweeps_76 (by decide) ?_
      exact hs33 v1 a3 μ hm H locs ls hP hS (lv_sub hl [1, 2, 0] rfl)
    · refine lv_aload_n hx hb dX9_sweeps_52 rfl (lv_at hl 0 rfl) ?_
      refine r_getr S hG hP ho clX9 fX9_6 kX9_19 dX9_sweeps_53 ?_
      refine lv_iload_n hx hb dX9_sweeps_56 rfl (lv_at hl 3 rfl) ?_
      refine r_iald S hG hP (chX9_6 hG ho) hm dX9_sweeps_57 (fun a4 hm => ?_)
      refine lv_iload_n hx hb dX9_sweeps_58 rfl (lv_at hl 2 rfl) ?_
      refine b_icmp_ne (tgt := 67) S dX9_sweeps_59 (by decide) hm (fun hm => ?_) (fun hm => ?_)
      · exact wX9_sweeps_67 S hr hG ho ih v1 v2 v3 μ hm H locs ls hP hS (lv_sub hl [0, 1, 2, 3] rfl)
      · refine lv_aload_n hx hb dX9_sweeps_62 rfl (lv_at hl 0 rfl) ?_
        refine lv_iload_n hx hb dX9_sweeps_63 rfl (lv_at hl 3 rfl) ?_
        refine r_vcallv (As := [.int v3]) (rest := []) S hG hP hS mX9_directs kX9_185 clX9 ho (tX9_directs _ _ _ _ _ _ _ _ ho v3) ⟨rfl, rfl⟩ (rm_ok (by decide) (by decide)) hm hl.1 rfl (Nat.le_of_ble_eq_true rfl) ⟨Nat.zero_le _, Nat.zero_le _⟩ dX9_sweeps_64 (fun μ5 H locs hm hP hS => ?_)
        exact wX9_sweeps_67 S hr hG ho ih v1 v2 v3 μ5 hm H locs ls hP hS (lv_sub hl [0, 1, 2, 3] rfl)
set_option maxHeartbeats 4000000 in
set_option maxRecDepth 100000 in
theorem wX9_sweeps_33 (S : CallFix p m c cX9_sweeps 4 s args TB RX9) (hr : meth.sig.returnType = none ∧ meth.locks = false) (hG : gok D cI cR n K L ad s) {o : Nat} (ho : isk n K o 9) {x : Mem} : ∀ (k : Nat) (v1 v2 : Int32) (μ : Mem), fX9_sweeps_33 L o k v1 v2 μ = some x → WV p l e (rmL 3) s m args below meth c D cI cR n K L ad 4 x μ 33 [(0, .ref (ad o)), (1, .int v1), (2, .int v2)] [] := by
  have hx := S.1
  have hb := S.2.1
  intro k
  induction k with
  | zero => intro v1 v2 μ hm; exact absurd (show none = some x from hm) (fun h => by cases h)
  | succ k ih =>
    intro v1 v2 μ hm H locs ls hP hS hl
    have hm : fX9_sweeps_33_b L o (fX9_sweeps_33 L o k) v1 v2 μ = some x := hm
    unfold fX9_sweeps_33_b at hm
    refine lv_iload_n hx hb dX9_sweeps_33 rfl (lv_at hl 2 rfl) ?_
    refine b_if_lt (tgt := 79) S dX9_sweeps_34 (by decide) hm (fun hm => ?_) (fun hm => ?_)
    · exact wX9_sweeps_79 S hr hG ho μ hm H locs ls hP hS (lv_sub hl [0] rfl)
    · refine lv_iload_n hx hb dX9_sweeps_37 rfl (lv_at hl 1 rfl) ?_
      refine lv_iconst (v := (2 : Int32)) hx hb dX9_sweeps_38 (by decide) ?_
      refine b_icmp_ne (tgt := 79) S dX9_sweeps_39 (by decide) hm (fun hm => ?_) (fun hm => ?_)
      · exact wX9_sweeps_79 S hr hG ho μ hm H locs ls hP hS (lv_sub hl [0] rfl)
      · refine lv_iconst (v := (0 : Int32)) hx hb dX9_sweeps_42 (by decide) ?_
        refine lv_istore_n (lv' := [(3, .int (0 : Int32)), (0, .ref (ad o)), (1, .int v1), (2, .int v2)]) hx hb dX9_sweeps_43 rfl hl (by decide) rfl (fun ls hl => ?_)
        exact wX9_sweeps_44 S hr hG ho ih FU v1 v2 (0 : Int32) μ hm H locs ls hP hS (lv_sub hl [1, 2, 3, 0] rfl)
set_option maxHeartbeats 4000000 in
set_option maxRecDepth 100000 in
theorem wX9_sweeps_26 (S : CallFix p m c cX9_sweeps 4 s args TB RX9) (hr : meth.sig.returnType = none ∧ meth.locks = false) (hG : gok D cI cR n K L ad s) {o : Nat} (ho : isk n K o 9) {x : Mem} : ∀ (v1 : Int32) (μ : Mem), fX9_sweeps_26 L o v1 μ = some x → WV p l e (rmL 3) s m args below meth c D cI cR n K L ad 4 x μ 26 [(0, .ref (ad o)), (1, .int v1)] [] := by
  have hx := S.1
  have hb := S.2.1
  intro v1 μ hm H locs ls hP hS hl
  unfold fX9_sweeps_26 at hm
  refine lv_aload_n hx hb dX9_sweeps_26 rfl (lv_at hl 0 rfl) ?_
  refine r_geti S hG hP ho clX9 fX9_2 kX9_58 dX9_sweeps_27 ?_
  refine lv_iconst (v := (1 : Int32)) hx hb dX9_sweeps_30 (by decide) ?_
  refine lv_isub hx hb dX9_sweeps_31 ?_
  refine r_top hm (fun a6 hm => ?_)
  refine lv_istore_n (lv' := [(2, .int a6), (0, .ref (ad o)), (1, .int v1)]) hx hb dX9_sweeps_32 rfl hl (by decide) rfl (fun ls hl => ?_)
  exact wX9_sweeps_33 S hr hG ho FU v1 a6 μ hm H locs ls hP hS (lv_sub hl [1, 2, 0] rfl)
set_option maxHeartbeats 4000000 in
set_option maxRecDepth 100000 in
theorem wX9_sweeps_2 (S : CallFix p m c cX9_sweeps 4 s args TB RX9) (hr : meth.sig.returnType = none ∧ meth.locks = false) (hG : gok D cI cR n K L ad s) {o : Nat} (ho : isk n K o 9) {x : Mem} : ∀ (k : Nat) (v1 v2 : Int32) (μ : Mem), fX9_sweeps_2 L o k v1 v2 μ = some x → WV p l e (rmL 3) s m args below meth c D cI cR n K L ad 4 x μ 2 [(0, .ref (ad o)), (1, .int v1), (2, .int v2)] [] := by
  have hx := S.1
  have hb := S.2.1
  intro k
  induction k with
  | zero => intro v1 v2 μ hm; exact absurd (show none = some x from hm) (fun h => by cases h)
  | succ k ih =>
    intro v1 v2 μ hm H locs ls hP hS hl
    have hm : fX9_sweeps_2_b L o (fX9_sweeps_2 L o k) v1 v2 μ = some x := hm
    unfold fX9_sweeps_2_b at hm
    refine lv_iload_n hx hb dX9_sweeps_2 rfl (lv_at hl 2 rfl) ?_
    refine lv_aload_n hx hb dX9_sweeps_3 rfl (lv_at hl 0 rfl) ?_
    refine r_geti S hG hP ho clX9 fX9_4 kX9_65 dX9_sweeps_4 ?_
    refine b_icmp_ge (tgt := 26) S dX9_sweeps_7 (by decide) hm (fun hm => ?_) (fun hm => ?_)
    · exact wX9_sweeps_26 S hr hG ho v1 μ hm H locs ls hP hS (lv_sub hl [0, 1] rfl)
    · refine lv_iload_n hx hb dX9_sweeps_10 rfl (lv_at hl 1 rfl) ?_
      refine lv_iconst (v := (1 : Int32)) hx hb dX9_sweeps_11 (by decide) ?_
      refine b_icmp_ne (tgt := 26) S dX9_sweeps_12 (by decide) hm (fun hm => ?_) (fun hm => ?_)
      · exact wX9_sweeps_26 S hr hG ho v1 μ hm H locs ls hP hS (lv_sub hl [0, 1] rfl)
      · refine lv_aload_n hx hb dX9_sweeps_15 rfl (lv_at hl 0 rfl) ?_
        refine lv_iload_n hx hb dX9_sweeps_16 rfl (lv_at hl 2 rfl) ?_
        refine r_vcallv (As := [.int v2]) (rest := []) S hG hP hS mX9_arcs kX9_182 clX9 ho (tX9_arcs _ _ _ _ _ _ _ _ ho v2) ⟨rfl, rfl⟩ (rm_ok (by decide) (by decide)) hm hl.1 rfl (Nat.le_of_ble_eq_true rfl) ⟨Nat.zero_le _, Nat.zero_le _⟩ dX9_sweeps_17 (fun μ7 H locs hm hP hS => ?_)
        refine r_iinc (b := (1 : Int32)) (k := 2) S hm dX9_sweeps_20 hl rfl (by decide) (by decide) (fun a8 ls hm hl => ?_)
        have hl : lv_has ls 4 [(2, .int a8), (0, .ref (ad o)), (1, .int v1)] := hl
        refine lv_goto (tgt := 2) hx hb dX9_sweeps_23 (by decide) ?_
        exact ih v1 a8 μ7 hm H locs ls hP hS (lv_sub hl [1, 2, 0] rfl)
set_option maxHeartbeats 4000000 in
set_option maxRecDepth 100000 in
theorem wX9_sweeps_0 (S : CallFix p m c cX9_sweeps 4 s args TB RX9) (hr : meth.sig.returnType = none ∧ meth.locks = false) (hG : gok D cI cR n K L ad s) {o : Nat} (ho : isk n K o 9) {x : Mem} : ∀ (v1 : Int32) (μ : Mem), fX9_sweeps L o v1 μ = some x → WV p l e (rmL 3) s m args below meth c D cI cR n K L ad 4 x μ 0 [(0, .ref (ad o)), (1, .int v1)] [] := by
  have hx := S.1
  have hb := S.2.1
  intro v1 μ hm H locs ls hP hS hl
  unfold fX9_sweeps at hm
  refine lv_iconst (v := (0 : Int32)) hx hb dX9_sweeps_0 (by decide) ?_
  refine lv_istore_n (lv' := [(2, .int (0 : Int32)), (0, .ref (ad o)), (1, .int v1)]) hx hb dX9_sweeps_1 rfl hl (by decide) rfl (fun ls hl => ?_)
  exact wX9_sweeps_2 S hr hG ho FU v1 (0 : Int32) μ hm H locs ls hP hS (lv_sub hl [1, 2, 0] rfl)
theorem tX9_sweeps (l : Launch) (D : va_G) (cI cR : ClassId) (n : Nat) (K L ad : Nat → Nat) {o : Nat} (ho : isk n K o 9) (v1 : Int32) : Cv l yX9_sweeps cX9_sweeps 4 none (rmL 3) D cI cR n K L ad [.ref (ad o), .int v1] (fX9_sweeps L o v1) := by
  refine Cv.ofW (by decide) (Nat.le_of_ble_eq_true rfl) ?_
  intro μ x hm p e s m args below meth c ls S hr hG hP hS hl
  exact wX9_sweeps_0 S hr hG ho v1 μ hm _ _ ls hP hS hl
-- X9_sweep
set_option maxHeartbeats 4000000 in
set_option maxRecDepth 100000 in
theorem wX9_sweep_27 (S : CallFix p m c cX9_sweep 4 s args TB RX9) (hr : meth.sig.returnType = (some .int) ∧ meth.locks = false) (hG : gok D cI cR n K L ad s) {o : Nat} (ho : isk n K o 9) {x : Int32 × Mem} : ∀ (k : Nat) (v1 v2 v3 : Int32) (μ : Mem), fX9_sweep_27 L o k v1 v2 v3 μ = some x → WI p l e (rmL 4) s m args below meth c D cI cR n K L ad 4 x μ 27 [(0, .ref (ad o)), (1, .int v1), (2, .int v2), (3, .int v3)] [] := by
  have hx := S.1
  have hb := S.2.1
  intro k
  induction k with
  | zero => intro v1 v2 v3 μ hm; exact absurd (show none = some x from hm) (fun h => by cases h)
  | succ k ih =>
    intro v1 v2 v3 μ hm H locs ls hP hS hl
    have hm : fX9_sweep_27_b L o (fX9_sweep_27 L o k) v1 v2 v3 μ = some x := hm
    unfold fX9_sweep_27_b at hm
    refine lv_iload_n hx hb dX9_sweep_27 rfl (lv_at hl 3 rfl) ?_
    refine lv_iload_n hx hb dX9_sweep_28 rfl (lv_at hl 2 rfl) ?_
    refine b_icmp_ge (tgt := 43) S dX9_sweep_29 (by decide) hm (fun hm => ?_) (fun hm => ?_)
    · refine lv_aload_n hx hb dX9_sweep_43 rfl (lv_at hl 0 rfl) ?_
      refine r_getr S hG hP ho clX9 fX9_9 kX9_25 dX9_sweep_44 ?_
      refine lv_sipush (v := (168 : Int32)) hx hb dX9_sweep_47 (by decide) ?_
      refine r_iald S hG hP (chX9_9 hG ho) hm dX9_sweep_50 (fun a1 hm => ?_)
      exact r_iret S hr hG hP hS hm dX9_sweep_51
    · refine lv_aload_n hx hb dX9_sweep_32 rfl (lv_at hl 0 rfl) ?_
      refine lv_iload_n hx hb dX9_sweep_33 rfl (lv_at hl 1 rfl) ?_
      refine r_vcallv (As := [.int v1]) (rest := []) S hG hP hS mX9_sweeps kX9_191 clX9 ho (tX9_sweeps _ _ _ _ _ _ _ _ ho v1) ⟨rfl, rfl⟩ (rm_ok (by decide) (by decide)) hm hl.1 rfl (Nat.le_of_ble_eq_true rfl) ⟨Nat.zero_le _, Nat.zero_le _⟩ dX9_sweep_34 (fun μ2 H locs hm hP hS => ?_)
      refine r_iinc (b := (1 : Int32)) (k := 3) S hm dX9_sweep_37 hl rfl (by decide) (by decide) (fun a3 ls hm hl => ?_)
      have hl : lv_has ls 4 [(3, .int a3), (0, .ref (ad o)), (1, .int v1), (2, .int v2)] := hl
      refine lv_goto (tgt := 27) hx hb dX9_sweep_40 (by decide) ?_
      exact ih v1 v2 a3 μ2 hm H locs ls hP hS (lv_sub hl [1, 2, 3, 0] rfl)
set_option maxHeartbeats 4000000 in
set_option maxRecDepth 100000 in
theorem wX9_sweep_0 (S : CallFix p m c cX9_sweep 4 s args TB RX9) (hr : meth.sig.returnType = (some .int) ∧ meth.locks = false) (hG : gok D cI cR n K L ad s) {o : Nat} (ho : isk n K o 9) {x : Int32 × Mem} : ∀ (v1 v2 : Int32) (μ : Mem), fX9_sweep L o v1 v2 μ = some x → WI p l e (rmL 4) s m args below meth c D cI cR n K L ad 4 x μ 0 [(0, .ref (ad o)), (1, .int v1), (2, .int v2)] [] := by
  have hx := S.1
  have hb := S.2.1
  intro v1 v2 μ hm H locs ls hP hS hl
  unfold fX9_sweep at hm
  refine lv_iload_n hx hb dX9_sweep_0 rfl (lv_at hl 1 rfl) ?_
  refine lv_iconst (v := (0 : Int32)) hx hb dX9_sweep_1 (by decide) ?_
  refine lv_iconst (v := (2 : Int32)) hx hb dX9_sweep_2 (by decide) ?_
  refine r_scalli (As := [.int v1, .int (0 : Int32), .int (2 : Int32)]) (rest := []) S hG hP hS mX9_isIn kX9_85 (tX9_isIn _ _ _ _ _ _ _ _ v1 (0 : Int32) (2 : Int32)) ⟨rfl, rfl⟩ (rm_ok (by decide) (by decide)) hm hl.1 rfl (Nat.le_of_ble_eq_true rfl) ⟨Nat.zero_le _, Nat.zero_le _⟩ dX9_sweep_3 (fun b5 μ4 H locs hm hP hS => ?_)
  refine b_if_eq (tgt := 19) S dX9_sweep_6 (by decide) hm (fun hm => ?_) (fun hm => ?_)
  · refine lv_iconst (v := (-1 : Int32)) hx hb dX9_sweep_19 (by decide) ?_
    exact r_iret S hr hG hP hS hm dX9_sweep_20
  · refine lv_iload_n hx hb dX9_sweep_9 rfl (lv_at hl 2 rfl) ?_
    refine lv_iconst (v := (1 : Int32)) hx hb dX9_sweep_10 (by decide) ?_
    refine lv_bipush (v := (9 : Int32)) hx hb dX9_sweep_11 (by decide) ?_
    refine r_scalli (As := [.int v2, .int (1 : Int32), .int (9 : Int32)]) (rest := []) S hG hP hS mX9_isIn kX9_85 (tX9_isIn _ _ _ _ _ _ _ _ v2 (1 : Int32) (9 : Int32)) ⟨rfl, rfl⟩ (rm_ok (by decide) (by decide)) hm hl.1 rfl (Nat.le_of_ble_eq_true rfl) ⟨Nat.zero_le _, Nat.zero_le _⟩ dX9_sweep_13 (fun b7 μ6 H locs hm hP hS => ?_)
    refine b_if_ne (tgt := 21) S dX9_sweep_16 (by decide) hm (fun hm => ?_) (fun hm => ?_)
    · refine lv_aload_n hx hb dX9_sweep_21 rfl (lv_at hl 0 rfl) ?_
      refine r_vcallv (As := []) (rest := []) S hG hP hS mX9_keeps kX9_154 clX9 ho (tX9_keeps _ _ _ _ _ _ _ _ ho) ⟨rfl, rfl⟩ (rm_ok (by decide) (by decide)) hm hl.1 rfl (Nat.le_of_ble_eq_true rfl) ⟨Nat.zero_le _, Nat.zero_le _⟩ dX9_sweep_22 (fun μ8 H locs hm hP hS => ?_)
      refine lv_iconst (v := (0 : Int32)) hx hb dX9_sweep_25 (by decide) ?_
      refine lv_istore_n (lv' := [(3, .int (0 : Int32)), (0, .ref (ad o)), (1, .int v1), (2, .int v2)]) hx hb dX9_sweep_26 rfl hl (by decide) rfl (fun ls hl => ?_)
      exact wX9_sweep_27 S hr hG ho FU v1 v2 (0 : Int32) μ8 hm H locs ls hP hS (lv_sub hl [1, 2, 3, 0] rfl)
    · refine lv_iconst (v := (-1 : Int32)) hx hb dX9_sweep_19 (by decide) ?_
      exact r_iret S hr hG hP hS hm dX9_sweep_20
theorem tX9_sweep (l : Launch) (D : va_G) (cI cR : ClassId) (n : Nat) (K L ad : Nat → Nat) {o : Nat} (ho : isk n K o 9) (v1 : Int32) (v2 : Int32) : Ci l yX9_sweep cX9_sweep 4 (some .int) (rmL 4) D cI cR n K L ad [.ref (ad o), .int v1, .int v2] (fX9_sweep L o v1 v2) := by
  refine Ci.ofW (by decide) (Nat.le_of_ble_eq_true rfl) ?_
  intro μ x hm p e s m args below meth c ls S hr hG hP hS hl
  exact wX9_sweep_0 S hr hG ho v1 v2 μ hm _ _ ls hP hS hl
-- X9_settles
set_option maxHeartbeats 4000000 in
set_option maxRecDepth 100000 in
theorem wX9_settles_110 (S : CallFix p m c cX9_settles 6 s args TB RX9) (hr : meth.sig.returnType = (some .int) ∧ meth.locks = false) (hG : gok D cI cR n K L ad s) {o : Nat} (ho : isk n K o 9) {x : Int32 × Mem} {self7 : Int32 → Int32 → Int32 → Int32 → Mem → Option (Int32 × Mem)} (hs7 : ∀ (v1 v2 v3 v4 : Int32) (μ : Mem), self7 v1 v2 v3 v4 μ = some x → WI p l e (rmL 4) s m args below meth c D cI cR n K L ad 6 x μ 7 [(0, .ref (ad o)), (1, .int v1), (2, .int v2), (3, .int v3), (4, .int v4)] []) : ∀ (v1 v3 v4 s0 s1 : Int32) (μ : Mem), fX9_settles_110 L o self7 v1 v3 v4 s0 s1 μ = some x → WI p l e (rmL 4) s m args below meth c D cI cR n K L ad 6 x μ 110 [(0, .ref (ad o)), (1, .int v1), (3, .int v3), (4, .int v4)] [.int s0, .int s1] := by
  have hx := S.1
  have hb := S.2.1
  intro v1 v3 v4 s0 s1 μ hm H locs ls hP hS hl
  unfold fX9_settles_110 at hm
  refine lv_iadd hx hb dX9_settles_110 ?_
  refine r_top hm (fun a1 hm => ?_)
  refine lv_istore_n (lv' := [(2, .int a1), (0, .ref (ad o)), (1, .int v1), (3, .int v3), (4, .int v4)]) hx hb dX9_settles_111 rfl hl (by decide) rfl (fun ls hl => ?_)
  refine r_iinc (b := (1 : Int32)) (k := 4) S hm dX9_settles_112 hl rfl (by decide) (by decide) (fun a2 ls hm hl => ?_)
  have hl : lv_has ls 6 [(4, .int a2), (2, .int a1), (0, .ref (ad o)), (1, .int v1), (3, .int v3)] := hl
  refine lv_goto (tgt := 7) hx hb dX9_settles_115 (by decide) ?_
  exact hs7 v1 a1 v3 a2 μ hm H locs ls hP hS (lv_sub hl [2, 3, 1, 4, 0] rfl)
set_option maxHeartbeats 4000000 in
set_option maxRecDepth 100000 in
theorem wX9_settles_93 (S : CallFix p m c cX9_settles 6 s args TB RX9) (hr : meth.sig.returnType = (some .int) ∧ meth.locks = false) (hG : gok D cI cR n K L ad s) {o : Nat} (ho : isk n K o 9) {x : Int32 × Mem} {self59 : Int32 → Int32 → Int32 → Int32 → Int32 → Mem → Option (Int32 × Mem)} (hs59 : ∀ (v1 v2 v3 v4 v5 : Int32) (μ : Mem), self59 v1 v2 v3 v4 v5 μ = some x → WI p l e (rmL 4) s m args below meth c D cI cR n K L ad 6 x μ 59 [(0, .ref (ad o)), (1, .int v1), (2, .int v2), (3, .int v3), (4, .int v4), (5, .int v5)] []) : ∀ (v1 v2 v4 v5 s0 : Int32) (μ : Mem), fX9_settles_93 L o self59 v1 v2 v4 v5 s0 μ = some x → WI p l e (rmL 4) s m args below meth c D cI cR n K L ad 6 x μ 93 [(0, .ref (ad o)), (1, .int v1), (2, .int v2), (4, .int v4), (5, .int v5)] [.int s0] := by
  have hx := S.1
  have hb := S.2.1
  intro v1 v2 v4 v5 s0 μ hm H locs ls hP hS hl
  unfold fX9_settles_93 at hm
  refine lv_istore_n (lv' := [(3, .int s0), (0, .ref (ad o)), (1, .int v1), (2, .int v2), (4, .int v4), (5, .int v5)]) hx hb dX9_settles_93 rfl hl (by decide) rfl (fun ls hl => ?_)
  refine r_iinc (b := (1 : Int32)) (k := 5) S hm dX9_settles_94 hl rfl (by decide) (by decide) (fun a3 ls hm hl => ?_)
  have hl : lv_has ls 6 [(5, .int a3), (3, .int s0), (0, .ref (ad o)), (1, .int v1), (2, .int v2), (4, .int v4)] := hl
  refine lv_goto (tgt := 59) hx hb dX9_settles_97 (by decide) ?_
  exact hs59 v1 v2 s0 v4 a3 μ hm H locs ls hP hS (lv_sub hl [2, 3, 4, 1, 5, 0] rfl)
set_option maxHeartbeats 4000000 in
set_option maxRecDepth 100000 in
theorem wX9_settles_88 (S : CallFix p m c cX9_settles 6 s args TB RX9) (hr : meth.sig.returnType = (some .int) ∧ meth.locks = false) (hG : gok D cI cR n K L ad s) {o : Nat} (ho : isk n K o 9) {x : Int32 × Mem} {self59 : Int32 → Int32 → Int32 → Int32 → Int32 → Mem → Option (Int32 × Mem)} (hs59 : ∀ (v1 v2 v3 v4 v5 : Int32) (μ : Mem), self59 v1 v2 v3 v4 v5 μ = some x → WI p l e (rmL 4) s m args below meth c D cI cR n K L ad 6 x μ 59 [(0, .ref (ad o)), (1, .int v1), (2, .int v2), (3, .int v3), (4, .int v4), (5, .int v5)] []) : ∀ (v1 v2 v4 v5 : Int32) (μ : Mem), fX9_settles_88 L o self59 v1 v2 v4 v5 μ = some x → WI p l e (rmL 4) s m args below meth c D cI cR n K L ad 6 x μ 88 [(0, .ref (ad o)), (1, .int v1), (2, .int v2), (4, .int v4), (5, .int v5)] [] := by
  have hx := S.1
  have hb := S.2.1
  intro v1 v2 v4 v5 μ hm H locs ls hP hS hl
  unfold fX9_settles_88 at hm
  refine lv_iconst (v := (1 : Int32)) hx hb dX9_settles_88 (by decide) ?_
  refine lv_goto (tgt := 93) hx hb dX9_settles_89 (by decide) ?_
  exact wX9_settles_93 S hr hG ho hs59 v1 v2 v4 v5 (1 : Int32) μ hm H locs ls hP hS (lv_sub hl [0, 1, 2, 3, 4] rfl)
set_option maxHeartbeats 4000000 in
set_option maxRecDepth 100000 in
theorem wX9_settles_59 (S : CallFix p m c cX9_settles 6 s args TB RX9) (hr : meth.sig.returnType = (some .int) ∧ meth.locks = false) (hG : gok D cI cR n K L ad s) {o : Nat} (ho : isk n K o 9) {x : Int32 × Mem} {self7 : Int32 → Int32 → Int32 → Int32 → Mem → Option (Int32 × Mem)} (hs7 : ∀ (v1 v2 v3 v4 : Int32) (μ : Mem), self7 v1 v2 v3 v4 μ = some x → WI p l e (rmL 4) s m args below meth c D cI cR n K L ad 6 x μ 7 [(0, .ref (ad o)), (1, .int v1), (2, .int v2), (3, .int v3), (4, .int v4)] []) : ∀ (k : Nat) (v1 v2 v3 v4 v5 : Int32) (μ : Mem), fX9_settles_59 L o self7 k v1 v2 v3 v4 v5 μ = some x → WI p l e (rmL 4) s m args below meth c D cI cR n K L ad 6 x μ 59 [(0, .ref (ad o)), (1, .int v1), (2, .int v2), (3, .int v3), (4, .int v4), (5, .int v5)] [] := by
  have hx := S.1
  have hb := S.2.1
  intro k
  induction k with
  | zero => intro v1 v2 v3 v4 v5 μ hm; exact absurd (show none = some x from hm) (fun h => by cases h)
  | succ k ih =>
    intro v1 v2 v3 v4 v5 μ hm H locs ls hP hS hl
    have hm : fX9_settles_59_b L o self7 (fX9_settles_59 L o self7 k) v1 v2 v3 v4 v5 μ = some x := hm
    unfold fX9_settles_59_b at hm
    refine lv_iload hx hb dX9_settles_59 (lv_at hl 5 rfl) ?_
    refine lv_sipush (v := (169 : Int32)) hx hb dX9_settles_61 (by decide) ?_
    refine b_icmp_ge (tgt := 100) S dX9_settles_64 (by decide) hm (fun hm => ?_) (fun hm => ?_)
    · refine lv_iload_n hx hb dX9_settles_100 rfl (lv_at hl 2 rfl) ?_
      refine lv_iload_n hx hb dX9_settles_101 rfl (lv_at hl 3 rfl) ?_
      refine b_if_eq (tgt := 109) S dX9_settles_102 (by decide) hm (fun hm => ?_) (fun hm => ?_)
      · refine lv_iconst (v := (0 : Int32)) hx hb dX9_settles_109 (by decide) ?_
        exact wX9_settles_110 S hr hG ho hs7 v1 v3 v4 (0 : Int32) v2 μ hm H locs ls hP hS (lv_sub hl [0, 1, 3, 4] rfl)
      · refine lv_iconst (v := (1 : Int32)) hx hb dX9_settles_105 (by decide) ?_
        refine lv_goto (tgt := 110) hx hb dX9_settles_106 (by decide) ?_
        exact wX9_settles_110 S hr hG ho hs7 v1 v3 v4 (1 : Int32) v2 μ hm H locs ls hP hS (lv_sub hl [0, 1, 3, 4] rfl)
    · refine lv_iload_n hx hb dX9_settles_67 rfl (lv_at hl 3 rfl) ?_
      refine b_if_ne (tgt := 88) S dX9_settles_68 (by decide) hm (fun hm => ?_) (fun hm => ?_)
      · exact wX9_settles_88 S hr hG ho ih v1 v2 v4 v5 μ hm H locs ls hP hS (lv_sub hl [0, 1, 2, 4, 5] rfl)
      · refine lv_aload_n hx hb dX9_settles_71 rfl (lv_at hl 0 rfl) ?_
        refine r_getr S hG hP ho clX9 fX9_23 kX9_49 dX9_settles_72 ?_
        refine lv_iload hx hb dX9_settles_75 (lv_at hl 5 rfl) ?_
        refine r_iald S hG hP (chX9_23 hG ho) hm dX9_settles_77 (fun a4 hm => ?_)
        refine lv_aload_n hx hb dX9_settles_78 rfl (lv_at hl 0 rfl) ?_
        refine r_getr S hG hP ho clX9 fX9_9 kX9_25 dX9_settles_79 ?_
        refine lv_iload hx hb dX9_settles_82 (lv_at hl 5 rfl) ?_
        refine r_iald S hG hP (chX9_9 hG ho) hm dX9_settles_84 (fun a5 hm => ?_)
        refine b_icmp_eq (tgt := 92) S dX9_settles_85 (by decide) hm (fun hm => ?_) (fun hm => ?_)
        · refine lv_iconst (v := (0 : Int32)) hx hb dX9_settles_92 (by decide) ?_
          exact wX9_settles_93 S hr hG ho ih v1 v2 v4 v5 (0 : Int32) μ hm H locs ls hP hS (lv_sub hl [0, 1, 2, 4, 5] rfl)
        · exact wX9_settles_88 S hr hG ho ih v1 v2 v4 v5 μ hm H locs ls hP hS (lv_sub hl [0, 1, 2, 4, 5] rfl)
set_option maxHeartbeats 4000000 in
set_option maxRecDepth 100000 in
theorem wX9_settles_21 (S : CallFix p m c cX9_settles 6 s args TB RX9) (hr : meth.sig.returnType = (some .int) ∧ meth.locks = false) (hG : gok D cI cR n K L ad s) {o : Nat} (ho : isk n K o 9) {x : Int32 × Mem} {self7 : Int32 → Int32 → Int32 → Int32 → Mem → Option (Int32 × Mem)} (hs7 : ∀ (v1 v2 v3 v4 : Int32) (μ : Mem), self7 v1 v2 v3 v4 μ = some x → WI p l e (rmL 4) s m args below meth c D cI cR n K L ad 6 x μ 7 [(0, .ref (ad o)), (1, .int v1), (2, .int v2), (3, .int v3), (4, .int v4)] []) : ∀ (k : Nat) (v1 v2 v4 v5 : Int32) (μ : Mem), fX9_settles_21 L o self7 k v1 v2 v4 v5 μ = some x → WI p l e (rmL 4) s m args below meth c D cI cR n K L ad 6 x μ 21 [(0, .ref (ad o)), (1, .int v1), (2, .int v2), (4, .int v4), (5, .int v5)] [] := by
  have hx := S.1
  have hb := S.2.1
  intro k
  induction k with
  | zero => intro v1 v2 v4 v5 μ hm; exact absurd (show none = some x from hm) (fun h => by cases h)
  | succ k ih =>
    intro v1 v2 v4 v5 μ hm H locs ls hP hS hl
    have hm : fX9_settles_21_b L o self7 (fX9_settles_21 L o self7 k) v1 v2 v4 v5 μ = some x := hm
    unfold fX9_settles_21_b at hm
    refine lv_iload hx hb dX9_settles_21 (lv_at hl 4 rfl) ?_
    refine lv_sipush (v := (169 : Int32)) hx hb dX9_settles_23 (by decide) ?_
    refine b_icmp_ge (tgt := 49) S dX9_settles_26 (by decide) hm (fun hm => ?_) (fun hm => ?_)
    · refine lv_aload_n hx hb dX9_settles_49 rfl (lv_at hl 0 rfl) ?_
      refine lv_iload_n hx hb dX9_settles_50 rfl (lv_at hl 1 rfl) ?_
      refine r_vcallv (As := [.int v1]) (rest := []) S hG hP hS mX9_sweeps kX9_191 clX9 ho (tX9_sweeps _ _ _ _ _ _ _ _ ho v1) ⟨rfl, rfl⟩ (rm_ok (by decide) (by decide)) hm hl.1 rfl (Nat.le_of_ble_eq_true rfl) ⟨Nat.zero_le _, Nat.zero_le _⟩ dX9_settles_51 (fun μ6 H locs hm hP hS => ?_)
      refine lv_iconst (v := (0 : Int32)) hx hb dX9_settles_54 (by decide) ?_
      refine lv_istore_n (lv' := [(3, .int (0 : Int32)), (0, .ref (ad o)), (1, .int v1), (2, .int v2), (4, .int v4), (5, .int v5)]) hx hb dX9_settles_55 rfl hl (by decide) rfl (fun ls hl => ?_)
      refine lv_iconst (v := (0 : Int32)) hx hb dX9_settles_56 (by decide) ?_
      refine lv_istore (lv' := [(5, .int (0 : Int32)), (3, .int (0 : Int32)), (0, .ref (ad o)), (1, .int v1), (2, .int v2), (4, .int v4)]) hx hb dX9_settles_57 hl (by decide) rfl (fun ls hl => ?_)
      exact wX9_settles_59 S hr hG ho hs7 FU v1 v2 (0 : Int32) v4 (0 : Int32) μ6 hm H locs ls hP hS (lv_sub hl [2, 3, 4, 1, 5, 0] rfl)
    · refine lv_aload_n hx hb dX9_settles_29 rfl (lv_at hl 0 rfl) ?_
      refine r_getr S hG hP ho clX9 fX9_23 kX9_49 dX9_settles_30 ?_
      refine lv_iload hx hb dX9_settles_33 (lv_at hl 4 rfl) ?_
      refine lv_aload_n hx hb dX9_settles_35 rfl (lv_at hl 0 rfl) ?_
      refine r_getr S hG hP ho clX9 fX9_9 kX9_25 dX9_settles_36 ?_
      refine lv_iload hx hb dX9_settles_39 (lv_at hl 4 rfl) ?_
      refine r_iald S hG hP (chX9_9 hG ho) hm dX9_settles_41 (fun a7 hm => ?_)
      refine r_iast S hG hP hS (chX9_23 hG ho) hm dX9_settles_42 (fun μ8 H locs hm hP hS => ?_)
      refine r_iinc (b := (1 : Int32)) (k := 4) S hm dX9_settles_43 hl rfl (by decide) (by decide) (fun a9 ls hm hl => ?_)
      have hl : lv_has ls 6 [(5, .int a9), (0, .ref (ad o)), (1, .int v1), (2, .int v2), (4, .int v4)] := hl
      refine lv_goto (tgt := 21) hx hb dX9_settles_46 (by decide) ?_
      exact ih v1 v2 v4 a9 μ8 hm H locs ls hP hS (lv_sub hl [1, 2, 3, 4, 0] rfl)
set_option maxHeartbeats 4000000 in
set_option maxRecDepth 100000 in
theorem wX9_settles_7 (S : CallFix p m c cX9_settles 6 s args TB RX9) (hr : meth.sig.returnType = (some .int) ∧ meth.locks = false) (hG : gok D cI cR n K L ad s) {o : Nat} (ho : isk n K o 9) {x : Int32 × Mem} : ∀ (k : Nat) (v1 v2 v3 v4 : Int32) (μ : Mem), fX9_settles_7 L o k v1 v2 v3 v4 μ = some x → WI p l e (rmL 4) s m args below meth c D cI cR n K L ad 6 x μ 7 [(0, .ref (ad o)), (1, .int v1), (2, .int v2), (3, .int v3), (4, .int v4)] [] := by
  have hx := S.1
  have hb := S.2.1
  intro k
  induction k with
  | zero => intro v1 v2 v3 v4 μ hm; exact absurd (show none = some x from hm) (fun h => by cases h)
  | succ k ih =>
    intro v1 v2 v3 v4 μ hm H locs ls hP hS hl
    have hm : fX9_settles_7_b L o (fX9_settles_7 L o k) v1 v2 v3 v4 μ = some x := hm
    unfold fX9_settles_7_b at hm
    refine lv_iload hx hb dX9_settles_7 (lv_at hl 4 rfl) ?_
    refine lv_bipush (v := (20 : Int32)) hx hb dX9_settles_9 (by decide) ?_
    refine b_icmp_ge (tgt := 118) S dX9_settles_11 (by decide) hm (fun hm => ?_) (fun hm => ?_)
    · refine lv_iload_n hx hb dX9_settles_118 rfl (lv_at hl 2 rfl) ?_
      exact r_iret S hr hG hP hS hm dX9_settles_119
    · refine lv_iload_n hx hb dX9_settles_14 rfl (lv_at hl 3 rfl) ?_
      refine b_if_eq (tgt := 118) S dX9_settles_15 (by decide) hm (fun hm => ?_) (fun hm => ?_)
      · refine lv_iload_n hx hb dX9_settles_118 rfl (lv_at hl 2 rfl) ?_
        exact r_iret S hr hG hP hS hm dX9_settles_119
      · refine lv_iconst (v := (0 : Int32)) hx hb dX9_settles_18 (by decide) ?_
        refine lv_istore (lv' := [(5, .int (0 : Int32)), (0, .ref (ad o)), (1, .int v1), (2, .int v2), (3, .int v3), (4, .int v4)]) hx hb dX9_settles_19 hl (by decide) rfl (fun ls hl => ?_)
        exact wX9_settles_21 S hr hG ho ih FU v1 v2 v4 (0 : Int32) μ hm H locs ls hP hS (lv_sub hl [1, 2, 3, 5, 0] rfl)
set_option maxHeartbeats 4000000 in
set_option maxRecDepth 100000 in
theorem wX9_settles_0 (S : CallFix p m c cX9_settles 6 s args TB RX9) (hr : meth.sig.returnType = (some .int) ∧ meth.locks = false) (hG : gok D cI cR n K L ad s) {o : Nat} (ho : isk n K o 9) {x : Int32 × Mem} : ∀ (v1 : Int32) (μ : Mem), fX9_settles L o v1 μ = some x → WI p l e (rmL 4) s m args below meth c D cI cR n K L ad 6 x μ 0 [(0, .ref (ad o)), (1, .int v1)] [] := by
  have hx := S.1
  have hb := S.2.1
  intro v1 μ hm H locs ls hP hS hl
  unfold fX9_settles at hm
  refine lv_iconst (v := (0 : Int32)) hx hb dX9_settles_0 (by decide) ?_
  refine lv_istore_n (lv' := [(2, .int (0 : Int32)), (0, .ref (ad o)), (1, .int v1)]) hx hb dX9_settles_1 rfl hl (by decide) rfl (fun ls hl => ?_)
  refine lv_iconst (v := (1 : Int32)) hx hb dX9_settles_2 (by decide) ?_
  refine lv_istore_n (lv' := [(3, .int (1 : Int32)), (2, .int (0 : Int32)), (0, .ref (ad o)), (1, .int v1)]) hx hb dX9_settles_3 rfl hl (by decide) rfl (fun ls hl => ?_)
  refine lv_iconst (v := (0 : Int32)) hx hb dX9_settles_4 (by decide) ?_
  refine lv_istore (lv' := [(4, .int (0 : Int32)), (3, .int (1 : Int32)), (2, .int (0 : Int32)), (0, .ref (ad o)), (1, .int v1)]) hx hb dX9_settles_5 hl (by decide) rfl (fun ls hl => ?_)
  exact wX9_settles_7 S hr hG ho FU v1 (0 : Int32) (1 : Int32) (0 : Int32) μ hm H locs ls hP hS (lv_sub hl [3, 4, 2, 1, 0] rfl)
theorem tX9_settles (l : Launch) (D : va_G) (cI cR : ClassId) (n : Nat) (K L ad : Nat → Nat) {o : Nat} (ho : isk n K o 9) (v1 : Int32) : Ci l yX9_settles cX9_settles 6 (some .int) (rmL 4) D cI cR n K L ad [.ref (ad o), .int v1] (fX9_settles L o v1) := by
  refine Ci.ofW (by decide) (Nat.le_of_ble_eq_true rfl) ?_
  intro μ x hm p e s m args below meth c ls S hr hG hP hS hl
  exact wX9_settles_0 S hr hG ho v1 μ hm _ _ ls hP hS hl
-- X9_settle
set_option maxHeartbeats 4000000 in
set_option maxRecDepth 100000 in
theorem wX9_settle_0 (S : CallFix p m c cX9_settle 2 s args TB RX9) (hr : meth.sig.returnType = (some .int) ∧ meth.locks = false) (hG : gok D cI cR n K L ad s) {o : Nat} (ho : isk n K o 9) {x : Int32 × Mem} : ∀ (v1 : Int32) (μ : Mem), fX9_settle L o v1 μ = some x → WI p l e (rmL 5) s m args below meth c D cI cR n K L ad 2 x μ 0 [(0, .ref (ad o)), (1, .int v1)] [] := by
  have hx := S.1
  have hb := S.2.1
  intro v1 μ hm H locs ls hP hS hl
  unfold fX9_settle at hm
  refine lv_iload_n hx hb dX9_settle_0 rfl (lv_at hl 1 rfl) ?_
  refine lv_iconst (v := (0 : Int32)) hx hb dX9_settle_1 (by decide) ?_
  refine lv_iconst (v := (2 : Int32)) hx hb dX9_settle_2 (by decide) ?_
  refine r_scalli (As := [.int v1, .int (0 : Int32), .int (2 : Int32)]) (rest := []) S hG hP hS mX9_isIn kX9_85 (tX9_isIn _ _ _ _ _ _ _ _ v1 (0 : Int32) (2 : Int32)) ⟨rfl, rfl⟩ (rm_ok (by decide) (by decide)) hm hl.1 rfl (Nat.le_of_ble_eq_true rfl) ⟨Nat.zero_le _, Nat.zero_le _⟩ dX9_settle_3 (fun b2 μ1 H locs hm hP hS => ?_)
  refine b_if_ne (tgt := 11) S dX9_settle_6 (by decide) hm (fun hm => ?_) (fun hm => ?_)
  · refine lv_aload_n hx hb dX9_settle_11 rfl (lv_at hl 0 rfl) ?_
    refine r_vcallv (As := []) (rest := []) S hG hP hS mX9_keeps kX9_154 clX9 ho (tX9_keeps _ _ _ _ _ _ _ _ ho) ⟨rfl, rfl⟩ (rm_ok (by decide) (by decide)) hm hl.1 rfl (Nat.le_of_ble_eq_true rfl) ⟨Nat.zero_le _, Nat.zero_le _⟩ dX9_settle_12 (fun μ3 H locs hm hP hS => ?_)
    refine lv_aload_n hx hb dX9_settle_15 rfl (lv_at hl 0 rfl) ?_
    refine lv_iload_n hx hb dX9_settle_16 rfl (lv_at hl 1 rfl) ?_
    refine r_vcalli (As := [.int v1]) (rest := []) S hG hP hS mX9_settles kX9_194 clX9 ho (tX9_settles _ _ _ _ _ _ _ _ ho v1) ⟨rfl, rfl⟩ (rm_ok (by decide) (by decide)) hm hl.1 rfl (Nat.le_of_ble_eq_true rfl) ⟨Nat.zero_le _, Nat.zero_le _⟩ dX9_settle_17 (fun b5 μ4 H locs hm hP hS => ?_)
    exact r_iret S hr hG hP hS hm dX9_settle_20
  · refine lv_iconst (v := (-1 : Int32)) hx hb dX9_settle_9 (by decide) ?_
    exact r_iret S hr hG hP hS hm dX9_settle_10
theorem tX9_settle (l : Launch) (D : va_G) (cI cR : ClassId) (n : Nat) (K L ad : Nat → Nat) {o : Nat} (ho : isk n K o 9) (v1 : Int32) : Ci l yX9_settle cX9_settle 2 (some .int) (rmL 5) D cI cR n K L ad [.ref (ad o), .int v1] (fX9_settle L o v1) := by
  refine Ci.ofW (by decide) (Nat.le_of_ble_eq_true rfl) ?_
  intro μ x hm p e s m args below meth c ls S hr hG hP hS hl
  exact wX9_settle_0 S hr hG ho v1 μ hm _ _ ls hP hS hl
-- X9_bound
set_option maxHeartbeats 4000000 in
set_option maxRecDepth 100000 in
theorem wX9_bound_55 (S : CallFix p m c cX9_bound 4 s args TB RX9) (hr : meth.sig.returnType = (some .int) ∧ meth.locks = false) (hG : gok D cI cR n K L ad s) {o : Nat} (ho : isk n K o 9) {x : Int32 × Mem} : ∀ (k : Nat) (v2 v3 : Int32) (μ : Mem), fX9_bound_55 L o k v2 v3 μ = some x → WI p l e (rmL 5) s m args below meth c D cI cR n K L ad 4 x μ 55 [(0, .ref (ad o)), (2, .int v2), (3, .int v3)] [] := by
  have hx := S.1
  have hb := S.2.1
  intro k
  induction k with
  | zero => intro v2 v3 μ hm; exact absurd (show none = some x from hm) (fun h => by cases h)
  | succ k ih =>
    intro v2 v3 μ hm H locs ls hP hS hl
    have hm : fX9_bound_55_b L o (fX9_bound_55 L o k) v2 v3 μ = some x := hm
    unfold fX9_bound_55_b at hm
    refine lv_iload_n hx hb dX9_bound_55 rfl (lv_at hl 2 rfl) ?_
    refine lv_sipush (v := (169 : Int32)) hx hb dX9_bound_56 (by decide) ?_
    refine b_icmp_ge (tgt := 80) S dX9_bound_59 (by decide) hm (fun hm => ?_) (fun hm => ?_)
    · refine lv_iload_n hx hb dX9_bound_80 rfl (lv_at hl 1 rfl) ?_
      exact r_iret S hr hG hP hS hm dX9_bound_81
    · refine lv_aload_n hx hb dX9_bound_62 rfl (lv_at hl 0 rfl) ?_
      refine r_getr S hG hP ho clX9 fX9_9 kX9_25 dX9_bound_63 ?_
      refine lv_iload_n hx hb dX9_bound_66 rfl (lv_at hl 2 rfl) ?_
      refine lv_aload_n hx hb dX9_bound_67 rfl (lv_at hl 0 rfl) ?_
      refine r_getr S hG hP ho clX9 fX9_12 kX9_31 dX9_bound_68 ?_
      refine lv_iload_n hx hb dX9_bound_71 rfl (lv_at hl 2 rfl) ?_
      refine r_iald S hG hP (chX9_12 hG ho) hm dX9_bound_72 (fun a1 hm => ?_)
      refine r_iast S hG hP hS (chX9_9 hG ho) hm dX9_bound_73 (fun μ2 H locs hm hP hS => ?_)
      refine r_iinc (b := (1 : Int32)) (k := 2) S hm dX9_bound_74 hl rfl (by decide) (by decide) (fun a3 ls hm hl => ?_)
      have hl : lv_has ls 4 [(3, .int a3), (0, .ref (ad o)), (2, .int v2)] := hl
      refine lv_goto (tgt := 55) hx hb dX9_bound_77 (by decide) ?_
      exact ih v2 a3 μ2 hm H locs ls hP hS (lv_sub hl [1, 2, 0] rfl)
set_option maxHeartbeats 4000000 in
set_option maxRecDepth 100000 in
theorem wX9_bound_13 (S : CallFix p m c cX9_bound 4 s args TB RX9) (hr : meth.sig.returnType = (some .int) ∧ meth.locks = false) (hG : gok D cI cR n K L ad s) {o : Nat} (ho : isk n K o 9) {x : Int32 × Mem} : ∀ (k : Nat) (v1 v2 : Int32) (μ : Mem), fX9_bound_13 L o k v1 v2 μ = some x → WI p l e (rmL 5) s m args below meth c D cI cR n K L ad 4 x μ 13 [(0, .ref (ad o)), (1, .int v1), (2, .int v2)] [] := by
  have hx := S.1
  have hb := S.2.1
  intro k
  induction k with
  | zero => intro v1 v2 μ hm; exact absurd (show none = some x from hm) (fun h => by cases h)
  | succ k ih =>
    intro v1 v2 μ hm H locs ls hP hS hl
    have hm : fX9_bound_13_b L o (fX9_bound_13 L o k) v1 v2 μ = some x := hm
    unfold fX9_bound_13_b at hm
    refine lv_iload_n hx hb dX9_bound_13 rfl (lv_at hl 2 rfl) ?_
    refine lv_sipush (v := (169 : Int32)) hx hb dX9_bound_14 (by decide) ?_
    refine b_icmp_ge (tgt := 38) S dX9_bound_17 (by decide) hm (fun hm => ?_) (fun hm => ?_)
    · refine lv_aload_n hx hb dX9_bound_38 rfl (lv_at hl 0 rfl) ?_
      refine lv_iload_n hx hb dX9_bound_39 rfl (lv_at hl 1 rfl) ?_
      refine r_vcalli (As := [.int v1]) (rest := []) S hG hP hS mX9_settles kX9_194 clX9 ho (tX9_settles _ _ _ _ _ _ _ _ ho v1) ⟨rfl, rfl⟩ (rm_ok (by decide) (by decide)) hm hl.1 rfl (Nat.le_of_ble_eq_true rfl) ⟨Nat.zero_le _, Nat.zero_le _⟩ dX9_bound_40 (fun b5 μ4 H locs hm hP hS => ?_)
      refine lv_pop hx hb dX9_bound_43 rfl ?_
      refine lv_aload_n hx hb dX9_bound_44 rfl (lv_at hl 0 rfl) ?_
      refine r_getr S hG hP ho clX9 fX9_9 kX9_25 dX9_bound_45 ?_
      refine lv_sipush (v := (168 : Int32)) hx hb dX9_bound_48 (by decide) ?_
      refine r_iald S hG hP (chX9_9 hG ho) hm dX9_bound_51 (fun a6 hm => ?_)
      refine lv_istore_n (lv' := [(2, .int a6), (0, .ref (ad o)), (1, .int v1)]) hx hb dX9_bound_52 rfl hl (by decide) rfl (fun ls hl => ?_)
      refine lv_iconst (v := (0 : Int32)) hx hb dX9_bound_53 (by decide) ?_
      refine lv_istore_n (lv' := [(3, .int (0 : Int32)), (2, .int a6), (0, .ref (ad o)), (1, .int v1)]) hx hb dX9_bound_54 rfl hl (by decide) rfl (fun ls hl => ?_)
      exact wX9_bound_55 S hr hG ho FU a6 (0 : Int32) μ4 hm H locs ls hP hS (lv_sub hl [2, 1, 0] rfl)
    · refine lv_aload_n hx hb dX9_bound_20 rfl (lv_at hl 0 rfl) ?_
      refine r_getr S hG hP ho clX9 fX9_12 kX9_31 dX9_bound_21 ?_
      refine lv_iload_n hx hb dX9_bound_24 rfl (lv_at hl 2 rfl) ?_
      refine lv_aload_n hx hb dX9_bound_25 rfl (lv_at hl 0 rfl) ?_
      refine r_getr S hG hP ho clX9 fX9_9 kX9_25 dX9_bound_26 ?_
      refine lv_iload_n hx hb dX9_bound_29 rfl (lv_at hl 2 rfl) ?_
      refine r_iald S hG hP (chX9_9 hG ho) hm dX9_bound_30 (fun a7 hm => ?_)
      refine r_iast S hG hP hS (chX9_12 hG ho) hm dX9_bound_31 (fun μ8 H locs hm hP hS => ?_)
      refine r_iinc (b := (1 : Int32)) (k := 2) S hm dX9_bound_32 hl rfl (by decide) (by decide) (fun a9 ls hm hl => ?_)
      have hl : lv_has ls 4 [(2, .int a9), (0, .ref (ad o)), (1, .int v1)] := hl
      refine lv_goto (tgt := 13) hx hb dX9_bound_35 (by decide) ?_
      exact ih v1 a9 μ8 hm H locs ls hP hS (lv_sub hl [1, 2, 0] rfl)
set_option maxHeartbeats 4000000 in
set_option maxRecDepth 100000 in
theorem wX9_bound_0 (S : CallFix p m c cX9_bound 4 s args TB RX9) (hr : meth.sig.returnType = (some .int) ∧ meth.locks = false) (hG : gok D cI cR n K L ad s) {o : Nat} (ho : isk n K o 9) {x : Int32 × Mem} : ∀ (v1 : Int32) (μ : Mem), fX9_bound L o v1 μ = some x → WI p l e (rmL 5) s m args below meth c D cI cR n K L ad 4 x μ 0 [(0, .ref (ad o)), (1, .int v1)] [] := by
  have hx := S.1
  have hb := S.2.1
  intro v1 μ hm H locs ls hP hS hl
  unfold fX9_bound at hm
  refine lv_iload_n hx hb dX9_bound_0 rfl (lv_at hl 1 rfl) ?_
  refine lv_iconst (v := (0 : Int32)) hx hb dX9_bound_1 (by decide) ?_
  refine lv_iconst (v := (2 : Int32)) hx hb dX9_bound_2 (by decide) ?_
  refine r_scalli (As := [.int v1, .int (0 : Int32), .int (2 : Int32)]) (rest := []) S hG hP hS mX9_isIn kX9_85 (tX9_isIn _ _ _ _ _ _ _ _ v1 (0 : Int32) (2 : Int32)) ⟨rfl, rfl⟩ (rm_ok (by decide) (by decide)) hm hl.1 rfl (Nat.le_of_ble_eq_true rfl) ⟨Nat.zero_le _, Nat.zero_le _⟩ dX9_bound_3 (fun b11 μ10 H locs hm hP hS => ?_)
  refine b_if_ne (tgt := 11) S dX9_bound_6 (by decide) hm (fun hm => ?_) (fun hm => ?_)
  · refine lv_iconst (v := (0 : Int32)) hx hb dX9_bound_11 (by decide) ?_
    refine lv_istore_n (lv' := [(2, .int (0 : Int32)), (0, .ref (ad o)), (1, .int v1)]) hx hb dX9_bound_12 rfl hl (by decide) rfl (fun ls hl => ?_)
    exact wX9_bound_13 S hr hG ho FU v1 (0 : Int32) μ10 hm H locs ls hP hS (lv_sub hl [1, 2, 0] rfl)
  · refine lv_iconst (v := (-1 : Int32)) hx hb dX9_bound_9 (by decide) ?_
    exact r_iret S hr hG hP hS hm dX9_bound_10
theorem tX9_bound (l : Launch) (D : va_G) (cI cR : ClassId) (n : Nat) (K L ad : Nat → Nat) {o : Nat} (ho : isk n K o 9) (v1 : Int32) : Ci l yX9_bound cX9_bound 4 (some .int) (rmL 5) D cI cR n K L ad [.ref (ad o), .int v1] (fX9_bound L o v1) := by
  refine Ci.ofW (by decide) (Nat.le_of_ble_eq_true rfl) ?_
  intro μ x hm p e s m args below meth c ls S hr hG hP hS hl
  exact wX9_bound_0 S hr hG ho v1 μ hm _ _ ls hP hS hl
-- X9_totalOf
set_option maxHeartbeats 4000000 in
set_option maxRecDepth 100000 in
theorem wX9_totalOf_99 (S : CallFix p m c cX9_totalOf 4 s args TB RX9) (hr : meth.sig.returnType = (some .int) ∧ meth.locks = false) (hG : gok D cI cR n K L ad s) {o : Nat} (ho : isk n K o 9) {x : Int32 × Mem} {self48 : Int32 → Int32 → Int32 → Mem → Option (Int32 × Mem)} (hs48 : ∀ (v1 v2 v3 : Int32) (μ : Mem), self48 v1 v2 v3 μ = some x → WI p l e (rmL 1) s m args below meth c D cI cR n K L ad 4 x μ 48 [(0, .ref (ad o)), (1, .int v1), (2, .int v2), (3, .int v3)] []) : ∀ (v1 v3 s0 s1 : Int32) (μ : Mem), fX9_totalOf_99 L o self48 v1 v3 s0 s1 μ = some x → WI p l e (rmL 1) s m args below meth c D cI cR n K L ad 4 x μ 99 [(0, .ref (ad o)), (1, .int v1), (3, .int v3)] [.int s0, .int s1, .ref (ad o)] := by
  have hx := S.1
  have hb := S.2.1
  intro v1 v3 s0 s1 μ hm H locs ls hP hS hl
  unfold fX9_totalOf_99 at hm
  refine r_vcalli (As := [.int s1, .int s0]) (rest := []) S hG hP hS mX9_sum kX9_125 clX9 ho (tX9_sum _ _ _ _ _ _ _ _ ho s1 s0) ⟨rfl, rfl⟩ (rm_ok (by decide) (by decide)) hm hl.1 rfl (Nat.le_of_ble_eq_true rfl) ⟨Nat.zero_le _, Nat.zero_le _⟩ dX9_totalOf_99 (fun b2 μ1 H locs hm hP hS => ?_)
  refine lv_istore_n (lv' := [(2, .int b2), (0, .ref (ad o)), (1, .int v1), (3, .int v3)]) hx hb dX9_totalOf_102 rfl hl (by decide) rfl (fun ls hl => ?_)
  refine r_iinc (b := (1 : Int32)) (k := 3) S hm dX9_totalOf_103 hl rfl (by decide) (by decide) (fun a3 ls hm hl => ?_)
  have hl : lv_has ls 4 [(3, .int a3), (2, .int b2), (0, .ref (ad o)), (1, .int v1)] := hl
  refine lv_goto (tgt := 48) hx hb dX9_totalOf_106 (by decide) ?_
  exact hs48 v1 b2 a3 μ1 hm H locs ls hP hS (lv_sub hl [2, 3, 1, 0] rfl)
set_option maxHeartbeats 4000000 in
set_option maxRecDepth 100000 in
theorem wX9_totalOf_48 (S : CallFix p m c cX9_totalOf 4 s args TB RX9) (hr : meth.sig.returnType = (some .int) ∧ meth.locks = false) (hG : gok D cI cR n K L ad s) {o : Nat} (ho : isk n K o 9) {x : Int32 × Mem} : ∀ (k : Nat) (v1 v2 v3 : Int32) (μ : Mem), fX9_totalOf_48 L o k v1 v2 v3 μ = some x → WI p l e (rmL 1) s m args below meth c D cI cR n K L ad 4 x μ 48 [(0, .ref (ad o)), (1, .int v1), (2, .int v2), (3, .int v3)] [] := by
  have hx := S.1
  have hb := S.2.1
  intro k
  induction k with
  | zero => intro v1 v2 v3 μ hm; exact absurd (show none = some x from hm) (fun h => by cases h)
  | succ k ih =>
    intro v1 v2 v3 μ hm H locs ls hP hS hl
    have hm : fX9_totalOf_48_b L o (fX9_totalOf_48 L o k) v1 v2 v3 μ = some x := hm
    unfold fX9_totalOf_48_b at hm
    refine lv_iload_n hx hb dX9_totalOf_48 rfl (lv_at hl 3 rfl) ?_
    refine lv_aload_n hx hb dX9_totalOf_49 rfl (lv_at hl 0 rfl) ?_
    refine r_geti S hG hP ho clX9 fX9_4 kX9_65 dX9_totalOf_50 ?_
    refine b_icmp_ge (tgt := 109) S dX9_totalOf_53 (by decide) hm (fun hm => ?_) (fun hm => ?_)
    · refine lv_iload_n hx hb dX9_totalOf_109 rfl (lv_at hl 2 rfl) ?_
      exact r_iret S hr hG hP hS hm dX9_totalOf_110
    · refine lv_aload_n hx hb dX9_totalOf_56 rfl (lv_at hl 0 rfl) ?_
      refine lv_iload_n hx hb dX9_totalOf_57 rfl (lv_at hl 2 rfl) ?_
      refine lv_iload_n hx hb dX9_totalOf_58 rfl (lv_at hl 3 rfl) ?_
      refine lv_iload_n hx hb dX9_totalOf_59 rfl (lv_at hl 1 rfl) ?_
      refine b_icmp_ne (tgt := 67) S dX9_totalOf_60 (by decide) hm (fun hm => ?_) (fun hm => ?_)
      · refine lv_aload_n hx hb dX9_totalOf_67 rfl (lv_at hl 0 rfl) ?_
        refine r_getr S hG hP ho clX9 fX9_9 kX9_25 dX9_totalOf_68 ?_
        refine lv_iload_n hx hb dX9_totalOf_71 rfl (lv_at hl 3 rfl) ?_
        refine lv_iconst (v := (0 : Int32)) hx hb dX9_totalOf_72 (by decide) ?_
        refine lv_aload_n hx hb dX9_totalOf_73 rfl (lv_at hl 0 rfl) ?_
        refine r_getr S hG hP ho clX9 fX9_24 kX9_52 dX9_totalOf_74 ?_
        refine lv_aload_n hx hb dX9_totalOf_77 rfl (lv_at hl 0 rfl) ?_
        refine r_getr S hG hP ho clX9 fX9_5 kX9_16 dX9_totalOf_78 ?_
        refine lv_iload_n hx hb dX9_totalOf_81 rfl (lv_at hl 3 rfl) ?_
        refine r_iald S hG hP (chX9_5 hG ho) hm dX9_totalOf_82 (fun a4 hm => ?_)
        refine r_iald S hG hP (chX9_24 hG ho) hm dX9_totalOf_83 (fun a5 hm => ?_)
        refine lv_aload_n hx hb dX9_totalOf_84 rfl (lv_at hl 0 rfl) ?_
        refine r_getr S hG hP ho clX9 fX9_24 kX9_52 dX9_totalOf_85 ?_
        refine lv_aload_n hx hb dX9_totalOf_88 rfl (lv_at hl 0 rfl) ?_
        refine r_getr S hG hP ho clX9 fX9_6 kX9_19 dX9_totalOf_89 ?_
        refine lv_iload_n hx hb dX9_totalOf_92 rfl (lv_at hl 3 rfl) ?_
        refine r_iald S hG hP (chX9_6 hG ho) hm dX9_totalOf_93 (fun a6 hm => ?_)
        refine r_iald S hG hP (chX9_24 hG ho) hm dX9_totalOf_94 (fun a7 hm => ?_)
        refine r_scalli (As := [.int v3, .int (0 : Int32), .int a5, .int a7]) (rest := [.ref (ad (o + 6)), .int v2, .ref (ad o)]) S hG hP hS mX9_pairAt kX9_150 (tX9_pairAt _ _ _ _ _ _ _ _ v3 (0 : Int32) a5 a7) ⟨rfl, rfl⟩ (rm_ok (by decide) (by decide)) hm hl.1 rfl (Nat.le_of_ble_eq_true rfl) ⟨Nat.zero_le _, Nat.zero_le _⟩ dX9_totalOf_95 (fun b9 μ8 H locs hm hP hS => ?_)
        refine r_iald S hG hP (chX9_9 hG ho) hm dX9_totalOf_98 (fun a10 hm => ?_)
        exact wX9_totalOf_99 S hr hG ho ih v1 v3 a10 v2 μ8 hm H locs ls hP hS (lv_sub hl [0, 1, 3] rfl)
      · refine lv_iconst (v := (0 : Int32)) hx hb dX9_totalOf_63 (by decide) ?_
        refine lv_goto (tgt := 99) hx hb dX9_totalOf_64 (by decide) ?_
        exact wX9_totalOf_99 S hr hG ho ih v1 v3 (0 : Int32) v2 μ hm H locs ls hP hS (lv_sub hl [0, 1, 3] rfl)
set_option maxHeartbeats 4000000 in
set_option maxRecDepth 100000 in
theorem wX9_totalOf_11 (S : CallFix p m c cX9_totalOf 4 s args TB RX9) (hr : meth.sig.returnType = (some .int) ∧ meth.locks = false) (hG : gok D cI cR n K L ad s) {o : Nat} (ho : isk n K o 9) {x : Int32 × Mem} : ∀ (k : Nat) (v1 v2 v3 : Int32) (μ : Mem), fX9_totalOf_11 L o k v1 v2 v3 μ = some x → WI p l e (rmL 1) s m args below meth c D cI cR n K L ad 4 x μ 11 [(0, .ref (ad o)), (1, .int v1), (2, .int v2), (3, .int v3)] [] := by
  have hx := S.1
  have hb := S.2.1
  intro k
  induction k with
  | zero => intro v1 v2 v3 μ hm; exact absurd (show none = some x from hm) (fun h => by cases h)
  | succ k ih =>
    intro v1 v2 v3 μ hm H locs ls hP hS hl
    have hm : fX9_totalOf_11_b L o (fX9_totalOf_11 L o k) v1 v2 v3 μ = some x := hm
    unfold fX9_totalOf_11_b at hm
    refine lv_iload_n hx hb dX9_totalOf_11 rfl (lv_at hl 3 rfl) ?_
    refine lv_aload_n hx hb dX9_totalOf_12 rfl (lv_at hl 0 rfl) ?_
    refine r_geti S hG hP ho clX9 fX9_2 kX9_58 dX9_totalOf_13 ?_
    refine b_icmp_ge (tgt := 46) S dX9_totalOf_16 (by decide) hm (fun hm => ?_) (fun hm => ?_)
    · refine lv_iconst (v := (0 : Int32)) hx hb dX9_totalOf_46 (by decide) ?_
      refine lv_istore_n (lv' := [(3, .int (0 : Int32)), (0, .ref (ad o)), (1, .int v1), (2, .int v2)]) hx hb dX9_totalOf_47 rfl hl (by decide) rfl (fun ls hl => ?_)
      exact wX9_totalOf_48 S hr hG ho FU v1 v2 (0 : Int32) μ hm H locs ls hP hS (lv_sub hl [1, 2, 3, 0] rfl)
    · refine lv_aload_n hx hb dX9_totalOf_19 rfl (lv_at hl 0 rfl) ?_
      refine lv_iload_n hx hb dX9_totalOf_20 rfl (lv_at hl 2 rfl) ?_
      refine lv_aload_n hx hb dX9_totalOf_21 rfl (lv_at hl 0 rfl) ?_
      refine r_getr S hG hP ho clX9 fX9_9 kX9_25 dX9_totalOf_22 ?_
      refine lv_iconst (v := (4 : Int32)) hx hb dX9_totalOf_25 (by decide) ?_
      refine lv_iload_n hx hb dX9_totalOf_26 rfl (lv_at hl 3 rfl) ?_
      refine lv_imul hx hb dX9_totalOf_27 ?_
      refine lv_aload_n hx hb dX9_totalOf_28 rfl (lv_at hl 0 rfl) ?_
      refine r_getr S hG hP ho clX9 fX9_24 kX9_52 dX9_totalOf_29 ?_
      refine lv_iload_n hx hb dX9_totalOf_32 rfl (lv_at hl 3 rfl) ?_
      refine r_iald S hG hP (chX9_24 hG ho) hm dX9_totalOf_33 (fun a11 hm => ?_)
      refine lv_iadd hx hb dX9_totalOf_34 ?_
      refine r_iald S hG hP (chX9_9 hG ho) hm dX9_totalOf_35 (fun a12 hm => ?_)
      refine r_vcalli (As := [.int v2, .int a12]) (rest := []) S hG hP hS mX9_sum kX9_125 clX9 ho (tX9_sum _ _ _ _ _ _ _ _ ho v2 a12) ⟨rfl, rfl⟩ (rm_ok (by decide) (by decide)) hm hl.1 rfl (Nat.le_of_ble_eq_true rfl) ⟨Nat.zero_le _, Nat.zero_le _⟩ dX9_totalOf_36 (fun b14 μ13 H locs hm hP hS => ?_)
      refine lv_istore_n (lv' := [(2, .int b14), (0, .ref (ad o)), (1, .int v1), (3, .int v3)]) hx hb dX9_totalOf_39 rfl hl (by decide) rfl (fun ls hl => ?_)
      refine r_iinc (b := (1 : Int32)) (k := 3) S hm dX9_totalOf_40 hl rfl (by decide) (by decide) (fun a15 ls hm hl => ?_)
      have hl : lv_has ls 4 [(3, .int a15), (2, .int b14), (0, .ref (ad o)), (1, .int v1)] := hl
      refine lv_goto (tgt := 11) hx hb dX9_totalOf_43 (by decide) ?_
      exact ih v1 b14 a15 μ13 hm H locs ls hP hS (lv_sub hl [2, 3, 1, 0] rfl)
set_option maxHeartbeats 4000000 in
set_option maxRecDepth 100000 in
theorem wX9_totalOf_0 (S : CallFix p m c cX9_totalOf 4 s args TB RX9) (hr : meth.sig.returnType = (some .int) ∧ meth.locks = false) (hG : gok D cI cR n K L ad s) {o : Nat} (ho : isk n K o 9) {x : Int32 × Mem} : ∀ (v1 : Int32) (μ : Mem), fX9_totalOf L o v1 μ = some x → WI p l e (rmL 1) s m args below meth c D cI cR n K L ad 4 x μ 0 [(0, .ref (ad o)), (1, .int v1)] [] := by
  have hx := S.1
  have hb := S.2.1
  intro v1 μ hm H locs ls hP hS hl
  unfold fX9_totalOf at hm
  refine lv_aload_n hx hb dX9_totalOf_0 rfl (lv_at hl 0 rfl) ?_
  refine r_getr S hG hP ho clX9 fX9_9 kX9_25 dX9_totalOf_1 ?_
  refine lv_sipush (v := (168 : Int32)) hx hb dX9_totalOf_4 (by decide) ?_
  refine r_iald S hG hP (chX9_9 hG ho) hm dX9_totalOf_7 (fun a16 hm => ?_)
  refine lv_istore_n (lv' := [(2, .int a16), (0, .ref (ad o)), (1, .int v1)]) hx hb dX9_totalOf_8 rfl hl (by decide) rfl (fun ls hl => ?_)
  refine lv_iconst (v := (0 : Int32)) hx hb dX9_totalOf_9 (by decide) ?_
  refine lv_istore_n (lv' := [(3, .int (0 : Int32)), (2, .int a16), (0, .ref (ad o)), (1, .int v1)]) hx hb dX9_totalOf_10 rfl hl (by decide) rfl (fun ls hl => ?_)
  exact wX9_totalOf_11 S hr hG ho FU v1 a16 (0 : Int32) μ hm H locs ls hP hS (lv_sub hl [2, 3, 1, 0] rfl)
theorem tX9_totalOf (l : Launch) (D : va_G) (cI cR : ClassId) (n : Nat) (K L ad : Nat → Nat) {o : Nat} (ho : isk n K o 9) (v1 : Int32) : Ci l yX9_totalOf cX9_totalOf 4 (some .int) (rmL 1) D cI cR n K L ad [.ref (ad o), .int v1] (fX9_totalOf L o v1) := by
  refine Ci.ofW (by decide) (Nat.le_of_ble_eq_true rfl) ?_
  intro μ x hm p e s m args below meth c ls S hr hG hP hS hl
  exact wX9_totalOf_0 S hr hG ho v1 μ hm _ _ ls hP hS hl
-- X9_total
set_option maxHeartbeats 4000000 in
set_option maxRecDepth 100000 in
theorem wX9_total_2 (S : CallFix p m c cX9_total 2 s args TB RX9) (hr : meth.sig.returnType = (some .int) ∧ meth.locks = false) (hG : gok D cI cR n K L ad s) {o : Nat} (ho : isk n K o 9) {x : Int32 × Mem} : ∀ (k : Nat) (v1 : Int32) (μ : Mem), fX9_total_2 L o k v1 μ = some x → WI p l e (rmL 2) s m args below meth c D cI cR n K L ad 2 x μ 2 [(0, .ref (ad o)), (1, .int v1)] [] := by
  have hx := S.1
  have hb := S.2.1
  intro k
  induction k with
  | zero => intro v1 μ hm; exact absurd (show none = some x from hm) (fun h => by cases h)
  | succ k ih =>
    intro v1 μ hm H locs ls hP hS hl
    have hm : fX9_total_2_b L o (fX9_total_2 L o k) v1 μ = some x := hm
    unfold fX9_total_2_b at hm
    refine lv_iload_n hx hb dX9_total_2 rfl (lv_at hl 1 rfl) ?_
    refine lv_aload_n hx hb dX9_total_3 rfl (lv_at hl 0 rfl) ?_
    refine r_geti S hG hP ho clX9 fX9_2 kX9_58 dX9_total_4 ?_
    refine b_icmp_ge (tgt := 28) S dX9_total_7 (by decide) hm (fun hm => ?_) (fun hm => ?_)
    · refine lv_aload_n hx hb dX9_total_28 rfl (lv_at hl 0 rfl) ?_
      refine lv_bipush (v := (-4 : Int32)) hx hb dX9_total_29 (by decide) ?_
      refine r_vcalli (As := [.int (-4 : Int32)]) (rest := []) S hG hP hS mX9_totalOf kX9_197 clX9 ho (tX9_totalOf _ _ _ _ _ _ _ _ ho (-4 : Int32)) ⟨rfl, rfl⟩ (rm_ok (by decide) (by decide)) hm hl.1 rfl (Nat.le_of_ble_eq_true rfl) ⟨Nat.zero_le _, Nat.zero_le _⟩ dX9_total_31 (fun b2 μ1 H locs hm hP hS => ?_)
      exact r_iret S hr hG hP hS hm dX9_total_34
    · refine lv_aload_n hx hb dX9_total_10 rfl (lv_at hl 0 rfl) ?_
      refine r_getr S hG hP ho clX9 fX9_24 kX9_52 dX9_total_11 ?_
      refine lv_iload_n hx hb dX9_total_14 rfl (lv_at hl 1 rfl) ?_
      refine lv_aload_n hx hb dX9_total_15 rfl (lv_at hl 0 rfl) ?_
      refine r_getr S hG hP ho clX9 fX9_8 kX9_22 dX9_total_16 ?_
      refine lv_iload_n hx hb dX9_total_19 rfl (lv_at hl 1 rfl) ?_
      refine r_iald S hG hP (chX9_8 hG ho) hm dX9_total_20 (fun a3 hm => ?_)
      refine r_iast S hG hP hS (chX9_24 hG ho) hm dX9_total_21 (fun μ4 H locs hm hP hS => ?_)
      refine r_iinc (b := (1 : Int32)) (k := 1) S hm dX9_total_22 hl rfl (by decide) (by decide) (fun a5 ls hm hl => ?_)
      have hl : lv_has ls 2 [(1, .int a5), (0, .ref (ad o))] := hl
      refine lv_goto (tgt := 2) hx hb dX9_total_25 (by decide) ?_
      exact ih a5 μ4 hm H locs ls hP hS (lv_sub hl [1, 0] rfl)
set_option maxHeartbeats 4000000 in
set_option maxRecDepth 100000 in
theorem wX9_total_0 (S : CallFix p m c cX9_total 2 s args TB RX9) (hr : meth.sig.returnType = (some .int) ∧ meth.locks = false) (hG : gok D cI cR n K L ad s) {o : Nat} (ho : isk n K o 9) {x : Int32 × Mem} : ∀ (μ : Mem), fX9_total L o μ = some x → WI p l e (rmL 2) s m args below meth c D cI cR n K L ad 2 x μ 0 [(0, .ref (ad o))] [] := by
  have hx := S.1
  have hb := S.2.1
  intro μ hm H locs ls hP hS hl
  unfold fX9_total at hm
  refine lv_iconst (v := (0 : Int32)) hx hb dX9_total_0 (by decide) ?_
  refine lv_istore_n (lv' := [(1, .int (0 : Int32)), (0, .ref (ad o))]) hx hb dX9_total_1 rfl hl (by decide) rfl (fun ls hl => ?_)
  exact wX9_total_2 S hr hG ho FU (0 : Int32) μ hm H locs ls hP hS (lv_sub hl [1, 0] rfl)
theorem tX9_total (l : Launch) (D : va_G) (cI cR : ClassId) (n : Nat) (K L ad : Nat → Nat) {o : Nat} (ho : isk n K o 9) : Ci l yX9_total cX9_total 2 (some .int) (rmL 2) D cI cR n K L ad [.ref (ad o)] (fX9_total L o) := by
  refine Ci.ofW (by decide) (Nat.le_of_ble_eq_true rfl) ?_
  intro μ x hm p e s m args below meth c ls S hr hG hP hS hl
  exact wX9_total_0 S hr hG ho μ hm _ _ ls hP hS hl
-- X9_choices
set_option maxHeartbeats 4000000 in
set_option maxRecDepth 100000 in
theorem wX9_choices_4 (S : CallFix p m c cX9_choices 3 s args TB RX9) (hr : meth.sig.returnType = (some .int) ∧ meth.locks = false) (hG : gok D cI cR n K L ad s) {o : Nat} (ho : isk n K o 9) {x : Int32 × Mem} : ∀ (k : Nat) (v1 v2 : Int32) (μ : Mem), fX9_choices_4 L o k v1 v2 μ = some x → WI p l e (rmL 0) s m args below meth c D cI cR n K L ad 3 x μ 4 [(0, .ref (ad o)), (1, .int v1), (2, .int v2)] [] := by
  have hx := S.1
  have hb := S.2.1
  intro k
  induction k with
  | zero => intro v1 v2 μ hm; exact absurd (show none = some x from hm) (fun h => by cases h)
  | succ k ih =>
    intro v1 v2 μ hm H locs ls hP hS hl
    have hm : fX9_choices_4_b L o (fX9_choices_4 L o k) v1 v2 μ = some x := hm
    unfold fX9_choices_4_b at hm
    refine lv_iload_n hx hb dX9_choices_4 rfl (lv_at hl 2 rfl) ?_
    refine lv_aload_n hx hb dX9_choices_5 rfl (lv_at hl 0 rfl) ?_
    refine r_geti S hG hP ho clX9 fX9_2 kX9_58 dX9_choices_6 ?_
    refine b_icmp_ge (tgt := 27) S dX9_choices_9 (by decide) hm (fun hm => ?_) (fun hm => ?_)
    · refine lv_iload_n hx hb dX9_choices_27 rfl (lv_at hl 1 rfl) ?_
      exact r_iret S hr hG hP hS hm dX9_choices_28
    · refine lv_iload_n hx hb dX9_choices_12 rfl (lv_at hl 1 rfl) ?_
      refine lv_aload_n hx hb dX9_choices_13 rfl (lv_at hl 0 rfl) ?_
      refine r_getr S hG hP ho clX9 fX9_3 kX9_13 dX9_choices_14 ?_
      refine lv_iload_n hx hb dX9_choices_17 rfl (lv_at hl 2 rfl) ?_
      refine r_iald S hG hP (chX9_3 hG ho) hm dX9_choices_18 (fun a1 hm => ?_)
      refine lv_imul hx hb dX9_choices_19 ?_
      refine r_top hm (fun a2 hm => ?_)
      refine lv_istore_n (lv' := [(1, .int a2), (0, .ref (ad o)), (2, .int v2)]) hx hb dX9_choices_20 rfl hl (by decide) rfl (fun ls hl => ?_)
      refine r_iinc (b := (1 : Int32)) (k := 2) S hm dX9_choices_21 hl rfl (by decide) (by decide) (fun a3 ls hm hl => ?_)
      have hl : lv_has ls 3 [(2, .int a3), (1, .int a2), (0, .ref (ad o))] := hl
      refine lv_goto (tgt := 4) hx hb dX9_choices_24 (by decide) ?_
      exact ih a2 a3 μ hm H locs ls hP hS (lv_sub hl [2, 1, 0] rfl)
set_option maxHeartbeats 4000000 in
set_option maxRecDepth 100000 in
theorem wX9_choices_0 (S : CallFix p m c cX9_choices 3 s args TB RX9) (hr : meth.sig.returnType = (some .int) ∧ meth.locks = false) (hG : gok D cI cR n K L ad s) {o : Nat} (ho : isk n K o 9) {x : Int32 × Mem} : ∀ (μ : Mem), fX9_choices L o μ = some x → WI p l e (rmL 0) s m args below meth c D cI cR n K L ad 3 x μ 0 [(0, .ref (ad o))] [] := by
  have hx := S.1
  have hb := S.2.1
  intro μ hm H locs ls hP hS hl
  unfold fX9_choices at hm
  refine lv_iconst (v := (1 : Int32)) hx hb dX9_choices_0 (by decide) ?_
  refine lv_istore_n (lv' := [(1, .int (1 : Int32)), (0, .ref (ad o))]) hx hb dX9_choices_1 rfl hl (by decide) rfl (fun ls hl => ?_)
  refine lv_iconst (v := (0 : Int32)) hx hb dX9_choices_2 (by decide) ?_
  refine lv_istore_n (lv' := [(2, .int (0 : Int32)), (1, .int (1 : Int32)), (0, .ref (ad o))]) hx hb dX9_choices_3 rfl hl (by decide) rfl (fun ls hl => ?_)
  exact wX9_choices_4 S hr hG ho FU (1 : Int32) (0 : Int32) μ hm H locs ls hP hS (lv_sub hl [2, 1, 0] rfl)
theorem tX9_choices (l : Launch) (D : va_G) (cI cR : ClassId) (n : Nat) (K L ad : Nat → Nat) {o : Nat} (ho : isk n K o 9) : Ci l yX9_choices cX9_choices 3 (some .int) (rmL 0) D cI cR n K L ad [.ref (ad o)] (fX9_choices L o) := by
  refine Ci.ofW (by decide) (Nat.le_of_ble_eq_true rfl) ?_
  intro μ x hm p e s m args below meth c ls S hr hG hP hS hl
  exact wX9_choices_0 S hr hG ho μ hm _ _ ls hP hS hl
-- X9_takes
set_option maxHeartbeats 4000000 in
set_option maxRecDepth 100000 in
theorem wX9_takes_9 (S : CallFix p m c cX9_takes 4 s args TB RX9) (hr : meth.sig.returnType = none ∧ meth.locks = false) (hG : gok D cI cR n K L ad s) {o : Nat} (ho : isk n K o 9) {x : Mem} : ∀ (k : Nat) (v2 v3 : Int32) (μ : Mem), fX9_takes_9 L o k v2 v3 μ = some x → WV p l e (rmL 0) s m args below meth c D cI cR n K L ad 4 x μ 9 [(0, .ref (ad o)), (2, .int v2), (3, .int v3)] [] := by
  have hx := S.1
  have hb := S.2.1
  intro k
  induction k with
  | zero => intro v2 v3 μ hm; exact absurd (show none = some x from hm) (fun h => by cases h)
  | succ k ih =>
    intro v2 v3 μ hm H locs ls hP hS hl
    have hm : fX9_takes_9_b L o (fX9_takes_9 L o k) v2 v3 μ = some x := hm
    unfold fX9_takes_9_b at hm
    refine lv_iload_n hx hb dX9_takes_9 rfl (lv_at hl 2 rfl) ?_
    refine b_if_lt (tgt := 42) S dX9_takes_10 (by decide) hm (fun hm => ?_) (fun hm => ?_)
    · exact r_vret S hr hG hP hS hm dX9_takes_42
    · refine lv_aload_n hx hb dX9_takes_13 rfl (lv_at hl 0 rfl) ?_
      refine r_getr S hG hP ho clX9 fX9_24 kX9_52 dX9_takes_14 ?_
      refine lv_iload_n hx hb dX9_takes_17 rfl (lv_at hl 2 rfl) ?_
      refine lv_iload_n hx hb dX9_takes_18 rfl (lv_at hl 1 rfl) ?_
      refine lv_aload_n hx hb dX9_takes_19 rfl (lv_at hl 0 rfl) ?_
      refine r_getr S hG hP ho clX9 fX9_3 kX9_13 dX9_takes_20 ?_
      refine lv_iload_n hx hb dX9_takes_23 rfl (lv_at hl 2 rfl) ?_
      refine r_iald S hG hP (chX9_3 hG ho) hm dX9_takes_24 (fun a1 hm => ?_)
      refine r_irem S hm dX9_takes_25 (fun hm => ?_)
      refine r_iast S hG hP hS (chX9_24 hG ho) hm dX9_takes_26 (fun μ2 H locs hm hP hS => ?_)
      refine lv_iload_n hx hb dX9_takes_27 rfl (lv_at hl 1 rfl) ?_
      refine lv_aload_n hx hb dX9_takes_28 rfl (lv_at hl 0 rfl) ?_
      refine r_getr S hG hP ho clX9 fX9_3 kX9_13 dX9_takes_29 ?_
      refine lv_iload_n hx hb dX9_takes_32 rfl (lv_at hl 2 rfl) ?_
      refine r_iald S hG hP (chX9_3 hG ho) hm dX9_takes_33 (fun a3 hm => ?_)
      refine r_idiv S hm dX9_takes_34 (fun hm => ?_)
      refine r_top hm (fun a4 hm => ?_)
      refine lv_istore_n (lv' := [(2, .int a4), (0, .ref (ad o)), (3, .int v3)]) hx hb dX9_takes_35 rfl hl (by decide) rfl (fun ls hl => ?_)
      refine r_iinc (b := (-1 : Int32)) (k := 2) S hm dX9_takes_36 hl rfl (by decide) (by decide) (fun a5 ls hm hl => ?_)
      have hl : lv_has ls 4 [(3, .int a5), (2, .int a4), (0, .ref (ad o))] := hl
      refine lv_goto (tgt := 9) hx hb dX9_takes_39 (by decide) ?_
      exact ih a4 a5 μ2 hm H locs ls hP hS (lv_sub hl [2, 1, 0] rfl)
set_option maxHeartbeats 4000000 in
set_option maxRecDepth 100000 in
theorem wX9_takes_0 (S : CallFix p m c cX9_takes 4 s args TB RX9) (hr : meth.sig.returnType = none ∧ meth.locks = false) (hG : gok D cI cR n K L ad s) {o : Nat} (ho : isk n K o 9) {x : Mem} : ∀ (v1 : Int32) (μ : Mem), fX9_takes L o v1 μ = some x → WV p l e (rmL 0) s m args below meth c D cI cR n K L ad 4 x μ 0 [(0, .ref (ad o)), (1, .int v1)] [] := by
  have hx := S.1
  have hb := S.2.1
  intro v1 μ hm H locs ls hP hS hl
  unfold fX9_takes at hm
  refine lv_iload_n hx hb dX9_takes_0 rfl (lv_at hl 1 rfl) ?_
  refine lv_istore_n (lv' := [(2, .int v1), (0, .ref (ad o)), (1, .int v1)]) hx hb dX9_takes_1 rfl hl (by decide) rfl (fun ls hl => ?_)
  refine lv_aload_n hx hb dX9_takes_2 rfl (lv_at hl 1 rfl) ?_
  refine r_geti S hG hP ho clX9 fX9_2 kX9_58 dX9_takes_3 ?_
  refine lv_iconst (v := (1 : Int32)) hx hb dX9_takes_6 (by decide) ?_
  refine lv_isub hx hb dX9_takes_7 ?_
  refine r_top hm (fun a6 hm => ?_)
  refine lv_istore_n (lv' := [(3, .int a6), (2, .int v1), (0, .ref (ad o)), (1, .int v1)]) hx hb dX9_takes_8 rfl hl (by decide) rfl (fun ls hl => ?_)
  exact wX9_takes_9 S hr hG ho FU v1 a6 μ hm H locs ls hP hS (lv_sub hl [2, 1, 0] rfl)
theorem tX9_takes (l : Launch) (D : va_G) (cI cR : ClassId) (n : Nat) (K L ad : Nat → Nat) {o : Nat} (ho : isk n K o 9) (v1 : Int32) : Cv l yX9_takes cX9_takes 4 none (rmL 0) D cI cR n K L ad [.ref (ad o), .int v1] (fX9_takes L o v1) := by
  refine Cv.ofW (by decide) (Nat.le_of_ble_eq_true rfl) ?_
  intro μ x hm p e s m args below meth c ls S hr hG hP hS hl
  exact wX9_takes_0 S hr hG ho v1 μ hm _ _ ls hP hS hl
-- X9_meets
set_option maxHeartbeats 4000000 in
set_option maxRecDepth 100000 in
theorem wX9_meets_164 (S : CallFix p m c cX9_meets 4 s args TB RX9) (hr : meth.sig.returnType = none ∧ meth.locks = false) (hG : gok D cI cR n K L ad s) {o : Nat} (ho : isk n K o 9) {x : Mem} : ∀ (s0 : Int32) (μ : Mem), fX9_meets_164 L o s0 μ = some x → WV p l e (rmL 0) s m args below meth c D cI cR n K L ad 4 x μ 164 [] [.int s0, .ref (ad o)] := by
  have hx := S.1
  have hb := S.2.1
  intro s0 μ hm H locs ls hP hS hl
  unfold fX9_meets_164 at hm
  refine r_puti S hG hP hS ho clX9 fX9_30 kX9_209 hm dX9_meets_164 (fun μ1 H locs hm hP hS => ?_)
  exact r_vret S hr hG hP hS hm dX9_meets_167
set_option maxHeartbeats 4000000 in
set_option maxRecDepth 100000 in
theorem wX9_meets_138 (S : CallFix p m c cX9_meets 4 s args TB RX9) (hr : meth.sig.returnType = none ∧ meth.locks = false) (hG : gok D cI cR n K L ad s) {o : Nat} (ho : isk n K o 9) {x : Mem} : ∀ (v1 v2 s0 s1 : Int32) (μ : Mem), fX9_meets_138 L o v1 v2 s0 s1 μ = some x → WV p l e (rmL 0) s m args below meth c D cI cR n K L ad 4 x μ 138 [(0, .ref (ad o)), (1, .int v1), (2, .int v2)] [.int s0, .int s1, .ref (ad o)] := by
  have hx := S.1
  have hb := S.2.1
  intro v1 v2 s0 s1 μ hm H locs ls hP hS hl
  unfold fX9_meets_138 at hm
  refine lv_iadd hx hb dX9_meets_138 ?_
  refine r_puti S hG hP hS ho clX9 fX9_27 kX9_206 hm dX9_meets_139 (fun μ2 H locs hm hP hS => ?_)
  refine lv_aload_n hx hb dX9_meets_142 rfl (lv_at hl 0 rfl) ?_
  refine lv_iload_n hx hb dX9_meets_143 rfl (lv_at hl 1 rfl) ?_
  refine lv_aload_n hx hb dX9_meets_144 rfl (lv_at hl 0 rfl) ?_
  refine r_geti S hG hP ho clX9 fX9_26 kX9_200 dX9_meets_145 ?_
  refine b_icmp_ne (tgt := 160) S dX9_meets_148 (by decide) hm (fun hm => ?_) (fun hm => ?_)
  · refine lv_aload_n hx hb dX9_meets_160 rfl (lv_at hl 0 rfl) ?_
    refine r_geti S hG hP ho clX9 fX9_30 kX9_209 dX9_meets_161 ?_
    exact wX9_meets_164 S hr hG ho (μ2 o 30) μ2 hm H locs ls hP hS (lv_sub hl [] rfl)
  · refine lv_aload_n hx hb dX9_meets_151 rfl (lv_at hl 0 rfl) ?_
    refine r_geti S hG hP ho clX9 fX9_30 kX9_209 dX9_meets_152 ?_
    refine lv_iload_n hx hb dX9_meets_155 rfl (lv_at hl 2 rfl) ?_
    refine lv_iand hx hb dX9_meets_156 ?_
    refine lv_goto (tgt := 164) hx hb dX9_meets_157 (by decide) ?_
    exact wX9_meets_164 S hr hG ho ((μ2 o 30) &&& v2) μ2 hm H locs ls hP hS (lv_sub hl [] rfl)
set_option maxHeartbeats 4000000 in
set_option maxRecDepth 100000 in
theorem wX9_meets_117 (S : CallFix p m c cX9_meets 4 s args TB RX9) (hr : meth.sig.returnType = none ∧ meth.locks = false) (hG : gok D cI cR n K L ad s) {o : Nat} (ho : isk n K o 9) {x : Mem} : ∀ (v1 v2 s0 : Int32) (μ : Mem), fX9_meets_117 L o v1 v2 s0 μ = some x → WV p l e (rmL 0) s m args below meth c D cI cR n K L ad 4 x μ 117 [(0, .ref (ad o)), (1, .int v1), (2, .int v2)] [.int s0, .ref (ad o)] := by
  have hx := S.1
  have hb := S.2.1
  intro v1 v2 s0 μ hm H locs ls hP hS hl
  unfold fX9_meets_117 at hm
  refine r_puti S hG hP hS ho clX9 fX9_28 kX9_203 hm dX9_meets_117 (fun μ3 H locs hm hP hS => ?_)
  refine lv_aload_n hx hb dX9_meets_120 rfl (lv_at hl 0 rfl) ?_
  refine lv_dup hx hb dX9_meets_121 rfl ?_
  refine r_geti S hG hP ho clX9 fX9_27 kX9_206 dX9_meets_122 ?_
  refine lv_iload_n hx hb dX9_meets_125 rfl (lv_at hl 1 rfl) ?_
  refine lv_aload_n hx hb dX9_meets_126 rfl (lv_at hl 0 rfl) ?_
  refine r_geti S hG hP ho clX9 fX9_26 kX9_200 dX9_meets_127 ?_
  refine b_icmp_ne (tgt := 137) S dX9_meets_130 (by decide) hm (fun hm => ?_) (fun hm => ?_)
  · refine lv_iconst (v := (0 : Int32)) hx hb dX9_meets_137 (by decide) ?_
    exact wX9_meets_138 S hr hG ho v1 v2 (0 : Int32) (μ3 o 27) μ3 hm H locs ls hP hS (lv_sub hl [0, 1, 2] rfl)
  · refine lv_iconst (v := (1 : Int32)) hx hb dX9_meets_133 (by decide) ?_
    refine lv_goto (tgt := 138) hx hb dX9_meets_134 (by decide) ?_
    exact wX9_meets_138 S hr hG ho v1 v2 (1 : Int32) (μ3 o 27) μ3 hm H locs ls hP hS (lv_sub hl [0, 1, 2] rfl)
set_option maxHeartbeats 4000000 in
set_option maxRecDepth 100000 in
theorem wX9_meets_113 (S : CallFix p m c cX9_meets 4 s args TB RX9) (hr : meth.sig.returnType = none ∧ meth.locks = false) (hG : gok D cI cR n K L ad s) {o : Nat} (ho : isk n K o 9) {x : Mem} : ∀ (v1 v2 : Int32) (μ : Mem), fX9_meets_113 L o v1 v2 μ = some x → WV p l e (rmL 0) s m args below meth c D cI cR n K L ad 4 x μ 113 [(0, .ref (ad o)), (1, .int v1), (2, .int v2)] [.ref (ad o)] := by
  have hx := S.1
  have hb := S.2.1
  intro v1 v2 μ hm H locs ls hP hS hl
  unfold fX9_meets_113 at hm
  refine lv_aload_n hx hb dX9_meets_113 rfl (lv_at hl 0 rfl) ?_
  refine r_geti S hG hP ho clX9 fX9_28 kX9_203 dX9_meets_114 ?_
  exact wX9_meets_117 S hr hG ho v1 v2 (μ o 28) μ hm H locs ls hP hS (lv_sub hl [0, 1, 2] rfl)
set_option maxHeartbeats 4000000 in
set_option maxRecDepth 100000 in
theorem wX9_meets_92 (S : CallFix p m c cX9_meets 4 s args TB RX9) (hr : meth.sig.returnType = none ∧ meth.locks = false) (hG : gok D cI cR n K L ad s) {o : Nat} (ho : isk n K o 9) {x : Mem} : ∀ (v1 v2 : Int32) (μ : Mem), fX9_meets_92 L o v1 v2 μ = some x → WV p l e (rmL 0) s m args below meth c D cI cR n K L ad 4 x μ 92 [(0, .ref (ad o)), (1, .int v1), (2, .int v2)] [] := by
  have hx := S.1
  have hb := S.2.1
  intro v1 v2 μ hm H locs ls hP hS hl
  unfold fX9_meets_92 at hm
  refine lv_aload_n hx hb dX9_meets_92 rfl (lv_at hl 0 rfl) ?_
  refine lv_iload_n hx hb dX9_meets_93 rfl (lv_at hl 1 rfl) ?_
  refine lv_aload_n hx hb dX9_meets_94 rfl (lv_at hl 0 rfl) ?_
  refine r_geti S hG hP ho clX9 fX9_26 kX9_200 dX9_meets_95 ?_
  refine b_icmp_le (tgt := 113) S dX9_meets_98 (by decide) hm (fun hm => ?_) (fun hm => ?_)
  · exact wX9_meets_113 S hr hG ho v1 v2 μ hm H locs ls hP hS (lv_sub hl [0, 1, 2] rfl)
  · refine lv_iload_n hx hb dX9_meets_101 rfl (lv_at hl 1 rfl) ?_
    refine lv_aload_n hx hb dX9_meets_102 rfl (lv_at hl 0 rfl) ?_
    refine r_geti S hG hP ho clX9 fX9_28 kX9_203 dX9_meets_103 ?_
    refine b_icmp_ge (tgt := 113) S dX9_meets_106 (by decide) hm (fun hm => ?_) (fun hm => ?_)
    · exact wX9_meets_113 S hr hG ho v1 v2 μ hm H locs ls hP hS (lv_sub hl [0, 1, 2] rfl)
    · refine lv_iload_n hx hb dX9_meets_109 rfl (lv_at hl 1 rfl) ?_
      refine lv_goto (tgt := 117) hx hb dX9_meets_110 (by decide) ?_
      exact wX9_meets_117 S hr hG ho v1 v2 v1 μ hm H locs ls hP hS (lv_sub hl [0, 1, 2] rfl)
set_option maxHeartbeats 4000000 in
set_option maxRecDepth 100000 in
theorem wX9_meets_66 (S : CallFix p m c cX9_meets 4 s args TB RX9) (hr : meth.sig.returnType = none ∧ meth.locks = false) (hG : gok D cI cR n K L ad s) {o : Nat} (ho : isk n K o 9) {x : Mem} : ∀ (k : Nat) (v1 v2 v3 : Int32) (μ : Mem), fX9_meets_66 L o k v1 v2 v3 μ = some x → WV p l e (rmL 0) s m args below meth c D cI cR n K L ad 4 x μ 66 [(0, .ref (ad o)), (1, .int v1), (2, .int v2), (3, .int v3)] [] := by
  have hx := S.1
  have hb := S.2.1
  intro k
  induction k with
  | zero => intro v1 v2 v3 μ hm; exact absurd (show none = some x from hm) (fun h => by cases h)
  | succ k ih =>
    intro v1 v2 v3 μ hm H locs ls hP hS hl
    have hm : fX9_meets_66_b L o (fX9_meets_66 L o k) v1 v2 v3 μ = some x := hm
    unfold fX9_meets_66_b at hm
    refine lv_iload_n hx hb dX9_meets_66 rfl (lv_at hl 3 rfl) ?_
    refine lv_aload_n hx hb dX9_meets_67 rfl (lv_at hl 0 rfl) ?_
    refine r_geti S hG hP ho clX9 fX9_2 kX9_58 dX9_meets_68 ?_
    refine b_icmp_ge (tgt := 92) S dX9_meets_71 (by decide) hm (fun hm => ?_) (fun hm => ?_)
    · exact wX9_meets_92 S hr hG ho v1 v2 μ hm H locs ls hP hS (lv_sub hl [0, 1, 2] rfl)
    · refine lv_aload_n hx hb dX9_meets_74 rfl (lv_at hl 0 rfl) ?_
      refine r_getr S hG hP ho clX9 fX9_25 kX9_55 dX9_meets_75 ?_
      refine lv_iload_n hx hb dX9_meets_78 rfl (lv_at hl 3 rfl) ?_
      refine lv_aload_n hx hb dX9_meets_79 rfl (lv_at hl 0 rfl) ?_
      refine r_getr S hG hP ho clX9 fX9_24 kX9_52 dX9_meets_80 ?_
      refine lv_iload_n hx hb dX9_meets_83 rfl (lv_at hl 3 rfl) ?_
      refine r_iald S hG hP (chX9_24 hG ho) hm dX9_meets_84 (fun a4 hm => ?_)
      refine r_iast S hG hP hS (chX9_25 hG ho) hm dX9_meets_85 (fun μ5 H locs hm hP hS => ?_)
      refine r_iinc (b := (1 : Int32)) (k := 3) S hm dX9_meets_86 hl rfl (by decide) (by decide) (fun a6 ls hm hl => ?_)
      have hl : lv_has ls 4 [(3, .int a6), (0, .ref (ad o)), (1, .int v1), (2, .int v2)] := hl
      refine lv_goto (tgt := 66) hx hb dX9_meets_89 (by decide) ?_
      exact ih v1 v2 a6 μ5 hm H locs ls hP hS (lv_sub hl [1, 2, 3, 0] rfl)
set_option maxHeartbeats 4000000 in
set_option maxRecDepth 100000 in
theorem wX9_meets_4 (S : CallFix p m c cX9_meets 4 s args TB RX9) (hr : meth.sig.returnType = none ∧ meth.locks = false) (hG : gok D cI cR n K L ad s) {o : Nat} (ho : isk n K o 9) {x : Mem} : ∀ (k : Nat) (v1 v2 v3 : Int32) (μ : Mem), fX9_meets_4 L o k v1 v2 v3 μ = some x → WV p l e (rmL 0) s m args below meth c D cI cR n K L ad 4 x μ 4 [(0, .ref (ad o)), (1, .int v1), (2, .int v2), (3, .int v3)] [] := by
  have hx := S.1
  have hb := S.2.1
  intro k
  induction k with
  | zero => intro v1 v2 v3 μ hm; exact absurd (show none = some x from hm) (fun h => by cases h)
  | succ k ih =>
    intro v1 v2 v3 μ hm H locs ls hP hS hl
    have hm : fX9_meets_4_b L o (fX9_meets_4 L o k) v1 v2 v3 μ = some x := hm
    unfold fX9_meets_4_b at hm
    refine lv_iload_n hx hb dX9_meets_4 rfl (lv_at hl 3 rfl) ?_
    refine lv_aload_n hx hb dX9_meets_5 rfl (lv_at hl 0 rfl) ?_
    refine r_geti S hG hP ho clX9 fX9_2 kX9_58 dX9_meets_6 ?_
    refine b_icmp_ge (tgt := 33) S dX9_meets_9 (by decide) hm (fun hm => ?_) (fun hm => ?_)
    · refine lv_iload_n hx hb dX9_meets_33 rfl (lv_at hl 1 rfl) ?_
      refine lv_aload_n hx hb dX9_meets_34 rfl (lv_at hl 0 rfl) ?_
      refine r_geti S hG hP ho clX9 fX9_26 kX9_200 dX9_meets_35 ?_
      refine b_icmp_ge (tgt := 92) S dX9_meets_38 (by decide) hm (fun hm => ?_) (fun hm => ?_)
      · exact wX9_meets_92 S hr hG ho v1 v2 μ hm H locs ls hP hS (lv_sub hl [0, 1, 2] rfl)
      · refine lv_aload_n hx hb dX9_meets_41 rfl (lv_at hl 0 rfl) ?_
        refine lv_aload_n hx hb dX9_meets_42 rfl (lv_at hl 0 rfl) ?_
        refine r_geti S hG hP ho clX9 fX9_26 kX9_200 dX9_meets_43 ?_
        refine r_puti S hG hP hS ho clX9 fX9_28 kX9_203 hm dX9_meets_46 (fun μ7 H locs hm hP hS => ?_)
        refine lv_aload_n hx hb dX9_meets_49 rfl (lv_at hl 0 rfl) ?_
        refine lv_iload_n hx hb dX9_meets_50 rfl (lv_at hl 1 rfl) ?_
        refine r_puti S hG hP hS ho clX9 fX9_26 kX9_200 hm dX9_meets_51 (fun μ8 H locs hm hP hS => ?_)
        refine lv_aload_n hx hb dX9_meets_54 rfl (lv_at hl 0 rfl) ?_
        refine lv_iconst (v := (0 : Int32)) hx hb dX9_meets_55 (by decide) ?_
        refine r_puti S hG hP hS ho clX9 fX9_27 kX9_206 hm dX9_meets_56 (fun μ9 H locs hm hP hS => ?_)
        refine lv_aload_n hx hb dX9_meets_59 rfl (lv_at hl 0 rfl) ?_
        refine lv_iload_n hx hb dX9_meets_60 rfl (lv_at hl 2 rfl) ?_
        refine r_puti S hG hP hS ho clX9 fX9_30 kX9_209 hm dX9_meets_61 (fun μ10 H locs hm hP hS => ?_)
        refine lv_iconst (v := (0 : Int32)) hx hb dX9_meets_64 (by decide) ?_
        refine lv_istore_n (lv' := [(3, .int (0 : Int32)), (0, .ref (ad o)), (1, .int v1), (2, .int v2)]) hx hb dX9_meets_65 rfl hl (by decide) rfl (fun ls hl => ?_)
        exact wX9_meets_66 S hr hG ho FU v1 v2 (0 : Int32) μ10 hm H locs ls hP hS (lv_sub hl [1, 2, 3, 0] rfl)
    · refine lv_iload_n hx hb dX9_meets_12 rfl (lv_at hl 2 rfl) ?_
      refine lv_iconst (v := (1 : Int32)) hx hb dX9_meets_13 (by decide) ?_
      refine lv_iconst (v := (4 : Int32)) hx hb dX9_meets_14 (by decide) ?_
      refine lv_iload_n hx hb dX9_meets_15 rfl (lv_at hl 3 rfl) ?_
      refine lv_imul hx hb dX9_meets_16 ?_
      refine lv_aload_n hx hb dX9_meets_17 rfl (lv_at hl 0 rfl) ?_
      refine r_getr S hG hP ho clX9 fX9_24 kX9_52 dX9_meets_18 ?_
      refine lv_iload_n hx hb dX9_meets_21 rfl (lv_at hl 3 rfl) ?_
      refine r_iald S hG hP (chX9_24 hG ho) hm dX9_meets_22 (fun a11 hm => ?_)
      refine lv_iadd hx hb dX9_meets_23 ?_
      refine lv_ishl hx hb dX9_meets_24 ?_
      refine lv_ior hx hb dX9_meets_25 ?_
      refine r_top hm (fun a12 hm => ?_)
      refine lv_istore_n (lv' := [(2, .int a12), (0, .ref (ad o)), (1, .int v1), (3, .int v3)]) hx hb dX9_meets_26 rfl hl (by decide) rfl (fun ls hl => ?_)
      refine r_iinc (b := (1 : Int32)) (k := 3) S hm dX9_meets_27 hl rfl (by decide) (by decide) (fun a13 ls hm hl => ?_)
      have hl : lv_has ls 4 [(3, .int a13), (2, .int a12), (0, .ref (ad o)), (1, .int v1)] := hl
      refine lv_goto (tgt := 4) hx hb dX9_meets_30 (by decide) ?_
      exact ih v1 a12 a13 μ hm H locs ls hP hS (lv_sub hl [2, 3, 1, 0] rfl)
set_option maxHeartbeats 4000000 in
set_option maxRecDepth 100000 in
theorem wX9_meets_0 (S : CallFix p m c cX9_meets 4 s args TB RX9) (hr : meth.sig.returnType = none ∧ meth.locks = false) (hG : gok D cI cR n K L ad s) {o : Nat} (ho : isk n K o 9) {x : Mem} : ∀ (v1 : Int32) (μ : Mem), fX9_meets L o v1 μ = some x → WV p l e (rmL 0) s m args below meth c D cI cR n K L ad 4 x μ 0 [(0, .ref (ad o)), (1, .int v1)] [] := by
  have hx := S.1
  have hb := S.2.1
  intro v1 μ hm H locs ls hP hS hl
  unfold fX9_meets at hm
  refine lv_iconst (v := (0 : Int32)) hx hb dX9_meets_0 (by decide) ?_
  refine lv_istore_n (lv' := [(2, .int (0 : Int32)), (0, .ref (ad o)), (1, .int v1)]) hx hb dX9_meets_1 rfl hl (by decide) rfl (fun ls hl => ?_)
  refine lv_iconst (v := (0 : Int32)) hx hb dX9_meets_2 (by decide) ?_
  refine lv_istore_n (lv' := [(3, .int (0 : Int32)), (2, .int (0 : Int32)), (0, .ref (ad o)), (1, .int v1)]) hx hb dX9_meets_3 rfl hl (by decide) rfl (fun ls hl => ?_)
  exact wX9_meets_4 S hr hG ho FU v1 (0 : Int32) (0 : Int32) μ hm H locs ls hP hS (lv_sub hl [2, 3, 1, 0] rfl)
theorem tX9_meets (l : Launch) (D : va_G) (cI cR : ClassId) (n : Nat) (K L ad : Nat → Nat) {o : Nat} (ho : isk n K o 9) (v1 : Int32) : Cv l yX9_meets cX9_meets 4 none (rmL 0) D cI cR n K L ad [.ref (ad o), .int v1] (fX9_meets L o v1) := by
  refine Cv.ofW (by decide) (Nat.le_of_ble_eq_true rfl) ?_
  intro μ x hm p e s m args below meth c ls S hr hG hP hS hl
  exact wX9_meets_0 S hr hG ho v1 μ hm _ _ ls hP hS hl
-- X9_looks
set_option maxHeartbeats 4000000 in
set_option maxRecDepth 100000 in
theorem wX9_looks_73 (S : CallFix p m c cX9_looks 4 s args TB RX9) (hr : meth.sig.returnType = none ∧ meth.locks = false) (hG : gok D cI cR n K L ad s) {o : Nat} (ho : isk n K o 9) {x : Mem} {self33 : Int32 → Int32 → Mem → Option Mem} (hs33 : ∀ (v1 v2 : Int32) (μ : Mem), self33 v1 v2 μ = some x → WV p l e (rmL 2) s m args below meth c D cI cR n K L ad 4 x μ 33 [(0, .ref (ad o)), (1, .int v1), (2, .int v2)] []) : ∀ (v1 v2 : Int32) (μ : Mem), fX9_looks_73 L o self33 v1 v2 μ = some x → WV p l e (rmL 2) s m args below meth c D cI cR n K L ad 4 x μ 73 [(0, .ref (ad o)), (1, .int v1), (2, .int v2)] [] := by
  have hx := S.1
  have hb := S.2.1
  intro v1 v2 μ hm H locs ls hP hS hl
  unfold fX9_looks_73 at hm
  refine r_iinc (b := (1 : Int32)) (k := 2) S hm dX9_looks_73 hl rfl (by decide) (by decide) (fun a1 ls hm hl => ?_)
  have hl : lv_has ls 4 [(2, .int a1), (0, .ref (ad o)), (1, .int v1)] := hl
  refine lv_goto (tgt := 33) hx hb dX9_looks_76 (by decide) ?_
  exact hs33 v1 a1 μ hm H locs ls hP hS (lv_sub hl [1, 2, 0] rfl)
set_option maxHeartbeats 4000000 in
set_option maxRecDepth 100000 in
theorem wX9_looks_33 (S : CallFix p m c cX9_looks 4 s args TB RX9) (hr : meth.sig.returnType = none ∧ meth.locks = false) (hG : gok D cI cR n K L ad s) {o : Nat} (ho : isk n K o 9) {x : Mem} : ∀ (k : Nat) (v1 v2 : Int32) (μ : Mem), fX9_looks_33 L o k v1 v2 μ = some x → WV p l e (rmL 2) s m args below meth c D cI cR n K L ad 4 x μ 33 [(0, .ref (ad o)), (1, .int v1), (2, .int v2)] [] := by
  have hx := S.1
  have hb := S.2.1
  intro k
  induction k with
  | zero => intro v1 v2 μ hm; exact absurd (show none = some x from hm) (fun h => by cases h)
  | succ k ih =>
    intro v1 v2 μ hm H locs ls hP hS hl
    have hm : fX9_looks_33_b L o (fX9_looks_33 L o k) v1 v2 μ = some x := hm
    unfold fX9_looks_33_b at hm
    refine lv_iload_n hx hb dX9_looks_33 rfl (lv_at hl 2 rfl) ?_
    refine lv_iload_n hx hb dX9_looks_34 rfl (lv_at hl 1 rfl) ?_
    refine b_icmp_ge (tgt := 79) S dX9_looks_35 (by decide) hm (fun hm => ?_) (fun hm => ?_)
    · exact r_vret S hr hG hP hS hm dX9_looks_79
    · refine lv_aload_n hx hb dX9_looks_38 rfl (lv_at hl 0 rfl) ?_
      refine lv_iload_n hx hb dX9_looks_39 rfl (lv_at hl 2 rfl) ?_
      refine r_vcallv (As := [.int v2]) (rest := []) S hG hP hS mX9_takes kX9_218 clX9 ho (tX9_takes _ _ _ _ _ _ _ _ ho v2) ⟨rfl, rfl⟩ (rm_ok (by decide) (by decide)) hm hl.1 rfl (Nat.le_of_ble_eq_true rfl) ⟨Nat.zero_le _, Nat.zero_le _⟩ dX9_looks_40 (fun μ2 H locs hm hP hS => ?_)
      refine lv_aload_n hx hb dX9_looks_43 rfl (lv_at hl 0 rfl) ?_
      refine lv_bipush (v := (-4 : Int32)) hx hb dX9_looks_44 (by decide) ?_
      refine r_vcalli (As := [.int (-4 : Int32)]) (rest := []) S hG hP hS mX9_totalOf kX9_197 clX9 ho (tX9_totalOf _ _ _ _ _ _ _ _ ho (-4 : Int32)) ⟨rfl, rfl⟩ (rm_ok (by decide) (by decide)) hm hl.1 rfl (Nat.le_of_ble_eq_true rfl) ⟨Nat.zero_le _, Nat.zero_le _⟩ dX9_looks_46 (fun b4 μ3 H locs hm hP hS => ?_)
      refine lv_istore_n (lv' := [(3, .int b4), (0, .ref (ad o)), (1, .int v1), (2, .int v2)]) hx hb dX9_looks_49 rfl hl (by decide) rfl (fun ls hl => ?_)
      refine lv_iload_n hx hb dX9_looks_50 rfl (lv_at hl 0 rfl) ?_
      refine lv_aload_n hx hb dX9_looks_51 rfl (lv_at hl 1 rfl) ?_
      refine r_geti S hG hP ho clX9 fX9_7 kX9_62 dX9_looks_52 ?_
      refine b_icmp_ge (tgt := 73) S dX9_looks_55 (by decide) hm (fun hm => ?_) (fun hm => ?_)
      · exact wX9_looks_73 S hr hG ho ih v1 v2 μ3 hm H locs ls hP hS (lv_sub hl [1, 2, 3] rfl)
      · refine lv_aload_n hx hb dX9_looks_58 rfl (lv_at hl 1 rfl) ?_
        refine lv_dup hx hb dX9_looks_59 rfl ?_
        refine r_geti S hG hP ho clX9 fX9_29 kX9_212 dX9_looks_60 ?_
        refine lv_iconst (v := (1 : Int32)) hx hb dX9_looks_63 (by decide) ?_
        refine lv_iadd hx hb dX9_looks_64 ?_
        refine r_puti S hG hP hS ho clX9 fX9_29 kX9_212 hm dX9_looks_65 (fun μ5 H locs hm hP hS => ?_)
        refine lv_aload_n hx hb dX9_looks_68 rfl (lv_at hl 1 rfl) ?_
        refine lv_iload_n hx hb dX9_looks_69 rfl (lv_at hl 0 rfl) ?_
        refine r_vcallv (As := [.int b4]) (rest := []) S hG hP hS mX9_meets kX9_221 clX9 ho (tX9_meets _ _ _ _ _ _ _ _ ho b4) ⟨rfl, rfl⟩ (rm_ok (by decide) (by decide)) hm hl.1 rfl (Nat.le_of_ble_eq_true rfl) ⟨Nat.zero_le _, Nat.zero_le _⟩ dX9_looks_70 (fun μ6 H locs hm hP hS => ?_)
        exact wX9_looks_73 S hr hG ho ih v1 v2 μ6 hm H locs ls hP hS (lv_sub hl [1, 2, 3] rfl)
set_option maxHeartbeats 4000000 in
set_option maxRecDepth 100000 in
theorem wX9_looks_0 (S : CallFix p m c cX9_looks 4 s args TB RX9) (hr : meth.sig.returnType = none ∧ meth.locks = false) (hG : gok D cI cR n K L ad s) {o : Nat} (ho : isk n K o 9) {x : Mem} : ∀ (μ : Mem), fX9_looks L o μ = some x → WV p l e (rmL 2) s m args below meth c D cI cR n K L ad 4 x μ 0 [(0, .ref (ad o))] [] := by
  have hx := S.1
  have hb := S.2.1
  intro μ hm H locs ls hP hS hl
  unfold fX9_looks at hm
  refine lv_aload_n hx hb dX9_looks_0 rfl (lv_at hl 0 rfl) ?_
  refine lv_aload_n hx hb dX9_looks_1 rfl (lv_at hl 0 rfl) ?_
  refine r_geti S hG hP ho clX9 fX9_7 kX9_62 dX9_looks_2 ?_
  refine r_puti S hG hP hS ho clX9 fX9_26 kX9_200 hm dX9_looks_5 (fun μ7 H locs hm hP hS => ?_)
  refine lv_aload_n hx hb dX9_looks_8 rfl (lv_at hl 0 rfl) ?_
  refine lv_aload_n hx hb dX9_looks_9 rfl (lv_at hl 0 rfl) ?_
  refine r_geti S hG hP ho clX9 fX9_7 kX9_62 dX9_looks_10 ?_
  refine r_puti S hG hP hS ho clX9 fX9_28 kX9_203 hm dX9_looks_13 (fun μ8 H locs hm hP hS => ?_)
  refine lv_aload_n hx hb dX9_looks_16 rfl (lv_at hl 0 rfl) ?_
  refine lv_iconst (v := (0 : Int32)) hx hb dX9_looks_17 (by decide) ?_
  refine r_puti S hG hP hS ho clX9 fX9_29 kX9_212 hm dX9_looks_18 (fun μ9 H locs hm hP hS => ?_)
  refine lv_aload_n hx hb dX9_looks_21 rfl (lv_at hl 0 rfl) ?_
  refine lv_iconst (v := (0 : Int32)) hx hb dX9_looks_22 (by decide) ?_
  refine r_puti S hG hP hS ho clX9 fX9_27 kX9_206 hm dX9_looks_23 (fun μ10 H locs hm hP hS => ?_)
  refine lv_aload_n hx hb dX9_looks_26 rfl (lv_at hl 0 rfl) ?_
  refine r_vcalli (As := []) (rest := []) S hG hP hS mX9_choices kX9_215 clX9 ho (tX9_choices _ _ _ _ _ _ _ _ ho) ⟨rfl, rfl⟩ (rm_ok (by decide) (by decide)) hm hl.1 rfl (Nat.le_of_ble_eq_true rfl) ⟨Nat.zero_le _, Nat.zero_le _⟩ dX9_looks_27 (fun b12 μ11 H locs hm hP hS => ?_)
  refine lv_istore_n (lv' := [(1, .int b12), (0, .ref (ad o))]) hx hb dX9_looks_30 rfl hl (by decide) rfl (fun ls hl => ?_)
  refine lv_iconst (v := (0 : Int32)) hx hb dX9_looks_31 (by decide) ?_
  refine lv_istore_n (lv' := [(2, .int (0 : Int32)), (1, .int b12), (0, .ref (ad o))]) hx hb dX9_looks_32 rfl hl (by decide) rfl (fun ls hl => ?_)
  exact wX9_looks_33 S hr hG ho FU b12 (0 : Int32) μ11 hm H locs ls hP hS (lv_sub hl [2, 1, 0] rfl)
theorem tX9_looks (l : Launch) (D : va_G) (cI cR : ClassId) (n : Nat) (K L ad : Nat → Nat) {o : Nat} (ho : isk n K o 9) : Cv l yX9_looks cX9_looks 4 none (rmL 2) D cI cR n K L ad [.ref (ad o)] (fX9_looks L o) := by
  refine Cv.ofW (by decide) (Nat.le_of_ble_eq_true rfl) ?_
  intro μ x hm p e s m args below meth c ls S hr hG hP hS hl
  exact wX9_looks_0 S hr hG ho μ hm _ _ ls hP hS hl
-- X9_best
set_option maxHeartbeats 4000000 in
set_option maxRecDepth 100000 in
theorem wX9_best_0 (S : CallFix p m c cX9_best 2 s args TB RX9) (hr : meth.sig.returnType = (some .int) ∧ meth.locks = false) (hG : gok D cI cR n K L ad s) {o : Nat} (ho : isk n K o 9) {x : Int32 × Mem} : ∀ (v1 : Int32) (μ : Mem), fX9_best L o v1 μ = some x → WI p l e (rmL 3) s m args below meth c D cI cR n K L ad 2 x μ 0 [(0, .ref (ad o)), (1, .int v1)] [] := by
  have hx := S.1
  have hb := S.2.1
  intro v1 μ hm H locs ls hP hS hl
  unfold fX9_best at hm
  refine lv_iload_n hx hb dX9_best_0 rfl (lv_at hl 1 rfl) ?_
  refine lv_bipush (v := (-2 : Int32)) hx hb dX9_best_1 (by decide) ?_
  refine lv_aload_n hx hb dX9_best_3 rfl (lv_at hl 0 rfl) ?_
  refine r_geti S hG hP ho clX9 fX9_2 kX9_58 dX9_best_4 ?_
  refine lv_iconst (v := (1 : Int32)) hx hb dX9_best_7 (by decide) ?_
  refine lv_isub hx hb dX9_best_8 ?_
  refine r_scalli (As := [.int v1, .int (-2 : Int32), .int ((μ o 2) - (1 : Int32))]) (rest := []) S hG hP hS mX9_isIn kX9_85 (tX9_isIn _ _ _ _ _ _ _ _ v1 (-2 : Int32) ((μ o 2) - (1 : Int32))) ⟨rfl, rfl⟩ (rm_ok (by decide) (by decide)) hm hl.1 rfl (Nat.le_of_ble_eq_true rfl) ⟨Nat.zero_le _, Nat.zero_le _⟩ dX9_best_9 (fun b2 μ1 H locs hm hP hS => ?_)
  refine b_if_ne (tgt := 17) S dX9_best_12 (by decide) hm (fun hm => ?_) (fun hm => ?_)
  · refine lv_aload_n hx hb dX9_best_17 rfl (lv_at hl 0 rfl) ?_
    refine r_vcallv (As := []) (rest := []) S hG hP hS mX9_looks kX9_224 clX9 ho (tX9_looks _ _ _ _ _ _ _ _ ho) ⟨rfl, rfl⟩ (rm_ok (by decide) (by decide)) hm hl.1 rfl (Nat.le_of_ble_eq_true rfl) ⟨Nat.zero_le _, Nat.zero_le _⟩ dX9_best_18 (fun μ3 H locs hm hP hS => ?_)
    refine lv_aload_n hx hb dX9_best_21 rfl (lv_at hl 0 rfl) ?_
    refine r_geti S hG hP ho clX9 fX9_29 kX9_212 dX9_best_22 ?_
    refine b_if_ne (tgt := 31) S dX9_best_25 (by decide) hm (fun hm => ?_) (fun hm => ?_)
    · refine lv_iload_n hx hb dX9_best_31 rfl (lv_at hl 1 rfl) ?_
      refine lv_iconst (v := (-1 : Int32)) hx hb dX9_best_32 (by decide) ?_
      refine b_icmp_ne (tgt := 43) S dX9_best_33 (by decide) hm (fun hm => ?_) (fun hm => ?_)
      · refine lv_iload_n hx hb dX9_best_43 rfl (lv_at hl 1 rfl) ?_
        refine lv_bipush (v := (-2 : Int32)) hx hb dX9_best_44 (by decide) ?_
        refine b_icmp_ne (tgt := 56) S dX9_best_46 (by decide) hm (fun hm => ?_) (fun hm => ?_)
        · refine lv_aload_n hx hb dX9_best_56 rfl (lv_at hl 0 rfl) ?_
          refine r_getr S hG hP ho clX9 fX9_25 kX9_55 dX9_best_57 ?_
          refine lv_iload_n hx hb dX9_best_60 rfl (lv_at hl 1 rfl) ?_
          refine r_iald S hG hP (chX9_25 hG ho) hm dX9_best_61 (fun a4 hm => ?_)
          exact r_iret S hr hG hP hS hm dX9_best_62
        · refine lv_aload_n hx hb dX9_best_49 rfl (lv_at hl 0 rfl) ?_
          refine r_geti S hG hP ho clX9 fX9_27 kX9_206 dX9_best_50 ?_
          refine lv_goto (tgt := 62) hx hb dX9_best_53 (by decide) ?_
          exact r_iret S hr hG hP hS hm dX9_best_62
      · refine lv_aload_n hx hb dX9_best_36 rfl (lv_at hl 0 rfl) ?_
        refine r_geti S hG hP ho clX9 fX9_26 kX9_200 dX9_best_37 ?_
        refine lv_goto (tgt := 62) hx hb dX9_best_40 (by decide) ?_
        exact r_iret S hr hG hP hS hm dX9_best_62
    · refine lv_bipush (v := (-4 : Int32)) hx hb dX9_best_28 (by decide) ?_
      exact r_iret S hr hG hP hS hm dX9_best_30
  · refine lv_iconst (v := (-1 : Int32)) hx hb dX9_best_15 (by decide) ?_
    exact r_iret S hr hG hP hS hm dX9_best_16
theorem tX9_best (l : Launch) (D : va_G) (cI cR : ClassId) (n : Nat) (K L ad : Nat → Nat) {o : Nat} (ho : isk n K o 9) (v1 : Int32) : Ci l yX9_best cX9_best 2 (some .int) (rmL 3) D cI cR n K L ad [.ref (ad o), .int v1] (fX9_best L o v1) := by
  refine Ci.ofW (by decide) (Nat.le_of_ble_eq_true rfl) ?_
  intro μ x hm p e s m args below meth c ls S hr hG hP hS hl
  exact wX9_best_0 S hr hG ho v1 μ hm _ _ ls hP hS hl
-- X9_next
set_option maxHeartbeats 4000000 in
set_option maxRecDepth 100000 in
theorem wX9_next_0 (S : CallFix p m c cX9_next 2 s args TB RX9) (hr : meth.sig.returnType = (some .int) ∧ meth.locks = false) (hG : gok D cI cR n K L ad s) {o : Nat} (ho : isk n K o 9) {x : Int32 × Mem} : ∀ (v1 : Int32) (μ : Mem), fX9_next L o v1 μ = some x → WI p l e (rmL 3) s m args below meth c D cI cR n K L ad 2 x μ 0 [(0, .ref (ad o)), (1, .int v1)] [] := by
  have hx := S.1
  have hb := S.2.1
  intro v1 μ hm H locs ls hP hS hl
  unfold fX9_next at hm
  refine lv_iload_n hx hb dX9_next_0 rfl (lv_at hl 1 rfl) ?_
  refine lv_iconst (v := (0 : Int32)) hx hb dX9_next_1 (by decide) ?_
  refine lv_iconst (v := (1 : Int32)) hx hb dX9_next_2 (by decide) ?_
  refine r_scalli (As := [.int v1, .int (0 : Int32), .int (1 : Int32)]) (rest := []) S hG hP hS mX9_isIn kX9_85 (tX9_isIn _ _ _ _ _ _ _ _ v1 (0 : Int32) (1 : Int32)) ⟨rfl, rfl⟩ (rm_ok (by decide) (by decide)) hm hl.1 rfl (Nat.le_of_ble_eq_true rfl) ⟨Nat.zero_le _, Nat.zero_le _⟩ dX9_next_3 (fun b2 μ1 H locs hm hP hS => ?_)
  refine b_if_ne (tgt := 11) S dX9_next_6 (by decide) hm (fun hm => ?_) (fun hm => ?_)
  · refine lv_aload_n hx hb dX9_next_11 rfl (lv_at hl 0 rfl) ?_
    refine r_vcallv (As := []) (rest := []) S hG hP hS mX9_looks kX9_224 clX9 ho (tX9_looks _ _ _ _ _ _ _ _ ho) ⟨rfl, rfl⟩ (rm_ok (by decide) (by decide)) hm hl.1 rfl (Nat.le_of_ble_eq_true rfl) ⟨Nat.zero_le _, Nat.zero_le _⟩ dX9_next_12 (fun μ3 H locs hm hP hS => ?_)
    refine lv_iload_n hx hb dX9_next_15 rfl (lv_at hl 1 rfl) ?_
    refine lv_iconst (v := (1 : Int32)) hx hb dX9_next_16 (by decide) ?_
    refine b_icmp_ne (tgt := 27) S dX9_next_17 (by decide) hm (fun hm => ?_) (fun hm => ?_)
    · refine lv_aload_n hx hb dX9_next_27 rfl (lv_at hl 0 rfl) ?_
      refine r_geti S hG hP ho clX9 fX9_28 kX9_203 dX9_next_28 ?_
      refine lv_aload_n hx hb dX9_next_31 rfl (lv_at hl 0 rfl) ?_
      refine r_geti S hG hP ho clX9 fX9_7 kX9_62 dX9_next_32 ?_
      refine b_icmp_ge (tgt := 45) S dX9_next_35 (by decide) hm (fun hm => ?_) (fun hm => ?_)
      · refine lv_bipush (v := (-4 : Int32)) hx hb dX9_next_45 (by decide) ?_
        exact r_iret S hr hG hP hS hm dX9_next_47
      · refine lv_aload_n hx hb dX9_next_38 rfl (lv_at hl 0 rfl) ?_
        refine r_geti S hG hP ho clX9 fX9_28 kX9_203 dX9_next_39 ?_
        refine lv_goto (tgt := 47) hx hb dX9_next_42 (by decide) ?_
        exact r_iret S hr hG hP hS hm dX9_next_47
    · refine lv_aload_n hx hb dX9_next_20 rfl (lv_at hl 0 rfl) ?_
      refine r_geti S hG hP ho clX9 fX9_29 kX9_212 dX9_next_21 ?_
      refine lv_goto (tgt := 47) hx hb dX9_next_24 (by decide) ?_
      exact r_iret S hr hG hP hS hm dX9_next_47
  · refine lv_iconst (v := (-1 : Int32)) hx hb dX9_next_9 (by decide) ?_
    exact r_iret S hr hG hP hS hm dX9_next_10
theorem tX9_next (l : Launch) (D : va_G) (cI cR : ClassId) (n : Nat) (K L ad : Nat → Nat) {o : Nat} (ho : isk n K o 9) (v1 : Int32) : Ci l yX9_next cX9_next 2 (some .int) (rmL 3) D cI cR n K L ad [.ref (ad o), .int v1] (fX9_next L o v1) := by
  refine Ci.ofW (by decide) (Nat.le_of_ble_eq_true rfl) ?_
  intro μ x hm p e s m args below meth c ls S hr hG hP hS hl
  exact wX9_next_0 S hr hG ho v1 μ hm _ _ ls hP hS hl
-- X9_backbone
set_option maxHeartbeats 4000000 in
set_option maxRecDepth 100000 in
theorem wX9_backbone_0 (S : CallFix p m c cX9_backbone 1 s args TB RX9) (hr : meth.sig.returnType = (some .int) ∧ meth.locks = false) (hG : gok D cI cR n K L ad s) {o : Nat} (ho : isk n K o 9) {x : Int32 × Mem} : ∀ (μ : Mem), fX9_backbone L o μ = some x → WI p l e (rmL 3) s m args below meth c D cI cR n K L ad 1 x μ 0 [(0, .ref (ad o))] [] := by
  have hx := S.1
  have hb := S.2.1
  intro μ hm H locs ls hP hS hl
  unfold fX9_backbone at hm
  refine lv_aload_n hx hb dX9_backbone_0 rfl (lv_at hl 0 rfl) ?_
  refine r_vcallv (As := []) (rest := []) S hG hP hS mX9_looks kX9_224 clX9 ho (tX9_looks _ _ _ _ _ _ _ _ ho) ⟨rfl, rfl⟩ (rm_ok (by decide) (by decide)) hm hl.1 rfl (Nat.le_of_ble_eq_true rfl) ⟨Nat.zero_le _, Nat.zero_le _⟩ dX9_backbone_1 (fun μ1 H locs hm hP hS => ?_)
  refine lv_aload_n hx hb dX9_backbone_4 rfl (lv_at hl 0 rfl) ?_
  refine r_geti S hG hP ho clX9 fX9_29 kX9_212 dX9_backbone_5 ?_
  refine b_if_ne (tgt := 16) S dX9_backbone_8 (by decide) hm (fun hm => ?_) (fun hm => ?_)
  · refine lv_aload_n hx hb dX9_backbone_16 rfl (lv_at hl 0 rfl) ?_
    refine r_geti S hG hP ho clX9 fX9_30 kX9_209 dX9_backbone_17 ?_
    exact r_iret S hr hG hP hS hm dX9_backbone_20
  · refine lv_bipush (v := (-4 : Int32)) hx hb dX9_backbone_11 (by decide) ?_
    refine lv_goto (tgt := 20) hx hb dX9_backbone_13 (by decide) ?_
    exact r_iret S hr hG hP hS hm dX9_backbone_20
theorem tX9_backbone (l : Launch) (D : va_G) (cI cR : ClassId) (n : Nat) (K L ad : Nat → Nat) {o : Nat} (ho : isk n K o 9) : Ci l yX9_backbone cX9_backbone 1 (some .int) (rmL 3) D cI cR n K L ad [.ref (ad o)] (fX9_backbone L o) := by
  refine Ci.ofW (by decide) (Nat.le_of_ble_eq_true rfl) ?_
  intro μ x hm p e s m args below meth c ls S hr hG hP hS hl
  exact wX9_backbone_0 S hr hG ho μ hm _ _ ls hP hS hl
-- X9_least
set_option maxHeartbeats 4000000 in
set_option maxRecDepth 100000 in
theorem wX9_least_65 (S : CallFix p m c cX9_least 8 s args TB RX9) (hr : meth.sig.returnType = (some .int) ∧ meth.locks = false) (hG : gok D cI cR n K L ad s) {o : Nat} (ho : isk n K o 9) {x : Int32 × Mem} {self15 : Int32 → Int32 → Int32 → Int32 → Int32 → Int32 → Mem → Option (Int32 × Mem)} (hs15 : ∀ (v1 v2 v3 v4 v5 v6 : Int32) (μ : Mem), self15 v1 v2 v3 v4 v5 v6 μ = some x → WI p l e (rmL 2) s m args below meth c D cI cR n K L ad 8 x μ 15 [(0, .ref (ad o)), (1, .int v1), (2, .int v2), (3, .int v3), (4, .int v4), (5, .int v5), (6, .int v6)] []) : ∀ (v1 v2 v3 v4 v5 v6 : Int32) (μ : Mem), fX9_least_65 L o self15 v1 v2 v3 v4 v5 v6 μ = some x → WI p l e (rmL 2) s m args below meth c D cI cR n K L ad 8 x μ 65 [(0, .ref (ad o)), (1, .int v1), (2, .int v2), (3, .int v3), (4, .int v4), (5, .int v5), (6, .int v6)] [] := by
  have hx := S.1
  have hb := S.2.1
  intro v1 v2 v3 v4 v5 v6 μ hm H locs ls hP hS hl
  unfold fX9_least_65 at hm
  refine r_iinc (b := (1 : Int32)) (k := 6) S hm dX9_least_65 hl rfl (by decide) (by decide) (fun a1 ls hm hl => ?_)
  have hl : lv_has ls 8 [(6, .int a1), (0, .ref (ad o)), (1, .int v1), (2, .int v2), (3, .int v3), (4, .int v4), (5, .int v5)] := hl
  refine lv_goto (tgt := 15) hx hb dX9_least_68 (by decide) ?_
  exact hs15 v1 v2 v3 v4 v5 a1 μ hm H locs ls hP hS (lv_sub hl [1, 2, 3, 4, 5, 6, 0] rfl)
set_option maxHeartbeats 4000000 in
set_option maxRecDepth 100000 in
theorem wX9_least_63 (S : CallFix p m c cX9_least 8 s args TB RX9) (hr : meth.sig.returnType = (some .int) ∧ meth.locks = false) (hG : gok D cI cR n K L ad s) {o : Nat} (ho : isk n K o 9) {x : Int32 × Mem} {self15 : Int32 → Int32 → Int32 → Int32 → Int32 → Int32 → Mem → Option (Int32 × Mem)} (hs15 : ∀ (v1 v2 v3 v4 v5 v6 : Int32) (μ : Mem), self15 v1 v2 v3 v4 v5 v6 μ = some x → WI p l e (rmL 2) s m args below meth c D cI cR n K L ad 8 x μ 15 [(0, .ref (ad o)), (1, .int v1), (2, .int v2), (3, .int v3), (4, .int v4), (5, .int v5), (6, .int v6)] []) : ∀ (v1 v2 v3 v5 v6 s0 : Int32) (μ : Mem), fX9_least_63 L o self15 v1 v2 v3 v5 v6 s0 μ = some x → WI p l e (rmL 2) s m args below meth c D cI cR n K L ad 8 x μ 63 [(0, .ref (ad o)), (1, .int v1), (2, .int v2), (3, .int v3), (5, .int v5), (6, .int v6)] [.int s0] := by
  have hx := S.1
  have hb := S.2.1
  intro v1 v2 v3 v5 v6 s0 μ hm H locs ls hP hS hl
  unfold fX9_least_63 at hm
  refine lv_istore (lv' := [(4, .int s0), (0, .ref (ad o)), (1, .int v1), (2, .int v2), (3, .int v3), (5, .int v5), (6, .int v6)]) hx hb dX9_least_63 hl (by decide) rfl (fun ls hl => ?_)
  exact wX9_least_65 S hr hG ho hs15 v1 v2 v3 s0 v5 v6 μ hm H locs ls hP hS (lv_sub hl [1, 2, 3, 4, 0, 5, 6] rfl)
set_option maxHeartbeats 4000000 in
set_option maxRecDepth 100000 in
theorem wX9_least_42 (S : CallFix p m c cX9_least 8 s args TB RX9) (hr : meth.sig.returnType = (some .int) ∧ meth.locks = false) (hG : gok D cI cR n K L ad s) {o : Nat} (ho : isk n K o 9) {x : Int32 × Mem} {self15 : Int32 → Int32 → Int32 → Int32 → Int32 → Int32 → Mem → Option (Int32 × Mem)} (hs15 : ∀ (v1 v2 v3 v4 v5 v6 : Int32) (μ : Mem), self15 v1 v2 v3 v4 v5 v6 μ = some x → WI p l e (rmL 2) s m args below meth c D cI cR n K L ad 8 x μ 15 [(0, .ref (ad o)), (1, .int v1), (2, .int v2), (3, .int v3), (4, .int v4), (5, .int v5), (6, .int v6)] []) : ∀ (v1 v2 v3 v4 v5 v6 : Int32) (μ : Mem), fX9_least_42 L o self15 v1 v2 v3 v4 v5 v6 μ = some x → WI p l e (rmL 2) s m args below meth c D cI cR n K L ad 8 x μ 42 [(0, .ref (ad o)), (1, .int v1), (2, .int v2), (3, .int v3), (4, .int v4), (5, .int v5), (6, .int v6)] [] := by
  have hx := S.1
  have hb := S.2.1
  intro v1 v2 v3 v4 v5 v6 μ hm H locs ls hP hS hl
  unfold fX9_least_42 at hm
  refine lv_aload_n hx hb dX9_least_42 rfl (lv_at hl 0 rfl) ?_
  refine lv_iload_n hx hb dX9_least_43 rfl (lv_at hl 3 rfl) ?_
  refine r_vcalli (As := [.int v3]) (rest := []) S hG hP hS mX9_totalOf kX9_197 clX9 ho (tX9_totalOf _ _ _ _ _ _ _ _ ho v3) ⟨rfl, rfl⟩ (rm_ok (by decide) (by decide)) hm hl.1 rfl (Nat.le_of_ble_eq_true rfl) ⟨Nat.zero_le _, Nat.zero_le _⟩ dX9_least_44 (fun b3 μ2 H locs hm hP hS => ?_)
  refine lv_istore (lv' := [(7, .int b3), (0, .ref (ad o)), (1, .int v1), (2, .int v2), (3, .int v3), (4, .int v4), (5, .int v5), (6, .int v6)]) hx hb dX9_least_47 hl (by decide) rfl (fun ls hl => ?_)
  refine lv_iload hx hb dX9_least_49 (lv_at hl 0 rfl) ?_
  refine lv_iload hx hb dX9_least_51 (lv_at hl 5 rfl) ?_
  refine b_icmp_ge (tgt := 61) S dX9_least_53 (by decide) hm (fun hm => ?_) (fun hm => ?_)
  · refine lv_iload hx hb dX9_least_61 (lv_at hl 5 rfl) ?_
    exact wX9_least_63 S hr hG ho hs15 v1 v2 v3 v5 v6 v4 μ2 hm H locs ls hP hS (lv_sub hl [1, 2, 3, 4, 6, 7] rfl)
  · refine lv_iload hx hb dX9_least_56 (lv_at hl 0 rfl) ?_
    refine lv_goto (tgt := 63) hx hb dX9_least_58 (by decide) ?_
    exact wX9_least_63 S hr hG ho hs15 v1 v2 v3 v5 v6 b3 μ2 hm H locs ls hP hS (lv_sub hl [1, 2, 3, 4, 6, 7] rfl)
set_option maxHeartbeats 4000000 in
set_option maxRecDepth 100000 in
theorem wX9_least_15 (S : CallFix p m c cX9_least 8 s args TB RX9) (hr : meth.sig.returnType = (some .int) ∧ meth.locks = false) (hG : gok D cI cR n K L ad s) {o : Nat} (ho : isk n K o 9) {x : Int32 × Mem} : ∀ (k : Nat) (v1 v2 v3 v4 v5 v6 : Int32) (μ : Mem), fX9_least_15 L o k v1 v2 v3 v4 v5 v6 μ = some x → WI p l e (rmL 2) s m args below meth c D cI cR n K L ad 8 x μ 15 [(0, .ref (ad o)), (1, .int v1), (2, .int v2), (3, .int v3), (4, .int v4), (5, .int v5), (6, .int v6)] [] := by
  have hx := S.1
  have hb := S.2.1
  intro k
  induction k with
  | zero => intro v1 v2 v3 v4 v5 v6 μ hm; exact absurd (show none = some x from hm) (fun h => by cases h)
  | succ k ih =>
    intro v1 v2 v3 v4 v5 v6 μ hm H locs ls hP hS hl
    have hm : fX9_least_15_b L o (fX9_least_15 L o k) v1 v2 v3 v4 v5 v6 μ = some x := hm
    unfold fX9_least_15_b at hm
    refine lv_iload hx hb dX9_least_15 (lv_at hl 6 rfl) ?_
    refine lv_iload hx hb dX9_least_17 (lv_at hl 5 rfl) ?_
    refine b_icmp_ge (tgt := 71) S dX9_least_19 (by decide) hm (fun hm => ?_) (fun hm => ?_)
    · refine lv_iload hx hb dX9_least_71 (lv_at hl 4 rfl) ?_
      refine lv_aload_n hx hb dX9_least_73 rfl (lv_at hl 0 rfl) ?_
      refine r_geti S hG hP ho clX9 fX9_7 kX9_62 dX9_least_74 ?_
      refine b_icmp_ge (tgt := 85) S dX9_least_77 (by decide) hm (fun hm => ?_) (fun hm => ?_)
      · refine lv_bipush (v := (-4 : Int32)) hx hb dX9_least_85 (by decide) ?_
        exact r_iret S hr hG hP hS hm dX9_least_87
      · refine lv_iload hx hb dX9_least_80 (lv_at hl 4 rfl) ?_
        refine lv_goto (tgt := 87) hx hb dX9_least_82 (by decide) ?_
        exact r_iret S hr hG hP hS hm dX9_least_87
    · refine lv_aload_n hx hb dX9_least_22 rfl (lv_at hl 0 rfl) ?_
      refine lv_iload hx hb dX9_least_23 (lv_at hl 6 rfl) ?_
      refine r_vcallv (As := [.int v6]) (rest := []) S hG hP hS mX9_takes kX9_218 clX9 ho (tX9_takes _ _ _ _ _ _ _ _ ho v6) ⟨rfl, rfl⟩ (rm_ok (by decide) (by decide)) hm hl.1 rfl (Nat.le_of_ble_eq_true rfl) ⟨Nat.zero_le _, Nat.zero_le _⟩ dX9_least_25 (fun μ4 H locs hm hP hS => ?_)
      refine lv_iload_n hx hb dX9_least_28 rfl (lv_at hl 1 rfl) ?_
      refine b_if_lt (tgt := 42) S dX9_least_29 (by decide) hm (fun hm => ?_) (fun hm => ?_)
      · exact wX9_least_42 S hr hG ho ih v1 v2 v3 v4 v5 v6 μ4 hm H locs ls hP hS (lv_sub hl [0, 1, 2, 3, 4, 5, 6] rfl)
      · refine lv_aload_n hx hb dX9_least_32 rfl (lv_at hl 0 rfl) ?_
        refine r_getr S hG hP ho clX9 fX9_24 kX9_52 dX9_least_33 ?_
        refine lv_iload_n hx hb dX9_least_36 rfl (lv_at hl 1 rfl) ?_
        refine r_iald S hG hP (chX9_24 hG ho) hm dX9_least_37 (fun a5 hm => ?_)
        refine lv_iload_n hx hb dX9_least_38 rfl (lv_at hl 2 rfl) ?_
        refine b_icmp_ne (tgt := 65) S dX9_least_39 (by decide) hm (fun hm => ?_) (fun hm => ?_)
        · exact wX9_least_65 S hr hG ho ih v1 v2 v3 v4 v5 v6 μ4 hm H locs ls hP hS (lv_sub hl [0, 1, 2, 3, 4, 5, 6] rfl)
        · exact wX9_least_42 S hr hG ho ih v1 v2 v3 v4 v5 v6 μ4 hm H locs ls hP hS (lv_sub hl [0, 1, 2, 3, 4, 5, 6] rfl)
set_option maxHeartbeats 4000000 in
set_option maxRecDepth 100000 in
theorem wX9_least_0 (S : CallFix p m c cX9_least 8 s args TB RX9) (hr : meth.sig.returnType = (some .int) ∧ meth.locks = false) (hG : gok D cI cR n K L ad s) {o : Nat} (ho : isk n K o 9) {x : Int32 × Mem} : ∀ (v1 v2 v3 : Int32) (μ : Mem), fX9_least L o v1 v2 v3 μ = some x → WI p l e (rmL 2) s m args below meth c D cI cR n K L ad 8 x μ 0 [(0, .ref (ad o)), (1, .int v1), (2, .int v2), (3, .int v3)] [] := by
  have hx := S.1
  have hb := S.2.1
  intro v1 v2 v3 μ hm H locs ls hP hS hl
  unfold fX9_least at hm
  refine lv_aload_n hx hb dX9_least_0 rfl (lv_at hl 0 rfl) ?_
  refine r_geti S hG hP ho clX9 fX9_7 kX9_62 dX9_least_1 ?_
  refine r_top hm (fun a6 hm => ?_)
  refine lv_istore (lv' := [(4, .int a6), (0, .ref (ad o)), (1, .int v1), (2, .int v2), (3, .int v3)]) hx hb dX9_least_4 hl (by decide) rfl (fun ls hl => ?_)
  refine lv_aload_n hx hb dX9_least_6 rfl (lv_at hl 1 rfl) ?_
  refine r_vcalli (As := []) (rest := []) S hG hP hS mX9_choices kX9_215 clX9 ho (tX9_choices _ _ _ _ _ _ _ _ ho) ⟨rfl, rfl⟩ (rm_ok (by decide) (by decide)) hm hl.1 rfl (Nat.le_of_ble_eq_true rfl) ⟨Nat.zero_le _, Nat.zero_le _⟩ dX9_least_7 (fun b8 μ7 H locs hm hP hS => ?_)
  refine lv_istore (lv' := [(5, .int b8), (4, .int a6), (0, .ref (ad o)), (1, .int v1), (2, .int v2), (3, .int v3)]) hx hb dX9_least_10 hl (by decide) rfl (fun ls hl => ?_)
  refine lv_iconst (v := (0 : Int32)) hx hb dX9_least_12 (by decide) ?_
  refine lv_istore (lv' := [(6, .int (0 : Int32)), (5, .int b8), (4, .int a6), (0, .ref (ad o)), (1, .int v1), (2, .int v2), (3, .int v3)]) hx hb dX9_least_13 hl (by decide) rfl (fun ls hl => ?_)
  exact wX9_least_15 S hr hG ho FU v1 v2 v3 a6 b8 (0 : Int32) μ7 hm H locs ls hP hS (lv_sub hl [3, 4, 5, 6, 2, 1, 0] rfl)
theorem tX9_least (l : Launch) (D : va_G) (cI cR : ClassId) (n : Nat) (K L ad : Nat → Nat) {o : Nat} (ho : isk n K o 9) (v1 : Int32) (v2 : Int32) (v3 : Int32) : Ci l yX9_least cX9_least 8 (some .int) (rmL 2) D cI cR n K L ad [.ref (ad o), .int v1, .int v2, .int v3] (fX9_least L o v1 v2 v3) := by
  refine Ci.ofW (by decide) (Nat.le_of_ble_eq_true rfl) ?_
  intro μ x hm p e s m args below meth c ls S hr hG hP hS hl
  exact wX9_least_0 S hr hG ho v1 v2 v3 μ hm _ _ ls hP hS hl
-- X9_with
set_option maxHeartbeats 4000000 in
set_option maxRecDepth 100000 in
theorem wX9_with_0 (S : CallFix p m c cX9_with 3 s args TB RX9) (hr : meth.sig.returnType = (some .int) ∧ meth.locks = false) (hG : gok D cI cR n K L ad s) {o : Nat} (ho : isk n K o 9) {x : Int32 × Mem} : ∀ (v1 v2 : Int32) (μ : Mem), fX9_with L o v1 v2 μ = some x → WI p l e (rmL 3) s m args below meth c D cI cR n K L ad 3 x μ 0 [(0, .ref (ad o)), (1, .int v1), (2, .int v2)] [] := by
  have hx := S.1
  have hb := S.2.1
  intro v1 v2 μ hm H locs ls hP hS hl
  unfold fX9_with at hm
  refine lv_aload_n hx hb dX9_with_0 rfl (lv_at hl 0 rfl) ?_
  refine lv_iload_n hx hb dX9_with_1 rfl (lv_at hl 1 rfl) ?_
  refine lv_iload_n hx hb dX9_with_2 rfl (lv_at hl 2 rfl) ?_
  refine r_vcalli (As := [.int v1, .int v2]) (rest := []) S hG hP hS mX9_isValue kX9_141 clX9 ho (tX9_isValue _ _ _ _ _ _ _ _ ho v1 v2) ⟨rfl, rfl⟩ (rm_ok (by decide) (by decide)) hm hl.1 rfl (Nat.le_of_ble_eq_true rfl) ⟨Nat.zero_le _, Nat.zero_le _⟩ dX9_with_3 (fun b2 μ1 H locs hm hP hS => ?_)
  refine b_if_eq (tgt := 20) S dX9_with_6 (by decide) hm (fun hm => ?_) (fun hm => ?_)
  · refine lv_iconst (v := (-1 : Int32)) hx hb dX9_with_20 (by decide) ?_
    exact r_iret S hr hG hP hS hm dX9_with_21
  · refine lv_aload_n hx hb dX9_with_9 rfl (lv_at hl 0 rfl) ?_
    refine lv_iload_n hx hb dX9_with_10 rfl (lv_at hl 1 rfl) ?_
    refine lv_iload_n hx hb dX9_with_11 rfl (lv_at hl 2 rfl) ?_
    refine lv_bipush (v := (-4 : Int32)) hx hb dX9_with_12 (by decide) ?_
    refine r_vcalli (As := [.int v1, .int v2, .int (-4 : Int32)]) (rest := []) S hG hP hS mX9_least kX9_227 clX9 ho (tX9_least _ _ _ _ _ _ _ _ ho v1 v2 (-4 : Int32)) ⟨rfl, rfl⟩ (rm_ok (by decide) (by decide)) hm hl.1 rfl (Nat.le_of_ble_eq_true rfl) ⟨Nat.zero_le _, Nat.zero_le _⟩ dX9_with_14 (fun b4 μ3 H locs hm hP hS => ?_)
    refine lv_goto (tgt := 21) hx hb dX9_with_17 (by decide) ?_
    exact r_iret S hr hG hP hS hm dX9_with_21
theorem tX9_with (l : Launch) (D : va_G) (cI cR : ClassId) (n : Nat) (K L ad : Nat → Nat) {o : Nat} (ho : isk n K o 9) (v1 : Int32) (v2 : Int32) : Ci l yX9_with cX9_with 3 (some .int) (rmL 3) D cI cR n K L ad [.ref (ad o), .int v1, .int v2] (fX9_with L o v1 v2) := by
  refine Ci.ofW (by decide) (Nat.le_of_ble_eq_true rfl) ?_
  intro μ x hm p e s m args below meth c ls S hr hG hP hS hl
  exact wX9_with_0 S hr hG ho v1 v2 μ hm _ _ ls hP hS hl
-- X9_without
set_option maxHeartbeats 4000000 in
set_option maxRecDepth 100000 in
theorem wX9_without_0 (S : CallFix p m c cX9_without 2 s args TB RX9) (hr : meth.sig.returnType = (some .int) ∧ meth.locks = false) (hG : gok D cI cR n K L ad s) {o : Nat} (ho : isk n K o 9) {x : Int32 × Mem} : ∀ (v1 : Int32) (μ : Mem), fX9_without L o v1 μ = some x → WI p l e (rmL 3) s m args below meth c D cI cR n K L ad 2 x μ 0 [(0, .ref (ad o)), (1, .int v1)] [] := by
  have hx := S.1
  have hb := S.2.1
  intro v1 μ hm H locs ls hP hS hl
  unfold fX9_without at hm
  refine lv_aload_n hx hb dX9_without_0 rfl (lv_at hl 0 rfl) ?_
  refine lv_iload_n hx hb dX9_without_1 rfl (lv_at hl 1 rfl) ?_
  refine r_vcalli (As := [.int v1]) (rest := []) S hG hP hS mX9_isTable kX9_144 clX9 ho (tX9_isTable _ _ _ _ _ _ _ _ ho v1) ⟨rfl, rfl⟩ (rm_ok (by decide) (by decide)) hm hl.1 rfl (Nat.le_of_ble_eq_true rfl) ⟨Nat.zero_le _, Nat.zero_le _⟩ dX9_without_2 (fun b2 μ1 H locs hm hP hS => ?_)
  refine b_if_eq (tgt := 19) S dX9_without_5 (by decide) hm (fun hm => ?_) (fun hm => ?_)
  · refine lv_iconst (v := (-1 : Int32)) hx hb dX9_without_19 (by decide) ?_
    exact r_iret S hr hG hP hS hm dX9_without_20
  · refine lv_aload_n hx hb dX9_without_8 rfl (lv_at hl 0 rfl) ?_
    refine lv_bipush (v := (-4 : Int32)) hx hb dX9_without_9 (by decide) ?_
    refine lv_iconst (v := (0 : Int32)) hx hb dX9_without_11 (by decide) ?_
    refine lv_iload_n hx hb dX9_without_12 rfl (lv_at hl 1 rfl) ?_
    refine r_vcalli (As := [.int (-4 : Int32), .int (0 : Int32), .int v1]) (rest := []) S hG hP hS mX9_least kX9_227 clX9 ho (tX9_least _ _ _ _ _ _ _ _ ho (-4 : Int32) (0 : Int32) v1) ⟨rfl, rfl⟩ (rm_ok (by decide) (by decide)) hm hl.1 rfl (Nat.le_of_ble_eq_true rfl) ⟨Nat.zero_le _, Nat.zero_le _⟩ dX9_without_13 (fun b4 μ3 H locs hm hP hS => ?_)
    refine lv_goto (tgt := 20) hx hb dX9_without_16 (by decide) ?_
    exact r_iret S hr hG hP hS hm dX9_without_20
theorem tX9_without (l : Launch) (D : va_G) (cI cR : ClassId) (n : Nat) (K L ad : Nat → Nat) {o : Nat} (ho : isk n K o 9) (v1 : Int32) : Ci l yX9_without cX9_without 2 (some .int) (rmL 3) D cI cR n K L ad [.ref (ad o), .int v1] (fX9_without L o v1) := by
  refine Ci.ofW (by decide) (Nat.le_of_ble_eq_true rfl) ?_
  intro μ x hm p e s m args below meth c ls S hr hG hP hS hl
  exact wX9_without_0 S hr hG ho v1 μ hm _ _ ls hP hS hl
-- X9_pairsWith
set_option maxHeartbeats 4000000 in
set_option maxRecDepth 100000 in
theorem wX9_pairsWith_114 (S : CallFix p m c cX9_pairsWith 7 s args TB RX9) (hr : meth.sig.returnType = (some .int) ∧ meth.locks = false) (hG : gok D cI cR n K L ad s) {o : Nat} (ho : isk n K o 9) {x : Int32 × Mem} {self6 : Int32 → Int32 → Int32 → Int32 → Int32 → Mem → Option (Int32 × Mem)} (hs6 : ∀ (v1 v2 v3 v4 v5 : Int32) (μ : Mem), self6 v1 v2 v3 v4 v5 μ = some x → WI p l e (rmL 1) s m args below meth c D cI cR n K L ad 7 x μ 6 [(0, .ref (ad o)), (1, .int v1), (2, .int v2), (3, .int v3), (4, .int v4), (5, .int v5)] []) : ∀ (v1 v2 v3 v4 v5 : Int32) (μ : Mem), fX9_pairsWith_114 L o self6 v1 v2 v3 v4 v5 μ = some x → WI p l e (rmL 1) s m args below meth c D cI cR n K L ad 7 x μ 114 [(0, .ref (ad o)), (1, .int v1), (2, .int v2), (3, .int v3), (4, .int v4), (5, .int v5)] [] := by
  have hx := S.1
  have hb := S.2.1
  intro v1 v2 v3 v4 v5 μ hm H locs ls hP hS hl
  unfold fX9_pairsWith_114 at hm
  refine r_iinc (b := (1 : Int32)) (k := 5) S hm dX9_pairsWith_114 hl rfl (by decide) (by decide) (fun a1 ls hm hl => ?_)
  have hl : lv_has ls 7 [(5, .int a1), (0, .ref (ad o)), (1, .int v1), (2, .int v2), (3, .int v3), (4, .int v4)] := hl
  refine lv_goto (tgt := 6) hx hb dX9_pairsWith_117 (by decide) ?_
  exact hs6 v1 v2 v3 v4 a1 μ hm H locs ls hP hS (lv_sub hl [1, 2, 3, 4, 5, 0] rfl)
set_option maxHeartbeats 4000000 in
set_option maxRecDepth 100000 in
theorem wX9_pairsWith_97 (S : CallFix p m c cX9_pairsWith 7 s args TB RX9) (hr : meth.sig.returnType = (some .int) ∧ meth.locks = false) (hG : gok D cI cR n K L ad s) {o : Nat} (ho : isk n K o 9) {x : Int32 × Mem} {self6 : Int32 → Int32 → Int32 → Int32 → Int32 → Mem → Option (Int32 × Mem)} (hs6 : ∀ (v1 v2 v3 v4 v5 : Int32) (μ : Mem), self6 v1 v2 v3 v4 v5 μ = some x → WI p l e (rmL 1) s m args below meth c D cI cR n K L ad 7 x μ 6 [(0, .ref (ad o)), (1, .int v1), (2, .int v2), (3, .int v3), (4, .int v4), (5, .int v5)] []) : ∀ (v1 v2 v3 v5 v6 s0 s1 s2 : Int32) (μ : Mem), fX9_pairsWith_97 L o self6 v1 v2 v3 v5 v6 s0 s1 s2 μ = some x → WI p l e (rmL 1) s m args below meth c D cI cR n K L ad 7 x μ 97 [(0, .ref (ad o)), (1, .int v1), (2, .int v2), (3, .int v3), (5, .int v5), (6, .int v6)] [.int s0, .int s1, .ref (ad (o + 6)), .int s2, .ref (ad o)] := by
  have hx := S.1
  have hb := S.2.1
  intro v1 v2 v3 v5 v6 s0 s1 s2 μ hm H locs ls hP hS hl
  unfold fX9_pairsWith_97 at hm
  refine lv_iload_n hx hb dX9_pairsWith_97 rfl (lv_at hl 2 rfl) ?_
  refine lv_aload_n hx hb dX9_pairsWith_98 rfl (lv_at hl 0 rfl) ?_
  refine r_getr S hG hP ho clX9 fX9_24 kX9_52 dX9_pairsWith_99 ?_
  refine lv_iload hx hb dX9_pairsWith_102 (lv_at hl 5 rfl) ?_
  refine r_iald S hG hP (chX9_24 hG ho) hm dX9_pairsWith_104 (fun a2 hm => ?_)
  refine r_scalli (As := [.int s1, .int s0, .int v2, .int a2]) (rest := [.ref (ad (o + 6)), .int s2, .ref (ad o)]) S hG hP hS mX9_pairAt kX9_150 (tX9_pairAt _ _ _ _ _ _ _ _ s1 s0 v2 a2) ⟨rfl, rfl⟩ (rm_ok (by decide) (by decide)) hm hl.1 rfl (Nat.le_of_ble_eq_true rfl) ⟨Nat.zero_le _, Nat.zero_le _⟩ dX9_pairsWith_105 (fun b4 μ3 H locs hm hP hS => ?_)
  refine r_iald S hG hP (chX9_9 hG ho) hm dX9_pairsWith_108 (fun a5 hm => ?_)
  refine r_vcalli (As := [.int s2, .int a5]) (rest := []) S hG hP hS mX9_sum kX9_125 clX9 ho (tX9_sum _ _ _ _ _ _ _ _ ho s2 a5) ⟨rfl, rfl⟩ (rm_ok (by decide) (by decide)) hm hl.1 rfl (Nat.le_of_ble_eq_true rfl) ⟨Nat.zero_le _, Nat.zero_le _⟩ dX9_pairsWith_109 (fun b7 μ6 H locs hm hP hS => ?_)
  refine lv_istore (lv' := [(4, .int b7), (0, .ref (ad o)), (1, .int v1), (2, .int v2), (3, .int v3), (5, .int v5), (6, .int v6)]) hx hb dX9_pairsWith_112 hl (by decide) rfl (fun ls hl => ?_)
  exact wX9_pairsWith_114 S hr hG ho hs6 v1 v2 v3 b7 v5 μ6 hm H locs ls hP hS (lv_sub hl [1, 2, 3, 4, 0, 5] rfl)
set_option maxHeartbeats 4000000 in
set_option maxRecDepth 100000 in
theorem wX9_pairsWith_59 (S : CallFix p m c cX9_pairsWith 7 s args TB RX9) (hr : meth.sig.returnType = (some .int) ∧ meth.locks = false) (hG : gok D cI cR n K L ad s) {o : Nat} (ho : isk n K o 9) {x : Int32 × Mem} {self6 : Int32 → Int32 → Int32 → Int32 → Int32 → Mem → Option (Int32 × Mem)} (hs6 : ∀ (v1 v2 v3 v4 v5 : Int32) (μ : Mem), self6 v1 v2 v3 v4 v5 μ = some x → WI p l e (rmL 1) s m args below meth c D cI cR n K L ad 7 x μ 6 [(0, .ref (ad o)), (1, .int v1), (2, .int v2), (3, .int v3), (4, .int v4), (5, .int v5)] []) : ∀ (v1 v2 v3 v4 v5 s0 : Int32) (μ : Mem), fX9_pairsWith_59 L o self6 v1 v2 v3 v4 v5 s0 μ = some x → WI p l e (rmL 1) s m args below meth c D cI cR n K L ad 7 x μ 59 [(0, .ref (ad o)), (1, .int v1), (2, .int v2), (3, .int v3), (4, .int v4), (5, .int v5)] [.int s0] := by
  have hx := S.1
  have hb := S.2.1
  intro v1 v2 v3 v4 v5 s0 μ hm H locs ls hP hS hl
  unfold fX9_pairsWith_59 at hm
  refine lv_istore (lv' := [(6, .int s0), (0, .ref (ad o)), (1, .int v1), (2, .int v2), (3, .int v3), (4, .int v4), (5, .int v5)]) hx hb dX9_pairsWith_59 hl (by decide) rfl (fun ls hl => ?_)
  refine lv_iload hx hb dX9_pairsWith_61 (lv_at hl 0 rfl) ?_
  refine b_if_lt (tgt := 114) S dX9_pairsWith_63 (by decide) hm (fun hm => ?_) (fun hm => ?_)
  · exact wX9_pairsWith_114 S hr hG ho hs6 v1 v2 v3 v4 v5 μ hm H locs ls hP hS (lv_sub hl [1, 2, 3, 4, 5, 6] rfl)
  · refine lv_iload hx hb dX9_pairsWith_66 (lv_at hl 0 rfl) ?_
    refine lv_iload_n hx hb dX9_pairsWith_68 rfl (lv_at hl 4 rfl) ?_
    refine b_icmp_gt (tgt := 114) S dX9_pairsWith_69 (by decide) hm (fun hm => ?_) (fun hm => ?_)
    · exact wX9_pairsWith_114 S hr hG ho hs6 v1 v2 v3 v4 v5 μ hm H locs ls hP hS (lv_sub hl [1, 2, 3, 4, 5, 6] rfl)
    · refine lv_aload_n hx hb dX9_pairsWith_72 rfl (lv_at hl 1 rfl) ?_
      refine lv_iload hx hb dX9_pairsWith_73 (lv_at hl 5 rfl) ?_
      refine lv_aload_n hx hb dX9_pairsWith_75 rfl (lv_at hl 1 rfl) ?_
      refine r_getr S hG hP ho clX9 fX9_9 kX9_25 dX9_pairsWith_76 ?_
      refine lv_iload hx hb dX9_pairsWith_79 (lv_at hl 6 rfl) ?_
      refine lv_aload_n hx hb dX9_pairsWith_81 rfl (lv_at hl 1 rfl) ?_
      refine r_getr S hG hP ho clX9 fX9_5 kX9_16 dX9_pairsWith_82 ?_
      refine lv_iload hx hb dX9_pairsWith_85 (lv_at hl 6 rfl) ?_
      refine r_iald S hG hP (chX9_5 hG ho) hm dX9_pairsWith_87 (fun a8 hm => ?_)
      refine lv_iload_n hx hb dX9_pairsWith_88 rfl (lv_at hl 2 rfl) ?_
      refine b_icmp_ne (tgt := 96) S dX9_pairsWith_89 (by decide) hm (fun hm => ?_) (fun hm => ?_)
      · refine lv_iconst (v := (1 : Int32)) hx hb dX9_pairsWith_96 (by decide) ?_
        exact wX9_pairsWith_97 S hr hG ho hs6 v1 v2 v3 v5 s0 (1 : Int32) v5 v4 μ hm H locs ls hP hS (lv_sub hl [1, 2, 3, 4, 6, 0] rfl)
      · refine lv_iconst (v := (0 : Int32)) hx hb dX9_pairsWith_92 (by decide) ?_
        refine lv_goto (tgt := 97) hx hb dX9_pairsWith_93 (by decide) ?_
        exact wX9_pairsWith_97 S hr hG ho hs6 v1 v2 v3 v5 s0 (0 : Int32) v5 v4 μ hm H locs ls hP hS (lv_sub hl [1, 2, 3, 4, 6, 0] rfl)
set_option maxHeartbeats 4000000 in
set_option maxRecDepth 100000 in
theorem wX9_pairsWith_6 (S : CallFix p m c cX9_pairsWith 7 s args TB RX9) (hr : meth.sig.returnType = (some .int) ∧ meth.locks = false) (hG : gok D cI cR n K L ad s) {o : Nat} (ho : isk n K o 9) {x : Int32 × Mem} : ∀ (k : Nat) (v1 v2 v3 v4 v5 : Int32) (μ : Mem), fX9_pairsWith_6 L o k v1 v2 v3 v4 v5 μ = some x → WI p l e (rmL 1) s m args below meth c D cI cR n K L ad 7 x μ 6 [(0, .ref (ad o)), (1, .int v1), (2, .int v2), (3, .int v3), (4, .int v4), (5, .int v5)] [] := by
  have hx := S.1
  have hb := S.2.1
  intro k
  induction k with
  | zero => intro v1 v2 v3 v4 v5 μ hm; exact absurd (show none = some x from hm) (fun h => by cases h)
  | succ k ih =>
    intro v1 v2 v3 v4 v5 μ hm H locs ls hP hS hl
    have hm : fX9_pairsWith_6_b L o (fX9_pairsWith_6 L o k) v1 v2 v3 v4 v5 μ = some x := hm
    unfold fX9_pairsWith_6_b at hm
    refine lv_iload hx hb dX9_pairsWith_6 (lv_at hl 5 rfl) ?_
    refine lv_aload_n hx hb dX9_pairsWith_8 rfl (lv_at hl 0 rfl) ?_
    refine r_geti S hG hP ho clX9 fX9_4 kX9_65 dX9_pairsWith_9 ?_
    refine b_icmp_ge (tgt := 120) S dX9_pairsWith_12 (by decide) hm (fun hm => ?_) (fun hm => ?_)
    · refine lv_iload hx hb dX9_pairsWith_120 (lv_at hl 4 rfl) ?_
      exact r_iret S hr hG hP hS hm dX9_pairsWith_122
    · refine lv_aload_n hx hb dX9_pairsWith_15 rfl (lv_at hl 0 rfl) ?_
      refine r_getr S hG hP ho clX9 fX9_5 kX9_16 dX9_pairsWith_16 ?_
      refine lv_iload hx hb dX9_pairsWith_19 (lv_at hl 5 rfl) ?_
      refine r_iald S hG hP (chX9_5 hG ho) hm dX9_pairsWith_21 (fun a9 hm => ?_)
      refine lv_iload_n hx hb dX9_pairsWith_22 rfl (lv_at hl 1 rfl) ?_
      refine b_icmp_ne (tgt := 36) S dX9_pairsWith_23 (by decide) hm (fun hm => ?_) (fun hm => ?_)
      · refine lv_aload_n hx hb dX9_pairsWith_36 rfl (lv_at hl 0 rfl) ?_
        refine r_getr S hG hP ho clX9 fX9_6 kX9_19 dX9_pairsWith_37 ?_
        refine lv_iload hx hb dX9_pairsWith_40 (lv_at hl 5 rfl) ?_
        refine r_iald S hG hP (chX9_6 hG ho) hm dX9_pairsWith_42 (fun a10 hm => ?_)
        refine lv_iload_n hx hb dX9_pairsWith_43 rfl (lv_at hl 1 rfl) ?_
        refine b_icmp_ne (tgt := 57) S dX9_pairsWith_44 (by decide) hm (fun hm => ?_) (fun hm => ?_)
        · refine lv_bipush (v := (-4 : Int32)) hx hb dX9_pairsWith_57 (by decide) ?_
          exact wX9_pairsWith_59 S hr hG ho ih v1 v2 v3 v4 v5 (-4 : Int32) μ hm H locs ls hP hS (lv_sub hl [0, 1, 2, 3, 4, 5] rfl)
        · refine lv_aload_n hx hb dX9_pairsWith_47 rfl (lv_at hl 0 rfl) ?_
          refine r_getr S hG hP ho clX9 fX9_5 kX9_16 dX9_pairsWith_48 ?_
          refine lv_iload hx hb dX9_pairsWith_51 (lv_at hl 5 rfl) ?_
          refine r_iald S hG hP (chX9_5 hG ho) hm dX9_pairsWith_53 (fun a11 hm => ?_)
          refine lv_goto (tgt := 59) hx hb dX9_pairsWith_54 (by decide) ?_
          exact wX9_pairsWith_59 S hr hG ho ih v1 v2 v3 v4 v5 a11 μ hm H locs ls hP hS (lv_sub hl [0, 1, 2, 3, 4, 5] rfl)
      · refine lv_aload_n hx hb dX9_pairsWith_26 rfl (lv_at hl 0 rfl) ?_
        refine r_getr S hG hP ho clX9 fX9_6 kX9_19 dX9_pairsWith_27 ?_
        refine lv_iload hx hb dX9_pairsWith_30 (lv_at hl 5 rfl) ?_
        refine r_iald S hG hP (chX9_6 hG ho) hm dX9_pairsWith_32 (fun a12 hm => ?_)
        refine lv_goto (tgt := 59) hx hb dX9_pairsWith_33 (by decide) ?_
        exact wX9_pairsWith_59 S hr hG ho ih v1 v2 v3 v4 v5 a12 μ hm H locs ls hP hS (lv_sub hl [0, 1, 2, 3, 4, 5] rfl)
set_option maxHeartbeats 4000000 in
set_option maxRecDepth 100000 in
theorem wX9_pairsWith_0 (S : CallFix p m c cX9_pairsWith 7 s args TB RX9) (hr : meth.sig.returnType = (some .int) ∧ meth.locks = false) (hG : gok D cI cR n K L ad s) {o : Nat} (ho : isk n K o 9) {x : Int32 × Mem} : ∀ (v1 v2 v3 : Int32) (μ : Mem), fX9_pairsWith L o v1 v2 v3 μ = some x → WI p l e (rmL 1) s m args below meth c D cI cR n K L ad 7 x μ 0 [(0, .ref (ad o)), (1, .int v1), (2, .int v2), (3, .int v3)] [] := by
  have hx := S.1
  have hb := S.2.1
  intro v1 v2 v3 μ hm H locs ls hP hS hl
  unfold fX9_pairsWith at hm
  refine lv_iconst (v := (0 : Int32)) hx hb dX9_pairsWith_0 (by decide) ?_
  refine lv_istore (lv' := [(4, .int (0 : Int32)), (0, .ref (ad o)), (1, .int v1), (2, .int v2), (3, .int v3)]) hx hb dX9_pairsWith_1 hl (by decide) rfl (fun ls hl => ?_)
  refine lv_iconst (v := (0 : Int32)) hx hb dX9_pairsWith_3 (by decide) ?_
  refine lv_istore (lv' := [(5, .int (0 : Int32)), (4, .int (0 : Int32)), (0, .ref (ad o)), (1, .int v1), (2, .int v2), (3, .int v3)]) hx hb dX9_pairsWith_4 hl (by decide) rfl (fun ls hl => ?_)
  exact wX9_pairsWith_6 S hr hG ho FU v1 v2 v3 (0 : Int32) (0 : Int32) μ hm H locs ls hP hS (lv_sub hl [2, 3, 4, 5, 1, 0] rfl)
theorem tX9_pairsWith (l : Launch) (D : va_G) (cI cR : ClassId) (n : Nat) (K L ad : Nat → Nat) {o : Nat} (ho : isk n K o 9) (v1 : Int32) (v2 : Int32) (v3 : Int32) : Ci l yX9_pairsWith cX9_pairsWith 7 (some .int) (rmL 1) D cI cR n K L ad [.ref (ad o), .int v1, .int v2, .int v3] (fX9_pairsWith L o v1 v2 v3) := by
  refine Ci.ofW (by decide) (Nat.le_of_ble_eq_true rfl) ?_
  intro μ x hm p e s m args below meth c ls S hr hG hP hS hl
  exact wX9_pairsWith_0 S hr hG ho v1 v2 v3 μ hm _ _ ls hP hS hl
-- X9_lowOf
set_option maxHeartbeats 4000000 in
set_option maxRecDepth 100000 in
theorem wX9_lowOf_141 (S : CallFix p m c cX9_lowOf 7 s args TB RX9) (hr : meth.sig.returnType = (some .int) ∧ meth.locks = false) (hG : gok D cI cR n K L ad s) {o : Nat} (ho : isk n K o 9) {x : Int32 × Mem} {self11 : Int32 → Int32 → Int32 → Mem → Option (Int32 × Mem)} (hs11 : ∀ (v1 v2 v3 : Int32) (μ : Mem), self11 v1 v2 v3 μ = some x → WI p l e (rmL 2) s m args below meth c D cI cR n K L ad 7 x μ 11 [(0, .ref (ad o)), (1, .int v1), (2, .int v2), (3, .int v3)] []) : ∀ (v1 v2 v3 : Int32) (μ : Mem), fX9_lowOf_141 L o self11 v1 v2 v3 μ = some x → WI p l e (rmL 2) s m args below meth c D cI cR n K L ad 7 x μ 141 [(0, .ref (ad o)), (1, .int v1), (2, .int v2), (3, .int v3)] [] := by
  have hx := S.1
  have hb := S.2.1
  intro v1 v2 v3 μ hm H locs ls hP hS hl
  unfold fX9_lowOf_141 at hm
  refine r_iinc (b := (1 : Int32)) (k := 3) S hm dX9_lowOf_141 hl rfl (by decide) (by decide) (fun a1 ls hm hl => ?_)
  have hl : lv_has ls 7 [(3, .int a1), (0, .ref (ad o)), (1, .int v1), (2, .int v2)] := hl
  refine lv_goto (tgt := 11) hx hb dX9_lowOf_144 (by decide) ?_
  exact hs11 v1 v2 a1 μ hm H locs ls hP hS (lv_sub hl [1, 2, 3, 0] rfl)
set_option maxHeartbeats 4000000 in
set_option maxRecDepth 100000 in
theorem wX9_lowOf_125 (S : CallFix p m c cX9_lowOf 7 s args TB RX9) (hr : meth.sig.returnType = (some .int) ∧ meth.locks = false) (hG : gok D cI cR n K L ad s) {o : Nat} (ho : isk n K o 9) {x : Int32 × Mem} {self75 : Int32 → Int32 → Int32 → Int32 → Int32 → Mem → Option (Int32 × Mem)} (hs75 : ∀ (v1 v2 v3 v4 v5 : Int32) (μ : Mem), self75 v1 v2 v3 v4 v5 μ = some x → WI p l e (rmL 2) s m args below meth c D cI cR n K L ad 7 x μ 75 [(0, .ref (ad o)), (1, .int v1), (2, .int v2), (3, .int v3), (4, .int v4), (5, .int v5)] []) : ∀ (v1 v2 v3 v5 s0 : Int32) (μ : Mem), fX9_lowOf_125 L o self75 v1 v2 v3 v5 s0 μ = some x → WI p l e (rmL 2) s m args below meth c D cI cR n K L ad 7 x μ 125 [(0, .ref (ad o)), (1, .int v1), (2, .int v2), (3, .int v3), (5, .int v5)] [.int s0] := by
  have hx := S.1
  have hb := S.2.1
  intro v1 v2 v3 v5 s0 μ hm H locs ls hP hS hl
  unfold fX9_lowOf_125 at hm
  refine lv_istore (lv' := [(4, .int s0), (0, .ref (ad o)), (1, .int v1), (2, .int v2), (3, .int v3), (5, .int v5)]) hx hb dX9_lowOf_125 hl (by decide) rfl (fun ls hl => ?_)
  refine r_iinc (b := (1 : Int32)) (k := 5) S hm dX9_lowOf_127 hl rfl (by decide) (by decide) (fun a2 ls hm hl => ?_)
  have hl : lv_has ls 7 [(5, .int a2), (4, .int s0), (0, .ref (ad o)), (1, .int v1), (2, .int v2), (3, .int v3)] := hl
  refine lv_goto (tgt := 75) hx hb dX9_lowOf_130 (by decide) ?_
  exact hs75 v1 v2 v3 s0 a2 μ hm H locs ls hP hS (lv_sub hl [2, 3, 4, 5, 1, 0] rfl)
set_option maxHeartbeats 4000000 in
set_option maxRecDepth 100000 in
theorem wX9_lowOf_75 (S : CallFix p m c cX9_lowOf 7 s args TB RX9) (hr : meth.sig.returnType = (some .int) ∧ meth.locks = false) (hG : gok D cI cR n K L ad s) {o : Nat} (ho : isk n K o 9) {x : Int32 × Mem} {self11 : Int32 → Int32 → Int32 → Mem → Option (Int32 × Mem)} (hs11 : ∀ (v1 v2 v3 : Int32) (μ : Mem), self11 v1 v2 v3 μ = some x → WI p l e (rmL 2) s m args below meth c D cI cR n K L ad 7 x μ 11 [(0, .ref (ad o)), (1, .int v1), (2, .int v2), (3, .int v3)] []) : ∀ (k : Nat) (v1 v2 v3 v4 v5 : Int32) (μ : Mem), fX9_lowOf_75 L o self11 k v1 v2 v3 v4 v5 μ = some x → WI p l e (rmL 2) s m args below meth c D cI cR n K L ad 7 x μ 75 [(0, .ref (ad o)), (1, .int v1), (2, .int v2), (3, .int v3), (4, .int v4), (5, .int v5)] [] := by
  have hx := S.1
  have hb := S.2.1
  intro k
  induction k with
  | zero => intro v1 v2 v3 v4 v5 μ hm; exact absurd (show none = some x from hm) (fun h => by cases h)
  | succ k ih =>
    intro v1 v2 v3 v4 v5 μ hm H locs ls hP hS hl
    have hm : fX9_lowOf_75_b L o self11 (fX9_lowOf_75 L o self11 k) v1 v2 v3 v4 v5 μ = some x := hm
    unfold fX9_lowOf_75_b at hm
    refine lv_iload hx hb dX9_lowOf_75 (lv_at hl 5 rfl) ?_
    refine lv_aload_n hx hb dX9_lowOf_77 rfl (lv_at hl 0 rfl) ?_
    refine r_getr S hG hP ho clX9 fX9_3 kX9_13 dX9_lowOf_78 ?_
    refine lv_iload_n hx hb dX9_lowOf_81 rfl (lv_at hl 3 rfl) ?_
    refine r_iald S hG hP (chX9_3 hG ho) hm dX9_lowOf_82 (fun a3 hm => ?_)
    refine b_icmp_ge (tgt := 133) S dX9_lowOf_83 (by decide) hm (fun hm => ?_) (fun hm => ?_)
    · refine lv_aload_n hx hb dX9_lowOf_133 rfl (lv_at hl 0 rfl) ?_
      refine lv_iload_n hx hb dX9_lowOf_134 rfl (lv_at hl 2 rfl) ?_
      refine lv_iload hx hb dX9_lowOf_135 (lv_at hl 4 rfl) ?_
      refine r_vcalli (As := [.int v2, .int v4]) (rest := []) S hG hP hS mX9_sum kX9_125 clX9 ho (tX9_sum _ _ _ _ _ _ _ _ ho v2 v4) ⟨rfl, rfl⟩ (rm_ok (by decide) (by decide)) hm hl.1 rfl (Nat.le_of_ble_eq_true rfl) ⟨Nat.zero_le _, Nat.zero_le _⟩ dX9_lowOf_137 (fun b5 μ4 H locs hm hP hS => ?_)
      refine lv_istore_n (lv' := [(2, .int b5), (0, .ref (ad o)), (1, .int v1), (3, .int v3), (4, .int v4), (5, .int v5)]) hx hb dX9_lowOf_140 rfl hl (by decide) rfl (fun ls hl => ?_)
      exact wX9_lowOf_141 S hr hG ho hs11 v1 b5 v3 μ4 hm H locs ls hP hS (lv_sub hl [1, 2, 0, 3] rfl)
    · refine lv_aload_n hx hb dX9_lowOf_86 rfl (lv_at hl 0 rfl) ?_
      refine lv_aload_n hx hb dX9_lowOf_87 rfl (lv_at hl 0 rfl) ?_
      refine r_getr S hG hP ho clX9 fX9_9 kX9_25 dX9_lowOf_88 ?_
      refine lv_iconst (v := (4 : Int32)) hx hb dX9_lowOf_91 (by decide) ?_
      refine lv_iload_n hx hb dX9_lowOf_92 rfl (lv_at hl 3 rfl) ?_
      refine lv_imul hx hb dX9_lowOf_93 ?_
      refine lv_iload hx hb dX9_lowOf_94 (lv_at hl 5 rfl) ?_
      refine lv_iadd hx hb dX9_lowOf_96 ?_
      refine r_iald S hG hP (chX9_9 hG ho) hm dX9_lowOf_97 (fun a6 hm => ?_)
      refine lv_aload_n hx hb dX9_lowOf_98 rfl (lv_at hl 0 rfl) ?_
      refine lv_iload_n hx hb dX9_lowOf_99 rfl (lv_at hl 3 rfl) ?_
      refine lv_iload hx hb dX9_lowOf_100 (lv_at hl 5 rfl) ?_
      refine lv_iload_n hx hb dX9_lowOf_102 rfl (lv_at hl 1 rfl) ?_
      refine r_vcalli (As := [.int v3, .int v5, .int v1]) (rest := [.int a6, .ref (ad o)]) S hG hP hS mX9_pairsWith kX9_230 clX9 ho (tX9_pairsWith _ _ _ _ _ _ _ _ ho v3 v5 v1) ⟨rfl, rfl⟩ (rm_ok (by decide) (by decide)) hm hl.1 rfl (Nat.le_of_ble_eq_true rfl) ⟨Nat.zero_le _, Nat.zero_le _⟩ dX9_lowOf_103 (fun b8 μ7 H locs hm hP hS => ?_)
      refine r_vcalli (As := [.int a6, .int b8]) (rest := []) S hG hP hS mX9_sum kX9_125 clX9 ho (tX9_sum _ _ _ _ _ _ _ _ ho a6 b8) ⟨rfl, rfl⟩ (rm_ok (by decide) (by decide)) hm hl.1 rfl (Nat.le_of_ble_eq_true rfl) ⟨Nat.zero_le _, Nat.zero_le _⟩ dX9_lowOf_106 (fun b10 μ9 H locs hm hP hS => ?_)
      refine lv_istore (lv' := [(6, .int b10), (0, .ref (ad o)), (1, .int v1), (2, .int v2), (3, .int v3), (4, .int v4), (5, .int v5)]) hx hb dX9_lowOf_109 hl (by decide) rfl (fun ls hl => ?_)
      refine lv_iload hx hb dX9_lowOf_111 (lv_at hl 0 rfl) ?_
      refine lv_iload hx hb dX9_lowOf_113 (lv_at hl 5 rfl) ?_
      refine b_icmp_ge (tgt := 123) S dX9_lowOf_115 (by decide) hm (fun hm => ?_) (fun hm => ?_)
      · refine lv_iload hx hb dX9_lowOf_123 (lv_at hl 5 rfl) ?_
        exact wX9_lowOf_125 S hr hG ho ih v1 v2 v3 v5 v4 μ9 hm H locs ls hP hS (lv_sub hl [1, 2, 3, 4, 6] rfl)
      · refine lv_iload hx hb dX9_lowOf_118 (lv_at hl 0 rfl) ?_
        refine lv_goto (tgt := 125) hx hb dX9_lowOf_120 (by decide) ?_
        exact wX9_lowOf_125 S hr hG ho ih v1 v2 v3 v5 b10 μ9 hm H locs ls hP hS (lv_sub hl [1, 2, 3, 4, 6] rfl)
set_option maxHeartbeats 4000000 in
set_option maxRecDepth 100000 in
theorem wX9_lowOf_11 (S : CallFix p m c cX9_lowOf 7 s args TB RX9) (hr : meth.sig.returnType = (some .int) ∧ meth.locks = false) (hG : gok D cI cR n K L ad s) {o : Nat} (ho : isk n K o 9) {x : Int32 × Mem} : ∀ (k : Nat) (v1 v2 v3 : Int32) (μ : Mem), fX9_lowOf_11 L o k v1 v2 v3 μ = some x → WI p l e (rmL 2) s m args below meth c D cI cR n K L ad 7 x μ 11 [(0, .ref (ad o)), (1, .int v1), (2, .int v2), (3, .int v3)] [] := by
  have hx := S.1
  have hb := S.2.1
  intro k
  induction k with
  | zero => intro v1 v2 v3 μ hm; exact absurd (show none = some x from hm) (fun h => by cases h)
  | succ k ih =>
    intro v1 v2 v3 μ hm H locs ls hP hS hl
    have hm : fX9_lowOf_11_b L o (fX9_lowOf_11 L o k) v1 v2 v3 μ = some x := hm
    unfold fX9_lowOf_11_b at hm
    refine lv_iload_n hx hb dX9_lowOf_11 rfl (lv_at hl 3 rfl) ?_
    refine lv_aload_n hx hb dX9_lowOf_12 rfl (lv_at hl 0 rfl) ?_
    refine r_geti S hG hP ho clX9 fX9_2 kX9_58 dX9_lowOf_13 ?_
    refine b_icmp_ge (tgt := 147) S dX9_lowOf_16 (by decide) hm (fun hm => ?_) (fun hm => ?_)
    · refine lv_iload_n hx hb dX9_lowOf_147 rfl (lv_at hl 2 rfl) ?_
      exact r_iret S hr hG hP hS hm dX9_lowOf_148
    · refine lv_iload_n hx hb dX9_lowOf_19 rfl (lv_at hl 3 rfl) ?_
      refine lv_iload_n hx hb dX9_lowOf_20 rfl (lv_at hl 1 rfl) ?_
      refine b_icmp_gt (tgt := 66) S dX9_lowOf_21 (by decide) hm (fun hm => ?_) (fun hm => ?_)
      · refine lv_aload_n hx hb dX9_lowOf_66 rfl (lv_at hl 0 rfl) ?_
        refine r_geti S hG hP ho clX9 fX9_7 kX9_62 dX9_lowOf_67 ?_
        refine r_top hm (fun a11 hm => ?_)
        refine lv_istore (lv' := [(4, .int a11), (0, .ref (ad o)), (1, .int v1), (2, .int v2), (3, .int v3)]) hx hb dX9_lowOf_70 hl (by decide) rfl (fun ls hl => ?_)
        refine lv_iconst (v := (0 : Int32)) hx hb dX9_lowOf_72 (by decide) ?_
        refine lv_istore (lv' := [(5, .int (0 : Int32)), (4, .int a11), (0, .ref (ad o)), (1, .int v1), (2, .int v2), (3, .int v3)]) hx hb dX9_lowOf_73 hl (by decide) rfl (fun ls hl => ?_)
        exact wX9_lowOf_75 S hr hG ho ih FU v1 v2 v3 a11 (0 : Int32) μ hm H locs ls hP hS (lv_sub hl [2, 3, 4, 5, 1, 0] rfl)
      · refine lv_aload_n hx hb dX9_lowOf_24 rfl (lv_at hl 0 rfl) ?_
        refine lv_iload_n hx hb dX9_lowOf_25 rfl (lv_at hl 2 rfl) ?_
        refine lv_aload_n hx hb dX9_lowOf_26 rfl (lv_at hl 0 rfl) ?_
        refine lv_aload_n hx hb dX9_lowOf_27 rfl (lv_at hl 0 rfl) ?_
        refine r_getr S hG hP ho clX9 fX9_9 kX9_25 dX9_lowOf_28 ?_
        refine lv_iconst (v := (4 : Int32)) hx hb dX9_lowOf_31 (by decide) ?_
        refine lv_iload_n hx hb dX9_lowOf_32 rfl (lv_at hl 3 rfl) ?_
        refine lv_imul hx hb dX9_lowOf_33 ?_
        refine lv_aload_n hx hb dX9_lowOf_34 rfl (lv_at hl 0 rfl) ?_
        refine r_getr S hG hP ho clX9 fX9_24 kX9_52 dX9_lowOf_35 ?_
        refine lv_iload_n hx hb dX9_lowOf_38 rfl (lv_at hl 3 rfl) ?_
        refine r_iald S hG hP (chX9_24 hG ho) hm dX9_lowOf_39 (fun a12 hm => ?_)
        refine lv_iadd hx hb dX9_lowOf_40 ?_
        refine r_iald S hG hP (chX9_9 hG ho) hm dX9_lowOf_41 (fun a13 hm => ?_)
        refine lv_aload_n hx hb dX9_lowOf_42 rfl (lv_at hl 0 rfl) ?_
        refine lv_iload_n hx hb dX9_lowOf_43 rfl (lv_at hl 3 rfl) ?_
        refine lv_aload_n hx hb dX9_lowOf_44 rfl (lv_at hl 0 rfl) ?_
        refine r_getr S hG hP ho clX9 fX9_24 kX9_52 dX9_lowOf_45 ?_
        refine lv_iload_n hx hb dX9_lowOf_48 rfl (lv_at hl 3 rfl) ?_
        refine r_iald S hG hP (chX9_24 hG ho) hm dX9_lowOf_49 (fun a14 hm => ?_)
        refine lv_iload_n hx hb dX9_lowOf_50 rfl (lv_at hl 3 rfl) ?_
        refine lv_iconst (v := (1 : Int32)) hx hb dX9_lowOf_51 (by decide) ?_
        refine lv_isub hx hb dX9_lowOf_52 ?_
        refine r_vcalli (As := [.int v3, .int a14, .int (v3 - (1 : Int32))]) (rest := [.int a13, .ref (ad o), .int v2, .ref (ad o)]) S hG hP hS mX9_pairsWith kX9_230 clX9 ho (tX9_pairsWith _ _ _ _ _ _ _ _ ho v3 a14 (v3 - (1 : Int32))) ⟨rfl, rfl⟩ (rm_ok (by decide) (by decide)) hm hl.1 rfl (Nat.le_of_ble_eq_true rfl) ⟨Nat.zero_le _, Nat.zero_le _⟩ dX9_lowOf_53 (fun b16 μ15 H locs hm hP hS => ?_)
        refine r_vcalli (As := [.int a13, .int b16]) (rest := [.int v2, .ref (ad o)]) S hG hP hS mX9_sum kX9_125 clX9 ho (tX9_sum _ _ _ _ _ _ _ _ ho a13 b16) ⟨rfl, rfl⟩ (rm_ok (by decide) (by decide)) hm hl.1 rfl (Nat.le_of_ble_eq_true rfl) ⟨Nat.zero_le _, Nat.zero_le _⟩ dX9_lowOf_56 (fun b18 μ17 H locs hm hP hS => ?_)
        refine r_vcalli (As := [.int v2, .int b18]) (rest := []) S hG hP hS mX9_sum kX9_125 clX9 ho (tX9_sum _ _ _ _ _ _ _ _ ho v2 b18) ⟨rfl, rfl⟩ (rm_ok (by decide) (by decide)) hm hl.1 rfl (Nat.le_of_ble_eq_true rfl) ⟨Nat.zero_le _, Nat.zero_le _⟩ dX9_lowOf_59 (fun b20 μ19 H locs hm hP hS => ?_)
        refine lv_istore_n (lv' := [(2, .int b20), (0, .ref (ad o)), (1, .int v1), (3, .int v3)]) hx hb dX9_lowOf_62 rfl hl (by decide) rfl (fun ls hl => ?_)
        refine lv_goto (tgt := 141) hx hb dX9_lowOf_63 (by decide) ?_
        exact wX9_lowOf_141 S hr hG ho ih v1 b20 v3 μ19 hm H locs ls hP hS (lv_sub hl [1, 2, 0, 3] rfl)
set_option maxHeartbeats 4000000 in
set_option maxRecDepth 100000 in
theorem wX9_lowOf_0 (S : CallFix p m c cX9_lowOf 7 s args TB RX9) (hr : meth.sig.returnType = (some .int) ∧ meth.locks = false) (hG : gok D cI cR n K L ad s) {o : Nat} (ho : isk n K o 9) {x : Int32 × Mem} : ∀ (v1 : Int32) (μ : Mem), fX9_lowOf L o v1 μ = some x → WI p l e (rmL 2) s m args below meth c D cI cR n K L ad 7 x μ 0 [(0, .ref (ad o)), (1, .int v1)] [] := by
  have hx := S.1
  have hb := S.2.1
  intro v1 μ hm H locs ls hP hS hl
  unfold fX9_lowOf at hm
  refine lv_aload_n hx hb dX9_lowOf_0 rfl (lv_at hl 0 rfl) ?_
  refine r_getr S hG hP ho clX9 fX9_9 kX9_25 dX9_lowOf_1 ?_
  refine lv_sipush (v := (168 : Int32)) hx hb dX9_lowOf_4 (by decide) ?_
  refine r_iald S hG hP (chX9_9 hG ho) hm dX9_lowOf_7 (fun a21 hm => ?_)
  refine lv_istore_n (lv' := [(2, .int a21), (0, .ref (ad o)), (1, .int v1)]) hx hb dX9_lowOf_8 rfl hl (by decide) rfl (fun ls hl => ?_)
  refine lv_iconst (v := (0 : Int32)) hx hb dX9_lowOf_9 (by decide) ?_
  refine lv_istore_n (lv' := [(3, .int (0 : Int32)), (2, .int a21), (0, .ref (ad o)), (1, .int v1)]) hx hb dX9_lowOf_10 rfl hl (by decide) rfl (fun ls hl => ?_)
  exact wX9_lowOf_11 S hr hG ho FU v1 a21 (0 : Int32) μ hm H locs ls hP hS (lv_sub hl [2, 3, 1, 0] rfl)
theorem tX9_lowOf (l : Launch) (D : va_G) (cI cR : ClassId) (n : Nat) (K L ad : Nat → Nat) {o : Nat} (ho : isk n K o 9) (v1 : Int32) : Ci l yX9_lowOf cX9_lowOf 7 (some .int) (rmL 2) D cI cR n K L ad [.ref (ad o), .int v1] (fX9_lowOf L o v1) := by
  refine Ci.ofW (by decide) (Nat.le_of_ble_eq_true rfl) ?_
  intro μ x hm p e s m args below meth c ls S hr hG hP hS hl
  exact wX9_lowOf_0 S hr hG ho v1 μ hm _ _ ls hP hS hl
-- X9_tries
set_option maxHeartbeats 4000000 in
set_option maxRecDepth 100000 in
theorem wX9_tries_99 (S : CallFix p m c cX9_tries 5 s args TB RX9) (hr : meth.sig.returnType = (some .int) ∧ meth.locks = false) (hG : gok D cI cR n K L ad s) {o : Nat} (ho : isk n K o 9) {x : Int32 × Mem} {self16 : Int32 → Int32 → Int32 → Mem → Option (Int32 × Mem)} (hs16 : ∀ (v1 v2 v3 : Int32) (μ : Mem), self16 v1 v2 v3 μ = some x → WI p l e (rmL 3) s m args below meth c D cI cR n K L ad 5 x μ 16 [(0, .ref (ad o)), (1, .int v1), (2, .int v2), (3, .int v3)] []) : ∀ (v1 v2 v3 : Int32) (μ : Mem), fX9_tries_99 L o self16 v1 v2 v3 μ = some x → WI p l e (rmL 3) s m args below meth c D cI cR n K L ad 5 x μ 99 [(0, .ref (ad o)), (1, .int v1), (2, .int v2), (3, .int v3)] [] := by
  have hx := S.1
  have hb := S.2.1
  intro v1 v2 v3 μ hm H locs ls hP hS hl
  unfold fX9_tries_99 at hm
  refine lv_goto (tgt := 16) hx hb dX9_tries_99 (by decide) ?_
  exact hs16 v1 v2 v3 μ hm H locs ls hP hS (lv_sub hl [0, 1, 2, 3] rfl)
set_option maxHeartbeats 4000000 in
set_option maxRecDepth 100000 in
theorem wX9_tries_83 (S : CallFix p m c cX9_tries 5 s args TB RX9) (hr : meth.sig.returnType = (some .int) ∧ meth.locks = false) (hG : gok D cI cR n K L ad s) {o : Nat} (ho : isk n K o 9) {x : Int32 × Mem} {self16 : Int32 → Int32 → Int32 → Mem → Option (Int32 × Mem)} (hs16 : ∀ (v1 v2 v3 : Int32) (μ : Mem), self16 v1 v2 v3 μ = some x → WI p l e (rmL 3) s m args below meth c D cI cR n K L ad 5 x μ 16 [(0, .ref (ad o)), (1, .int v1), (2, .int v2), (3, .int v3)] []) : ∀ (v1 v2 v3 v4 : Int32) (μ : Mem), fX9_tries_83 L o self16 v1 v2 v3 v4 μ = some x → WI p l e (rmL 3) s m args below meth c D cI cR n K L ad 5 x μ 83 [(0, .ref (ad o)), (1, .int v1), (2, .int v2), (3, .int v3), (4, .int v4)] [] := by
  have hx := S.1
  have hb := S.2.1
  intro v1 v2 v3 v4 μ hm H locs ls hP hS hl
  unfold fX9_tries_83 at hm
  refine lv_iload hx hb dX9_tries_83 (lv_at hl 4 rfl) ?_
  refine lv_iload_n hx hb dX9_tries_85 rfl (lv_at hl 2 rfl) ?_
  refine b_icmp_ge (tgt := 99) S dX9_tries_86 (by decide) hm (fun hm => ?_) (fun hm => ?_)
  · exact wX9_tries_99 S hr hG ho hs16 v1 v2 v3 μ hm H locs ls hP hS (lv_sub hl [0, 1, 2, 3] rfl)
  · refine r_iinc (b := (1 : Int32)) (k := 3) S hm dX9_tries_89 hl rfl (by decide) (by decide) (fun a1 ls hm hl => ?_)
    have hl : lv_has ls 5 [(3, .int a1), (0, .ref (ad o)), (1, .int v1), (2, .int v2), (4, .int v4)] := hl
    refine lv_aload_n hx hb dX9_tries_92 rfl (lv_at hl 1 rfl) ?_
    refine r_getr S hG hP ho clX9 fX9_24 kX9_52 dX9_tries_93 ?_
    refine lv_iload_n hx hb dX9_tries_96 rfl (lv_at hl 0 rfl) ?_
    refine lv_iconst (v := (-1 : Int32)) hx hb dX9_tries_97 (by decide) ?_
    refine r_iast S hG hP hS (chX9_24 hG ho) hm dX9_tries_98 (fun μ2 H locs hm hP hS => ?_)
    exact wX9_tries_99 S hr hG ho hs16 v1 v2 a1 μ2 hm H locs ls hP hS (lv_sub hl [1, 2, 3, 0] rfl)
set_option maxHeartbeats 4000000 in
set_option maxRecDepth 100000 in
theorem wX9_tries_16 (S : CallFix p m c cX9_tries 5 s args TB RX9) (hr : meth.sig.returnType = (some .int) ∧ meth.locks = false) (hG : gok D cI cR n K L ad s) {o : Nat} (ho : isk n K o 9) {x : Int32 × Mem} : ∀ (k : Nat) (v1 v2 v3 : Int32) (μ : Mem), fX9_tries_16 L o k v1 v2 v3 μ = some x → WI p l e (rmL 3) s m args below meth c D cI cR n K L ad 5 x μ 16 [(0, .ref (ad o)), (1, .int v1), (2, .int v2), (3, .int v3)] [] := by
  have hx := S.1
  have hb := S.2.1
  intro k
  induction k with
  | zero => intro v1 v2 v3 μ hm; exact absurd (show none = some x from hm) (fun h => by cases h)
  | succ k ih =>
    intro v1 v2 v3 μ hm H locs ls hP hS hl
    have hm : fX9_tries_16_b L o (fX9_tries_16 L o k) v1 v2 v3 μ = some x := hm
    unfold fX9_tries_16_b at hm
    refine lv_iload_n hx hb dX9_tries_16 rfl (lv_at hl 3 rfl) ?_
    refine b_if_lt (tgt := 102) S dX9_tries_17 (by decide) hm (fun hm => ?_) (fun hm => ?_)
    · refine lv_iload_n hx hb dX9_tries_102 rfl (lv_at hl 1 rfl) ?_
      exact r_iret S hr hG hP hS hm dX9_tries_103
    · refine lv_aload_n hx hb dX9_tries_20 rfl (lv_at hl 0 rfl) ?_
      refine r_getr S hG hP ho clX9 fX9_24 kX9_52 dX9_tries_21 ?_
      refine lv_iload_n hx hb dX9_tries_24 rfl (lv_at hl 3 rfl) ?_
      refine lv_dup2_11 hx hb dX9_tries_25 rfl rfl ?_
      refine r_iald S hG hP (chX9_24 hG ho) hm dX9_tries_26 (fun a3 hm => ?_)
      refine lv_iconst (v := (1 : Int32)) hx hb dX9_tries_27 (by decide) ?_
      refine lv_iadd hx hb dX9_tries_28 ?_
      refine r_iast S hG hP hS (chX9_24 hG ho) hm dX9_tries_29 (fun μ4 H locs hm hP hS => ?_)
      refine lv_aload_n hx hb dX9_tries_30 rfl (lv_at hl 0 rfl) ?_
      refine r_getr S hG hP ho clX9 fX9_24 kX9_52 dX9_tries_31 ?_
      refine lv_iload_n hx hb dX9_tries_34 rfl (lv_at hl 3 rfl) ?_
      refine r_iald S hG hP (chX9_24 hG ho) hm dX9_tries_35 (fun a5 hm => ?_)
      refine lv_aload_n hx hb dX9_tries_36 rfl (lv_at hl 0 rfl) ?_
      refine r_getr S hG hP ho clX9 fX9_3 kX9_13 dX9_tries_37 ?_
      refine lv_iload_n hx hb dX9_tries_40 rfl (lv_at hl 3 rfl) ?_
      refine r_iald S hG hP (chX9_3 hG ho) hm dX9_tries_41 (fun a6 hm => ?_)
      refine b_icmp_ne (tgt := 51) S dX9_tries_42 (by decide) hm (fun hm => ?_) (fun hm => ?_)
      · refine r_iinc (b := (1 : Int32)) (k := 1) S hm dX9_tries_51 hl rfl (by decide) (by decide) (fun a7 ls hm hl => ?_)
        have hl : lv_has ls 5 [(1, .int a7), (0, .ref (ad o)), (2, .int v2), (3, .int v3)] := hl
        refine lv_aload_n hx hb dX9_tries_54 rfl (lv_at hl 1 rfl) ?_
        refine lv_iload_n hx hb dX9_tries_55 rfl (lv_at hl 3 rfl) ?_
        refine r_vcalli (As := [.int v3]) (rest := []) S hG hP hS mX9_lowOf kX9_233 clX9 ho (tX9_lowOf _ _ _ _ _ _ _ _ ho v3) ⟨rfl, rfl⟩ (rm_ok (by decide) (by decide)) hm hl.1 rfl (Nat.le_of_ble_eq_true rfl) ⟨Nat.zero_le _, Nat.zero_le _⟩ dX9_tries_56 (fun b9 μ8 H locs hm hP hS => ?_)
        refine lv_istore (lv' := [(4, .int b9), (1, .int a7), (0, .ref (ad o)), (2, .int v2), (3, .int v3)]) hx hb dX9_tries_59 hl (by decide) rfl (fun ls hl => ?_)
        refine lv_iload hx hb dX9_tries_61 (lv_at hl 0 rfl) ?_
        refine lv_iload_n hx hb dX9_tries_63 rfl (lv_at hl 3 rfl) ?_
        refine b_icmp_ge (tgt := 83) S dX9_tries_64 (by decide) hm (fun hm => ?_) (fun hm => ?_)
        · exact wX9_tries_83 S hr hG ho ih a7 v2 v3 b9 μ8 hm H locs ls hP hS (lv_sub hl [2, 1, 3, 4, 0] rfl)
        · refine lv_iload_n hx hb dX9_tries_67 rfl (lv_at hl 4 rfl) ?_
          refine lv_iconst (v := (1 : Int32)) hx hb dX9_tries_68 (by decide) ?_
          refine lv_iadd hx hb dX9_tries_69 ?_
          refine lv_aload_n hx hb dX9_tries_70 rfl (lv_at hl 2 rfl) ?_
          refine r_geti S hG hP ho clX9 fX9_2 kX9_58 dX9_tries_71 ?_
          refine b_icmp_ne (tgt := 83) S dX9_tries_74 (by decide) hm (fun hm => ?_) (fun hm => ?_)
          · exact wX9_tries_83 S hr hG ho ih a7 v2 v3 b9 μ8 hm H locs ls hP hS (lv_sub hl [2, 1, 3, 4, 0] rfl)
          · refine lv_iload hx hb dX9_tries_77 (lv_at hl 0 rfl) ?_
            refine lv_istore_n (lv' := [(2, .int b9), (4, .int b9), (1, .int a7), (0, .ref (ad o)), (3, .int v3)]) hx hb dX9_tries_79 rfl hl (by decide) rfl (fun ls hl => ?_)
            refine lv_goto (tgt := 99) hx hb dX9_tries_80 (by decide) ?_
            exact wX9_tries_99 S hr hG ho ih a7 b9 v3 μ8 hm H locs ls hP hS (lv_sub hl [3, 2, 0, 4] rfl)
      · refine r_iinc (b := (-1 : Int32)) (k := 3) S hm dX9_tries_45 hl rfl (by decide) (by decide) (fun a10 ls hm hl => ?_)
        have hl : lv_has ls 5 [(3, .int a10), (0, .ref (ad o)), (1, .int v1), (2, .int v2)] := hl
        refine lv_goto (tgt := 16) hx hb dX9_tries_48 (by decide) ?_
        exact ih v1 v2 a10 μ4 hm H locs ls hP hS (lv_sub hl [1, 2, 3, 0] rfl)
set_option maxHeartbeats 4000000 in
set_option maxRecDepth 100000 in
theorem wX9_tries_0 (S : CallFix p m c cX9_tries 5 s args TB RX9) (hr : meth.sig.returnType = (some .int) ∧ meth.locks = false) (hG : gok D cI cR n K L ad s) {o : Nat} (ho : isk n K o 9) {x : Int32 × Mem} : ∀ (μ : Mem), fX9_tries L o μ = some x → WI p l e (rmL 3) s m args below meth c D cI cR n K L ad 5 x μ 0 [(0, .ref (ad o))] [] := by
  have hx := S.1
  have hb := S.2.1
  intro μ hm H locs ls hP hS hl
  unfold fX9_tries at hm
  refine lv_iconst (v := (0 : Int32)) hx hb dX9_tries_0 (by decide) ?_
  refine lv_istore_n (lv' := [(1, .int (0 : Int32)), (0, .ref (ad o))]) hx hb dX9_tries_1 rfl hl (by decide) rfl (fun ls hl => ?_)
  refine lv_aload_n hx hb dX9_tries_2 rfl (lv_at hl 1 rfl) ?_
  refine r_geti S hG hP ho clX9 fX9_7 kX9_62 dX9_tries_3 ?_
  refine r_top hm (fun a11 hm => ?_)
  refine lv_istore_n (lv' := [(2, .int a11), (1, .int (0 : Int32)), (0, .ref (ad o))]) hx hb dX9_tries_6 rfl hl (by decide) rfl (fun ls hl => ?_)
  refine lv_iconst (v := (0 : Int32)) hx hb dX9_tries_7 (by decide) ?_
  refine lv_istore_n (lv' := [(3, .int (0 : Int32)), (2, .int a11), (1, .int (0 : Int32)), (0, .ref (ad o))]) hx hb dX9_tries_8 rfl hl (by decide) rfl (fun ls hl => ?_)
  refine lv_aload_n hx hb dX9_tries_9 rfl (lv_at hl 3 rfl) ?_
  refine r_getr S hG hP ho clX9 fX9_24 kX9_52 dX9_tries_10 ?_
  refine lv_iconst (v := (0 : Int32)) hx hb dX9_tries_13 (by decide) ?_
  refine lv_iconst (v := (-1 : Int32)) hx hb dX9_tries_14 (by decide) ?_
  refine r_iast S hG hP hS (chX9_24 hG ho) hm dX9_tries_15 (fun μ12 H locs hm hP hS => ?_)
  exact wX9_tries_16 S hr hG ho FU (0 : Int32) a11 (0 : Int32) μ12 hm H locs ls hP hS (lv_sub hl [3, 2, 1, 0] rfl)
theorem tX9_tries (l : Launch) (D : va_G) (cI cR : ClassId) (n : Nat) (K L ad : Nat → Nat) {o : Nat} (ho : isk n K o 9) : Ci l yX9_tries cX9_tries 5 (some .int) (rmL 3) D cI cR n K L ad [.ref (ad o)] (fX9_tries L o) := by
  refine Ci.ofW (by decide) (Nat.le_of_ble_eq_true rfl) ?_
  intro μ x hm p e s m args below meth c ls S hr hG hP hS hl
  exact wX9_tries_0 S hr hG ho μ hm _ _ ls hP hS hl
-- X9_count
set_option maxHeartbeats 4000000 in
set_option maxRecDepth 100000 in
theorem wX9_count_110 (S : CallFix p m c cX9_count 5 s args TB RX9) (hr : meth.sig.returnType = (some .int) ∧ meth.locks = false) (hG : gok D cI cR n K L ad s) {o : Nat} (ho : isk n K o 9) {x : Int32 × Mem} {self83 : Int32 → Int32 → Int32 → Mem → Option (Int32 × Mem)} (hs83 : ∀ (v2 v3 v4 : Int32) (μ : Mem), self83 v2 v3 v4 μ = some x → WI p l e (rmL 2) s m args below meth c D cI cR n K L ad 5 x μ 83 [(0, .ref (ad o)), (2, .int v2), (3, .int v3), (4, .int v4)] []) : ∀ (v3 v4 s0 s1 : Int32) (μ : Mem), fX9_count_110 L o self83 v3 v4 s0 s1 μ = some x → WI p l e (rmL 2) s m args below meth c D cI cR n K L ad 5 x μ 110 [(0, .ref (ad o)), (3, .int v3), (4, .int v4)] [.int s0, .int s1] := by
  have hx := S.1
  have hb := S.2.1
  intro v3 v4 s0 s1 μ hm H locs ls hP hS hl
  unfold fX9_count_110 at hm
  refine lv_iadd hx hb dX9_count_110 ?_
  refine r_top hm (fun a1 hm => ?_)
  refine lv_istore_n (lv' := [(2, .int a1), (0, .ref (ad o)), (3, .int v3), (4, .int v4)]) hx hb dX9_count_111 rfl hl (by decide) rfl (fun ls hl => ?_)
  refine r_iinc (b := (1 : Int32)) (k := 3) S hm dX9_count_112 hl rfl (by decide) (by decide) (fun a2 ls hm hl => ?_)
  have hl : lv_has ls 5 [(4, .int a2), (2, .int a1), (0, .ref (ad o)), (3, .int v3)] := hl
  refine lv_goto (tgt := 83) hx hb dX9_count_115 (by decide) ?_
  exact hs83 a1 v3 a2 μ hm H locs ls hP hS (lv_sub hl [2, 1, 3, 0] rfl)
set_option maxHeartbeats 4000000 in
set_option maxRecDepth 100000 in
theorem wX9_count_83 (S : CallFix p m c cX9_count 5 s args TB RX9) (hr : meth.sig.returnType = (some .int) ∧ meth.locks = false) (hG : gok D cI cR n K L ad s) {o : Nat} (ho : isk n K o 9) {x : Int32 × Mem} {self72 : Int32 → Int32 → Mem → Option (Int32 × Mem)} (hs72 : ∀ (v2 v3 : Int32) (μ : Mem), self72 v2 v3 μ = some x → WI p l e (rmL 2) s m args below meth c D cI cR n K L ad 5 x μ 72 [(0, .ref (ad o)), (2, .int v2), (3, .int v3)] []) : ∀ (k : Nat) (v2 v3 v4 : Int32) (μ : Mem), fX9_count_83 L o self72 k v2 v3 v4 μ = some x → WI p l e (rmL 2) s m args below meth c D cI cR n K L ad 5 x μ 83 [(0, .ref (ad o)), (2, .int v2), (3, .int v3), (4, .int v4)] [] := by
  have hx := S.1
  have hb := S.2.1
  intro k
  induction k with
  | zero => intro v2 v3 v4 μ hm; exact absurd (show none = some x from hm) (fun h => by cases h)
  | succ k ih =>
    intro v2 v3 v4 μ hm H locs ls hP hS hl
    have hm : fX9_count_83_b L o self72 (fX9_count_83 L o self72 k) v2 v3 v4 μ = some x := hm
    unfold fX9_count_83_b at hm
    refine lv_iload hx hb dX9_count_83 (lv_at hl 3 rfl) ?_
    refine lv_aload_n hx hb dX9_count_85 rfl (lv_at hl 0 rfl) ?_
    refine r_getr S hG hP ho clX9 fX9_3 kX9_13 dX9_count_86 ?_
    refine lv_iload_n hx hb dX9_count_89 rfl (lv_at hl 2 rfl) ?_
    refine r_iald S hG hP (chX9_3 hG ho) hm dX9_count_90 (fun a3 hm => ?_)
    refine b_icmp_ge (tgt := 118) S dX9_count_91 (by decide) hm (fun hm => ?_) (fun hm => ?_)
    · refine r_iinc (b := (1 : Int32)) (k := 2) S hm dX9_count_118 hl rfl (by decide) (by decide) (fun a4 ls hm hl => ?_)
      have hl : lv_has ls 5 [(3, .int a4), (0, .ref (ad o)), (2, .int v2), (4, .int v4)] := hl
      refine lv_goto (tgt := 72) hx hb dX9_count_121 (by decide) ?_
      exact hs72 v2 a4 μ hm H locs ls hP hS (lv_sub hl [1, 2, 0] rfl)
    · refine lv_iload_n hx hb dX9_count_94 rfl (lv_at hl 1 rfl) ?_
      refine lv_aload_n hx hb dX9_count_95 rfl (lv_at hl 0 rfl) ?_
      refine lv_iload_n hx hb dX9_count_96 rfl (lv_at hl 2 rfl) ?_
      refine lv_iload hx hb dX9_count_97 (lv_at hl 3 rfl) ?_
      refine r_vcalli (As := [.int v3, .int v4]) (rest := [.int v2]) S hG hP hS mX9_isShut kX9_138 clX9 ho (tX9_isShut _ _ _ _ _ _ _ _ ho v3 v4) ⟨rfl, rfl⟩ (rm_ok (by decide) (by decide)) hm hl.1 rfl (Nat.le_of_ble_eq_true rfl) ⟨Nat.zero_le _, Nat.zero_le _⟩ dX9_count_99 (fun b6 μ5 H locs hm hP hS => ?_)
      refine b_if_eq (tgt := 109) S dX9_count_102 (by decide) hm (fun hm => ?_) (fun hm => ?_)
      · refine lv_iconst (v := (0 : Int32)) hx hb dX9_count_109 (by decide) ?_
        exact wX9_count_110 S hr hG ho ih v3 v4 (0 : Int32) v2 μ5 hm H locs ls hP hS (lv_sub hl [0, 2, 3] rfl)
      · refine lv_iconst (v := (1 : Int32)) hx hb dX9_count_105 (by decide) ?_
        refine lv_goto (tgt := 110) hx hb dX9_count_106 (by decide) ?_
        exact wX9_count_110 S hr hG ho ih v3 v4 (1 : Int32) v2 μ5 hm H locs ls hP hS (lv_sub hl [0, 2, 3] rfl)
set_option maxHeartbeats 4000000 in
set_option maxRecDepth 100000 in
theorem wX9_count_72 (S : CallFix p m c cX9_count 5 s args TB RX9) (hr : meth.sig.returnType = (some .int) ∧ meth.locks = false) (hG : gok D cI cR n K L ad s) {o : Nat} (ho : isk n K o 9) {x : Int32 × Mem} : ∀ (k : Nat) (v2 v3 : Int32) (μ : Mem), fX9_count_72 L o k v2 v3 μ = some x → WI p l e (rmL 2) s m args below meth c D cI cR n K L ad 5 x μ 72 [(0, .ref (ad o)), (2, .int v2), (3, .int v3)] [] := by
  have hx := S.1
  have hb := S.2.1
  intro k
  induction k with
  | zero => intro v2 v3 μ hm; exact absurd (show none = some x from hm) (fun h => by cases h)
  | succ k ih =>
    intro v2 v3 μ hm H locs ls hP hS hl
    have hm : fX9_count_72_b L o (fX9_count_72 L o k) v2 v3 μ = some x := hm
    unfold fX9_count_72_b at hm
    refine lv_iload_n hx hb dX9_count_72 rfl (lv_at hl 2 rfl) ?_
    refine lv_aload_n hx hb dX9_count_73 rfl (lv_at hl 0 rfl) ?_
    refine r_geti S hG hP ho clX9 fX9_2 kX9_58 dX9_count_74 ?_
    refine b_icmp_ge (tgt := 124) S dX9_count_77 (by decide) hm (fun hm => ?_) (fun hm => ?_)
    · refine lv_iload_n hx hb dX9_count_124 rfl (lv_at hl 1 rfl) ?_
      exact r_iret S hr hG hP hS hm dX9_count_125
    · refine lv_iconst (v := (0 : Int32)) hx hb dX9_count_80 (by decide) ?_
      refine lv_istore (lv' := [(4, .int (0 : Int32)), (0, .ref (ad o)), (2, .int v2), (3, .int v3)]) hx hb dX9_count_81 hl (by decide) rfl (fun ls hl => ?_)
      exact wX9_count_83 S hr hG ho ih FU v2 v3 (0 : Int32) μ hm H locs ls hP hS (lv_sub hl [1, 2, 3, 0] rfl)
set_option maxHeartbeats 4000000 in
set_option maxRecDepth 100000 in
theorem wX9_count_0 (S : CallFix p m c cX9_count 5 s args TB RX9) (hr : meth.sig.returnType = (some .int) ∧ meth.locks = false) (hG : gok D cI cR n K L ad s) {o : Nat} (ho : isk n K o 9) {x : Int32 × Mem} : ∀ (v1 : Int32) (μ : Mem), fX9_count L o v1 μ = some x → WI p l e (rmL 2) s m args below meth c D cI cR n K L ad 5 x μ 0 [(0, .ref (ad o)), (1, .int v1)] [] := by
  have hx := S.1
  have hb := S.2.1
  intro v1 μ hm H locs ls hP hS hl
  unfold fX9_count at hm
  refine lv_iload_n hx hb dX9_count_0 rfl (lv_at hl 1 rfl) ?_
  refine b_sw (k := (0 : Int32)) hm (fun hv1_0 hm => ?_) (fun hv1_0 hm => ?_)
  · refine lv_tableIn (off := 43) (tgt := 44) hx hb dX9_count_1 (by rw [hv1_0] <;> decide) (by rw [hv1_0] <;> decide) (by rw [hv1_0] <;> rfl) (by decide) ?_
    refine lv_aload_n hx hb dX9_count_44 rfl (lv_at hl 0 rfl) ?_
    refine r_geti S hG hP ho clX9 fX9_2 kX9_58 dX9_count_45 ?_
    exact r_iret S hr hG hP hS hm dX9_count_48
  · refine b_sw (k := (1 : Int32)) hm (fun hv1_1 hm => ?_) (fun hv1_1 hm => ?_)
    · refine lv_tableIn (off := 48) (tgt := 49) hx hb dX9_count_1 (by rw [hv1_1] <;> decide) (by rw [hv1_1] <;> decide) (by rw [hv1_1] <;> rfl) (by decide) ?_
      refine lv_aload_n hx hb dX9_count_49 rfl (lv_at hl 0 rfl) ?_
      refine r_geti S hG hP ho clX9 fX9_4 kX9_65 dX9_count_50 ?_
      exact r_iret S hr hG hP hS hm dX9_count_53
    · refine b_sw (k := (2 : Int32)) hm (fun hv1_2 hm => ?_) (fun hv1_2 hm => ?_)
      · refine lv_tableIn (off := 53) (tgt := 54) hx hb dX9_count_1 (by rw [hv1_2] <;> decide) (by rw [hv1_2] <;> decide) (by rw [hv1_2] <;> rfl) (by decide) ?_
        refine lv_aload_n hx hb dX9_count_54 rfl (lv_at hl 0 rfl) ?_
        refine r_geti S hG hP ho clX9 fX9_7 kX9_62 dX9_count_55 ?_
        exact r_iret S hr hG hP hS hm dX9_count_58
      · refine b_sw (k := (3 : Int32)) hm (fun hv1_3 hm => ?_) (fun hv1_3 hm => ?_)
        · refine lv_tableIn (off := 58) (tgt := 59) hx hb dX9_count_1 (by rw [hv1_3] <;> decide) (by rw [hv1_3] <;> decide) (by rw [hv1_3] <;> rfl) (by decide) ?_
          refine lv_aload_n hx hb dX9_count_59 rfl (lv_at hl 0 rfl) ?_
          refine r_getr S hG hP ho clX9 fX9_9 kX9_25 dX9_count_60 ?_
          refine lv_sipush (v := (168 : Int32)) hx hb dX9_count_63 (by decide) ?_
          refine r_iald S hG hP (chX9_9 hG ho) hm dX9_count_66 (fun a7 hm => ?_)
          exact r_iret S hr hG hP hS hm dX9_count_67
        · refine b_sw (k := (4 : Int32)) hm (fun hv1_4 hm => ?_) (fun hv1_4 hm => ?_)
          · refine lv_tableIn (off := 67) (tgt := 68) hx hb dX9_count_1 (by rw [hv1_4] <;> decide) (by rw [hv1_4] <;> decide) (by rw [hv1_4] <;> rfl) (by decide) ?_
            refine lv_iconst (v := (0 : Int32)) hx hb dX9_count_68 (by decide) ?_
            refine lv_istore_n (lv' := [(2, .int (0 : Int32)), (0, .ref (ad o)), (1, .int v1)]) hx hb dX9_count_69 rfl hl (by decide) rfl (fun ls hl => ?_)
            refine lv_iconst (v := (0 : Int32)) hx hb dX9_count_70 (by decide) ?_
            refine lv_istore_n (lv' := [(3, .int (0 : Int32)), (2, .int (0 : Int32)), (0, .ref (ad o)), (1, .int v1)]) hx hb dX9_count_71 rfl hl (by decide) rfl (fun ls hl => ?_)
            exact wX9_count_72 S hr hG ho FU (0 : Int32) (0 : Int32) μ hm H locs ls hP hS (lv_sub hl [2, 1, 0] rfl)
          · refine b_sw (k := (5 : Int32)) hm (fun hv1_5 hm => ?_) (fun hv1_5 hm => ?_)
            · refine lv_tableIn (off := 125) (tgt := 126) hx hb dX9_count_1 (by rw [hv1_5] <;> decide) (by rw [hv1_5] <;> decide) (by rw [hv1_5] <;> rfl) (by decide) ?_
              refine lv_aload_n hx hb dX9_count_126 rfl (lv_at hl 0 rfl) ?_
              refine r_geti S hG hP ho clX9 fX9_11 kX9_129 dX9_count_127 ?_
              exact r_iret S hr hG hP hS hm dX9_count_130
            · refine b_sw (k := (6 : Int32)) hm (fun hv1_6 hm => ?_) (fun hv1_6 hm => ?_)
              · refine lv_tableIn (off := 130) (tgt := 131) hx hb dX9_count_1 (by rw [hv1_6] <;> decide) (by rw [hv1_6] <;> decide) (by rw [hv1_6] <;> rfl) (by decide) ?_
                refine lv_aload_n hx hb dX9_count_131 rfl (lv_at hl 0 rfl) ?_
                refine r_geti S hG hP ho clX9 fX9_0 kX9_72 dX9_count_132 ?_
                exact r_iret S hr hG hP hS hm dX9_count_135
              · refine lv_tableOut (tgt := 136) hx hb dX9_count_1 (by have q0 := lv_neT (a := 0) hv1_0 rfl; have q1 := lv_neT (a := 1) hv1_1 rfl; have q2 := lv_neT (a := 2) hv1_2 rfl; have q3 := lv_neT (a := 3) hv1_3 rfl; have q4 := lv_neT (a := 4) hv1_4 rfl; have q5 := lv_neT (a := 5) hv1_5 rfl; have q6 := lv_neT (a := 6) hv1_6 rfl; omega) (by decide) ?_
                refine lv_iconst (v := (-1 : Int32)) hx hb dX9_count_136 (by decide) ?_
                exact r_iret S hr hG hP hS hm dX9_count_137
theorem tX9_count (l : Launch) (D : va_G) (cI cR : ClassId) (n : Nat) (K L ad : Nat → Nat) {o : Nat} (ho : isk n K o 9) (v1 : Int32) : Ci l yX9_count cX9_count 5 (some .int) (rmL 2) D cI cR n K L ad [.ref (ad o), .int v1] (fX9_count L o v1) := by
  refine Ci.ofW (by decide) (Nat.le_of_ble_eq_true rfl) ?_
  intro μ x hm p e s m args below meth c ls S hr hG hP hS hl
  exact wX9_count_0 S hr hG ho v1 μ hm _ _ ls hP hS hl
end WALKH
