section WALKD
variable {p : Program} {l : Launch} {e : Env} {s : State} {m : MethodId} {args : Array Value} {below : List Frame} {meth : Method} {c : Code} {D : va_G} {cI cR : ClassId} {n : Nat} {K L ad : Nat → Nat}
-- X4_chosenBits
set_option maxHeartbeats 4000000 in
set_option maxRecDepth 100000 in
theorem wX4_chosenBits_4 (S : CallFix p m c cX4_chosenBits 4 s args TB RX4) (hr : meth.sig.returnType = (some .int) ∧ meth.locks = false) (hG : gok D cI cR n K L ad s) {o : Nat} (ho : isk n K o 4) {x : Int32 × Mem} : ∀ (k : Nat) (v1 v2 v3 : Int32) (μ : Mem), fX4_chosenBits_4 L o k v1 v2 v3 μ = some x → WI p l e (rmL 1) s m args below meth c D cI cR n K L ad 4 x μ 4 [(0, .ref (ad o)), (1, .int v1), (2, .int v2), (3, .int v3)] [] := by
  have hx := S.1
  have hb := S.2.1
  intro k
  induction k with
  | zero => intro v1 v2 v3 μ hm; exact absurd (show none = some x from hm) (fun h => by cases h)
  | succ k ih =>
    intro v1 v2 v3 μ hm H locs ls hP hS hl
    have hm : fX4_chosenBits_4_b L o (fX4_chosenBits_4 L o k) v1 v2 v3 μ = some x := hm
    unfold fX4_chosenBits_4_b at hm
    refine lv_iload_n hx hb dX4_chosenBits_4 rfl (lv_at hl 3 rfl) ?_
    refine lv_iload_n hx hb dX4_chosenBits_5 rfl (lv_at hl 1 rfl) ?_
    refine b_icmp_ge (tgt := 32) S dX4_chosenBits_6 (by decide) hm (fun hm => ?_) (fun hm => ?_)
    · refine lv_iload_n hx hb dX4_chosenBits_32 rfl (lv_at hl 2 rfl) ?_
      exact r_iret S hr hG hP hS hm dX4_chosenBits_33
    · refine lv_iload_n hx hb dX4_chosenBits_9 rfl (lv_at hl 2 rfl) ?_
      refine lv_iconst (v := (1 : Int32)) hx hb dX4_chosenBits_10 (by decide) ?_
      refine lv_iconst (v := (4 : Int32)) hx hb dX4_chosenBits_11 (by decide) ?_
      refine lv_iload_n hx hb dX4_chosenBits_12 rfl (lv_at hl 3 rfl) ?_
      refine lv_imul hx hb dX4_chosenBits_13 ?_
      refine lv_aload_n hx hb dX4_chosenBits_14 rfl (lv_at hl 0 rfl) ?_
      refine r_getr S hG hP ho clX4 fX4_0 kX4_14 dX4_chosenBits_15 ?_
      refine lv_iload_n hx hb dX4_chosenBits_18 rfl (lv_at hl 3 rfl) ?_
      refine r_vcalli (As := [.int v3]) (rest := [.int ((4 : Int32) * v3), .int (1 : Int32), .int v2]) S hG hP hS mX3_get kX4_103 clX3 (chX4_0 hG ho) (tX3_get _ _ _ _ _ _ _ _ (chX4_0 hG ho) v3) ⟨rfl, rfl⟩ (rm_ok (by decide) (by decide)) hm hl.1 rfl (Nat.le_of_ble_eq_true rfl) ⟨Nat.zero_le _, Nat.zero_le _⟩ dX4_chosenBits_19 (fun b2 μ1 H locs hm hP hS => ?_)
      refine lv_iadd hx hb dX4_chosenBits_22 ?_
      refine lv_ishl hx hb dX4_chosenBits_23 ?_
      refine lv_ior hx hb dX4_chosenBits_24 ?_
      refine r_top hm (fun a3 hm => ?_)
      refine lv_istore_n (lv' := [(2, .int a3), (0, .ref (ad o)), (1, .int v1), (3, .int v3)]) hx hb dX4_chosenBits_25 rfl hl (by decide) rfl (fun ls hl => ?_)
      refine r_iinc (b := (1 : Int32)) (k := 3) S hm dX4_chosenBits_26 hl rfl (by decide) (by decide) (fun a4 ls hm hl => ?_)
      have hl : lv_has ls 4 [(3, .int a4), (2, .int a3), (0, .ref (ad o)), (1, .int v1)] := hl
      refine lv_goto (tgt := 4) hx hb dX4_chosenBits_29 (by decide) ?_
      exact ih v1 a3 a4 μ1 hm H locs ls hP hS (lv_sub hl [2, 3, 1, 0] rfl)
set_option maxHeartbeats 4000000 in
set_option maxRecDepth 100000 in
theorem wX4_chosenBits_0 (S : CallFix p m c cX4_chosenBits 4 s args TB RX4) (hr : meth.sig.returnType = (some .int) ∧ meth.locks = false) (hG : gok D cI cR n K L ad s) {o : Nat} (ho : isk n K o 4) {x : Int32 × Mem} : ∀ (v1 : Int32) (μ : Mem), fX4_chosenBits L o v1 μ = some x → WI p l e (rmL 1) s m args below meth c D cI cR n K L ad 4 x μ 0 [(0, .ref (ad o)), (1, .int v1)] [] := by
  have hx := S.1
  have hb := S.2.1
  intro v1 μ hm H locs ls hP hS hl
  unfold fX4_chosenBits at hm
  refine lv_iconst (v := (0 : Int32)) hx hb dX4_chosenBits_0 (by decide) ?_
  refine lv_istore_n (lv' := [(2, .int (0 : Int32)), (0, .ref (ad o)), (1, .int v1)]) hx hb dX4_chosenBits_1 rfl hl (by decide) rfl (fun ls hl => ?_)
  refine lv_iconst (v := (0 : Int32)) hx hb dX4_chosenBits_2 (by decide) ?_
  refine lv_istore_n (lv' := [(3, .int (0 : Int32)), (2, .int (0 : Int32)), (0, .ref (ad o)), (1, .int v1)]) hx hb dX4_chosenBits_3 rfl hl (by decide) rfl (fun ls hl => ?_)
  exact wX4_chosenBits_4 S hr hG ho FU v1 (0 : Int32) (0 : Int32) μ hm H locs ls hP hS (lv_sub hl [2, 3, 1, 0] rfl)
theorem tX4_chosenBits (l : Launch) (D : va_G) (cI cR : ClassId) (n : Nat) (K L ad : Nat → Nat) {o : Nat} (ho : isk n K o 4) (v1 : Int32) : Ci l yX4_chosenBits cX4_chosenBits 4 (some .int) (rmL 1) D cI cR n K L ad [.ref (ad o), .int v1] (fX4_chosenBits L o v1) := by
  refine Ci.ofW (by decide) (Nat.le_of_ble_eq_true rfl) ?_
  intro μ x hm p e s m args below meth c ls S hr hG hP hS hl
  exact wX4_chosenBits_0 S hr hG ho v1 μ hm _ _ ls hP hS hl
-- X4_note
set_option maxHeartbeats 4000000 in
set_option maxRecDepth 100000 in
theorem wX4_note_0 (S : CallFix p m c cX4_note 4 s args TB RX4) (hr : meth.sig.returnType = none ∧ meth.locks = false) (hG : gok D cI cR n K L ad s) {o : Nat} {r1 : Nat} (ho : isk n K o 4) (h1 : isk n K r1 0) {x : Mem} : ∀ (v2 : Int32) (μ : Mem), fX4_note L o r1 v2 μ = some x → WV p l e (rmL 2) s m args below meth c D cI cR n K L ad 4 x μ 0 [(0, .ref (ad o)), (1, .ref (ad r1)), (2, .int v2)] [] := by
  have hx := S.1
  have hb := S.2.1
  intro v2 μ hm H locs ls hP hS hl
  unfold fX4_note at hm
  refine lv_aload_n hx hb dX4_note_0 rfl (lv_at hl 0 rfl) ?_
  refine lv_aload_n hx hb dX4_note_1 rfl (lv_at hl 1 rfl) ?_
  refine r_vcalli (As := []) (rest := [.ref (ad o)]) S hG hP hS mX0_names kX4_64 clX0 h1 (tX0_names _ _ _ _ _ _ _ _ h1) ⟨rfl, rfl⟩ (rm_ok (by decide) (by decide)) hm hl.1 rfl (Nat.le_of_ble_eq_true rfl) ⟨Nat.zero_le _, Nat.zero_le _⟩ dX4_note_2 (fun b2 μ1 H locs hm hP hS => ?_)
  refine r_vcalli (As := [.int b2]) (rest := []) S hG hP hS mX4_chosenBits kX4_91 clX4 ho (tX4_chosenBits _ _ _ _ _ _ _ _ ho b2) ⟨rfl, rfl⟩ (rm_ok (by decide) (by decide)) hm hl.1 rfl (Nat.le_of_ble_eq_true rfl) ⟨Nat.zero_le _, Nat.zero_le _⟩ dX4_note_5 (fun b4 μ3 H locs hm hP hS => ?_)
  refine lv_istore_n (lv' := [(3, .int b4), (0, .ref (ad o)), (1, .ref (ad r1)), (2, .int v2)]) hx hb dX4_note_8 rfl hl (by decide) rfl (fun ls hl => ?_)
  refine lv_aload_n hx hb dX4_note_9 rfl (lv_at hl 1 rfl) ?_
  refine lv_dup hx hb dX4_note_10 rfl ?_
  refine r_geti S hG hP ho clX4 fX4_9 kX4_51 dX4_note_11 ?_
  refine lv_iconst (v := (1 : Int32)) hx hb dX4_note_14 (by decide) ?_
  refine lv_iadd hx hb dX4_note_15 ?_
  refine r_puti S hG hP hS ho clX4 fX4_9 kX4_51 hm dX4_note_16 (fun μ5 H locs hm hP hS => ?_)
  refine lv_iload_n hx hb dX4_note_19 rfl (lv_at hl 3 rfl) ?_
  refine lv_aload_n hx hb dX4_note_20 rfl (lv_at hl 1 rfl) ?_
  refine r_geti S hG hP ho clX4 fX4_6 kX4_42 dX4_note_21 ?_
  refine b_icmp_ge (tgt := 64) S dX4_note_24 (by decide) hm (fun hm => ?_) (fun hm => ?_)
  · refine lv_iload_n hx hb dX4_note_64 rfl (lv_at hl 3 rfl) ?_
    refine lv_aload_n hx hb dX4_note_65 rfl (lv_at hl 1 rfl) ?_
    refine r_geti S hG hP ho clX4 fX4_6 kX4_42 dX4_note_66 ?_
    refine b_icmp_ne (tgt := 95) S dX4_note_69 (by decide) hm (fun hm => ?_) (fun hm => ?_)
    · refine lv_aload_n hx hb dX4_note_95 rfl (lv_at hl 1 rfl) ?_
      refine lv_aload_n hx hb dX4_note_96 rfl (lv_at hl 1 rfl) ?_
      refine r_geti S hG hP ho clX4 fX4_7 kX4_45 dX4_note_97 ?_
      refine lv_iload_n hx hb dX4_note_100 rfl (lv_at hl 3 rfl) ?_
      refine r_min S hl.1 kX4_98 ⟨Nat.le_of_ble_eq_true rfl, Nat.le_of_ble_eq_true rfl⟩ ⟨Nat.zero_le _, Nat.zero_le _⟩ dX4_note_101 ?_
      refine r_top hm (fun a6 hm => ?_)
      refine r_puti S hG hP hS ho clX4 fX4_7 kX4_45 hm dX4_note_104 (fun μ7 H locs hm hP hS => ?_)
      exact r_vret S hr hG hP hS hm dX4_note_107
    · refine lv_aload_n hx hb dX4_note_72 rfl (lv_at hl 1 rfl) ?_
      refine lv_dup hx hb dX4_note_73 rfl ?_
      refine r_geti S hG hP ho clX4 fX4_8 kX4_48 dX4_note_74 ?_
      refine lv_iconst (v := (1 : Int32)) hx hb dX4_note_77 (by decide) ?_
      refine lv_iadd hx hb dX4_note_78 ?_
      refine r_puti S hG hP hS ho clX4 fX4_8 kX4_48 hm dX4_note_79 (fun μ8 H locs hm hP hS => ?_)
      refine lv_aload_n hx hb dX4_note_82 rfl (lv_at hl 1 rfl) ?_
      refine lv_dup hx hb dX4_note_83 rfl ?_
      refine r_geti S hG hP ho clX4 fX4_10 kX4_54 dX4_note_84 ?_
      refine lv_iload_n hx hb dX4_note_87 rfl (lv_at hl 0 rfl) ?_
      refine lv_iand hx hb dX4_note_88 ?_
      refine r_puti S hG hP hS ho clX4 fX4_10 kX4_54 hm dX4_note_89 (fun μ9 H locs hm hP hS => ?_)
      refine lv_goto (tgt := 107) hx hb dX4_note_92 (by decide) ?_
      exact r_vret S hr hG hP hS hm dX4_note_107
  · refine lv_aload_n hx hb dX4_note_27 rfl (lv_at hl 1 rfl) ?_
    refine lv_aload_n hx hb dX4_note_28 rfl (lv_at hl 1 rfl) ?_
    refine r_geti S hG hP ho clX4 fX4_6 kX4_42 dX4_note_29 ?_
    refine r_puti S hG hP hS ho clX4 fX4_7 kX4_45 hm dX4_note_32 (fun μ10 H locs hm hP hS => ?_)
    refine lv_aload_n hx hb dX4_note_35 rfl (lv_at hl 1 rfl) ?_
    refine lv_iload_n hx hb dX4_note_36 rfl (lv_at hl 3 rfl) ?_
    refine r_puti S hG hP hS ho clX4 fX4_6 kX4_42 hm dX4_note_37 (fun μ11 H locs hm hP hS => ?_)
    refine lv_aload_n hx hb dX4_note_40 rfl (lv_at hl 1 rfl) ?_
    refine lv_iconst (v := (1 : Int32)) hx hb dX4_note_41 (by decide) ?_
    refine r_puti S hG hP hS ho clX4 fX4_8 kX4_48 hm dX4_note_42 (fun μ12 H locs hm hP hS => ?_)
    refine lv_aload_n hx hb dX4_note_45 rfl (lv_at hl 1 rfl) ?_
    refine lv_iload_n hx hb dX4_note_46 rfl (lv_at hl 0 rfl) ?_
    refine r_puti S hG hP hS ho clX4 fX4_10 kX4_54 hm dX4_note_47 (fun μ13 H locs hm hP hS => ?_)
    refine lv_aload_n hx hb dX4_note_50 rfl (lv_at hl 1 rfl) ?_
    refine r_getr S hG hP ho clX4 fX4_1 kX4_20 dX4_note_51 ?_
    refine lv_aload_n hx hb dX4_note_54 rfl (lv_at hl 1 rfl) ?_
    refine r_getr S hG hP ho clX4 fX4_0 kX4_14 dX4_note_55 ?_
    refine r_vcallv (As := [.ref (ad (o + 1))]) (rest := []) S hG hP hS mX3_takeFrom kX4_94 clX3 (chX4_1 hG ho) (tX3_takeFrom _ _ _ _ _ _ _ _ (chX4_1 hG ho) (chX4_0 hG ho)) ⟨rfl, rfl⟩ (rm_ok (by decide) (by decide)) hm hl.1 rfl (Nat.le_of_ble_eq_true rfl) ⟨Nat.zero_le _, Nat.zero_le _⟩ dX4_note_58 (fun μ14 H locs hm hP hS => ?_)
    refine lv_goto (tgt := 107) hx hb dX4_note_61 (by decide) ?_
    exact r_vret S hr hG hP hS hm dX4_note_107
theorem tX4_note (l : Launch) (D : va_G) (cI cR : ClassId) (n : Nat) (K L ad : Nat → Nat) {o : Nat} (ho : isk n K o 4) {r1 : Nat} (h1 : isk n K r1 0) (v2 : Int32) : Cv l yX4_note cX4_note 4 none (rmL 2) D cI cR n K L ad [.ref (ad o), .ref (ad r1), .int v2] (fX4_note L o r1 v2) := by
  refine Cv.ofW (by decide) (Nat.le_of_ble_eq_true rfl) ?_
  intro μ x hm p e s m args below meth c ls S hr hG hP hS hl
  exact wX4_note_0 S hr hG ho h1 v2 μ hm _ _ ls hP hS hl
-- X4_take
set_option maxHeartbeats 4000000 in
set_option maxRecDepth 100000 in
theorem wX4_take_0 {d : Nat} (S : CallFix p m c cX4_take 5 s args TB RX4) (hr : meth.sig.returnType = none ∧ meth.locks = false) (hG : gok D cI cR n K L ad s) {go : Int32 → Int32 → Mem → Option Mem} {o : Nat} {r1 : Nat} (hgo : ∀ a b : Int32, Cv l yX4_goOn cX4_goOn 5 none (rmL (4 + 2 * d)) D cI cR n K L ad [.ref (ad o), .ref (ad r1), .int a, .int b] (go a b)) (ho : isk n K o 4) (h1 : isk n K r1 0) {x : Mem} : ∀ (v2 v3 v4 : Int32) (μ : Mem), fX4_take_0 L go o r1 v2 v3 v4 μ = some x → WV p l e (rmL (4 + 2 * d + 1)) s m args below meth c D cI cR n K L ad 5 x μ 0 [(0, .ref (ad o)), (1, .ref (ad r1)), (2, .int v2), (3, .int v3), (4, .int v4)] [] := by
  have hx := S.1
  have hb := S.2.1
  intro v2 v3 v4 μ hm H locs ls hP hS hl
  unfold fX4_take_0 at hm
  refine lv_aload_n hx hb dX4_take_0 rfl (lv_at hl 0 rfl) ?_
  refine r_getr S hG hP ho clX4 fX4_0 kX4_14 dX4_take_1 ?_
  refine lv_iload_n hx hb dX4_take_4 rfl (lv_at hl 2 rfl) ?_
  refine lv_iload_n hx hb dX4_take_5 rfl (lv_at hl 3 rfl) ?_
  refine r_vcallv (As := [.int v2, .int v3]) (rest := []) S hG hP hS mX3_set kX4_79 clX3 (chX4_0 hG ho) (tX3_set _ _ _ _ _ _ _ _ (chX4_0 hG ho) v2 v3) ⟨rfl, rfl⟩ (rm_ok (by omega) (by decide)) hm hl.1 rfl (Nat.le_of_ble_eq_true rfl) ⟨Nat.zero_le _, Nat.zero_le _⟩ dX4_take_6 (fun μ1 H locs hm hP hS => ?_)
  refine lv_aload_n hx hb dX4_take_9 rfl (lv_at hl 0 rfl) ?_
  refine lv_aload_n hx hb dX4_take_10 rfl (lv_at hl 1 rfl) ?_
  refine lv_iload_n hx hb dX4_take_11 rfl (lv_at hl 2 rfl) ?_
  refine lv_iconst (v := (1 : Int32)) hx hb dX4_take_12 (by decide) ?_
  refine lv_iadd hx hb dX4_take_13 ?_
  refine lv_aload_n hx hb dX4_take_14 rfl (lv_at hl 1 rfl) ?_
  refine lv_iload hx hb dX4_take_15 (lv_at hl 4 rfl) ?_
  refine lv_aload_n hx hb dX4_take_17 rfl (lv_at hl 1 rfl) ?_
  refine lv_aload_n hx hb dX4_take_18 rfl (lv_at hl 0 rfl) ?_
  refine r_getr S hG hP ho clX4 fX4_0 kX4_14 dX4_take_19 ?_
  refine lv_iload_n hx hb dX4_take_22 rfl (lv_at hl 2 rfl) ?_
  refine lv_iload_n hx hb dX4_take_23 rfl (lv_at hl 2 rfl) ?_
  refine lv_iload_n hx hb dX4_take_24 rfl (lv_at hl 3 rfl) ?_
  refine lv_aload_n hx hb dX4_take_25 rfl (lv_at hl 0 rfl) ?_
  refine r_geti S hG hP ho clX4 fX4_4 kX4_30 dX4_take_26 ?_
  refine r_vcalli (As := [.ref (ad (o + 1)), .int v2, .int v2, .int v3, .int (μ1 o 4)]) (rest := [.int v4, .ref (ad r1), .int (v2 + (1 : Int32)), .ref (ad r1), .ref (ad o)]) S hG hP hS mX0_costBeside kX4_83 clX0 h1 (tX0_costBeside _ _ _ _ _ _ _ _ h1 (chX4_0 hG ho) v2 v2 v3 (μ1 o 4)) ⟨rfl, rfl⟩ (rm_ok (by omega) (by decide)) hm hl.1 rfl (Nat.le_of_ble_eq_true rfl) ⟨Nat.zero_le _, Nat.zero_le _⟩ dX4_take_29 (fun b3 μ2 H locs hm hP hS => ?_)
  refine r_vcalli (As := [.int v4, .int b3]) (rest := [.int (v2 + (1 : Int32)), .ref (ad r1), .ref (ad o)]) S hG hP hS mX0_sum kX4_87 clX0 h1 (tX0_sum _ _ _ _ _ _ _ _ h1 v4 b3) ⟨rfl, rfl⟩ (rm_ok (by omega) (by decide)) hm hl.1 rfl (Nat.le_of_ble_eq_true rfl) ⟨Nat.zero_le _, Nat.zero_le _⟩ dX4_take_32 (fun b5 μ4 H locs hm hP hS => ?_)
  refine r_vcallv (As := [.ref (ad r1), .int (v2 + (1 : Int32)), .int b5]) (rest := []) S hG hP hS mX4_goOn kX4_60 clX4 ho (hgo (v2 + (1 : Int32)) b5) ⟨rfl, rfl⟩ (rm_ok (by omega) (by decide)) hm hl.1 rfl (Nat.le_of_ble_eq_true rfl) ⟨Nat.zero_le _, Nat.zero_le _⟩ dX4_take_35 (fun μ6 H locs hm hP hS => ?_)
  exact r_vret S hr hG hP hS hm dX4_take_38
theorem tX4_take {l : Launch} {D : va_G} {cI cR : ClassId} {n : Nat} {K L ad : Nat → Nat} (d : Nat) {go : Int32 → Int32 → Mem → Option Mem} {o : Nat} {r1 : Nat} (hgo : ∀ a b : Int32, Cv l yX4_goOn cX4_goOn 5 none (rmL (4 + 2 * d)) D cI cR n K L ad [.ref (ad o), .ref (ad r1), .int a, .int b] (go a b)) (ho : isk n K o 4) (h1 : isk n K r1 0) (v2 v3 v4 : Int32) : Cv l yX4_take cX4_take 5 none (rmL (4 + 2 * d + 1)) D cI cR n K L ad [.ref (ad o), .ref (ad r1), .int v2, .int v3, .int v4] (fX4_take L go o r1 v2 v3 v4) := by
  refine Cv.ofW (by decide) (Nat.le_of_ble_eq_true rfl) ?_
  intro μ x hm p e s m args below meth c ls S hr hG hP hS hl
  exact wX4_take_0 S hr hG hgo ho h1 v2 v3 v4 μ hm _ _ ls hP hS hl
-- X4_goOn
set_option maxHeartbeats 4000000 in
set_option maxRecDepth 100000 in
theorem wX4_goOn_69 {d : Nat} (S : CallFix p m c cX4_goOn 5 s args TB RX4) (hr : meth.sig.returnType = none ∧ meth.locks = false) (hG : gok D cI cR n K L ad s) {go : Int32 → Int32 → Mem → Option Mem} {o : Nat} {r1 : Nat} (hgo : ∀ a b : Int32, Cv l yX4_goOn cX4_goOn 5 none (rmL (4 + 2 * d)) D cI cR n K L ad [.ref (ad o), .ref (ad r1), .int a, .int b] (go a b)) (ho : isk n K o 4) (h1 : isk n K r1 0) {x : Mem} {self33 : Int32 → Int32 → Int32 → Mem → Option Mem} (hs33 : ∀ (v2 v3 v4 : Int32) (μ : Mem), self33 v2 v3 v4 μ = some x → WV p l e (rmL (4 + 2 * d + 2)) s m args below meth c D cI cR n K L ad 5 x μ 33 [(0, .ref (ad o)), (1, .ref (ad r1)), (2, .int v2), (3, .int v3), (4, .int v4)] []) : ∀ (v2 v3 v4 : Int32) (μ : Mem), fX4_goOn_69 L go o r1 self33 v2 v3 v4 μ = some x → WV p l e (rmL (4 + 2 * d + 2)) s m args below meth c D cI cR n K L ad 5 x μ 69 [(0, .ref (ad o)), (1, .ref (ad r1)), (2, .int v2), (3, .int v3), (4, .int v4)] [] := by
  have hx := S.1
  have hb := S.2.1
  intro v2 v3 v4 μ hm H locs ls hP hS hl
  unfold fX4_goOn_69 at hm
  refine r_iinc (b := (1 : Int32)) (k := 4) S hm dX4_goOn_69 hl rfl (by decide) (by decide) (fun a1 ls hm hl => ?_)
  have hl : lv_has ls 5 [(4, .int a1), (0, .ref (ad o)), (1, .ref (ad r1)), (2, .int v2), (3, .int v3)] := hl
  refine lv_goto (tgt := 33) hx hb dX4_goOn_72 (by decide) ?_
  exact hs33 v2 v3 a1 μ hm H locs ls hP hS (lv_sub hl [1, 2, 3, 4, 0] rfl)
set_option maxHeartbeats 4000000 in
set_option maxRecDepth 100000 in
theorem wX4_goOn_60 {d : Nat} (S : CallFix p m c cX4_goOn 5 s args TB RX4) (hr : meth.sig.returnType = none ∧ meth.locks = false) (hG : gok D cI cR n K L ad s) {go : Int32 → Int32 → Mem → Option Mem} {o : Nat} {r1 : Nat} (hgo : ∀ a b : Int32, Cv l yX4_goOn cX4_goOn 5 none (rmL (4 + 2 * d)) D cI cR n K L ad [.ref (ad o), .ref (ad r1), .int a, .int b] (go a b)) (ho : isk n K o 4) (h1 : isk n K r1 0) {x : Mem} {self33 : Int32 → Int32 → Int32 → Mem → Option Mem} (hs33 : ∀ (v2 v3 v4 : Int32) (μ : Mem), self33 v2 v3 v4 μ = some x → WV p l e (rmL (4 + 2 * d + 2)) s m args below meth c D cI cR n K L ad 5 x μ 33 [(0, .ref (ad o)), (1, .ref (ad r1)), (2, .int v2), (3, .int v3), (4, .int v4)] []) : ∀ (v2 v3 v4 : Int32) (μ : Mem), fX4_goOn_60 L go o r1 self33 v2 v3 v4 μ = some x → WV p l e (rmL (4 + 2 * d + 2)) s m args below meth c D cI cR n K L ad 5 x μ 60 [(0, .ref (ad o)), (1, .ref (ad r1)), (2, .int v2), (3, .int v3), (4, .int v4)] [] := by
  have hx := S.1
  have hb := S.2.1
  intro v2 v3 v4 μ hm H locs ls hP hS hl
  unfold fX4_goOn_60 at hm
  refine lv_aload_n hx hb dX4_goOn_60 rfl (lv_at hl 0 rfl) ?_
  refine lv_aload_n hx hb dX4_goOn_61 rfl (lv_at hl 1 rfl) ?_
  refine lv_iload_n hx hb dX4_goOn_62 rfl (lv_at hl 2 rfl) ?_
  refine lv_iload hx hb dX4_goOn_63 (lv_at hl 4 rfl) ?_
  refine lv_iload_n hx hb dX4_goOn_65 rfl (lv_at hl 3 rfl) ?_
  refine r_vcallv (As := [.ref (ad r1), .int v2, .int v4, .int v3]) (rest := []) S hG hP hS mX4_take kX4_75 clX4 ho (tX4_take d hgo ho h1 v2 v4 v3) ⟨rfl, rfl⟩ (rm_ok (by omega) (by decide)) hm hl.1 rfl (Nat.le_of_ble_eq_true rfl) ⟨Nat.zero_le _, Nat.zero_le _⟩ dX4_goOn_66 (fun μ2 H locs hm hP hS => ?_)
  exact wX4_goOn_69 S hr hG hgo ho h1 hs33 v2 v3 v4 μ2 hm H locs ls hP hS (lv_sub hl [0, 1, 2, 3, 4] rfl)
set_option maxHeartbeats 4000000 in
set_option maxRecDepth 100000 in
theorem wX4_goOn_33 {d : Nat} (S : CallFix p m c cX4_goOn 5 s args TB RX4) (hr : meth.sig.returnType = none ∧ meth.locks = false) (hG : gok D cI cR n K L ad s) {go : Int32 → Int32 → Mem → Option Mem} {o : Nat} {r1 : Nat} (hgo : ∀ a b : Int32, Cv l yX4_goOn cX4_goOn 5 none (rmL (4 + 2 * d)) D cI cR n K L ad [.ref (ad o), .ref (ad r1), .int a, .int b] (go a b)) (ho : isk n K o 4) (h1 : isk n K r1 0) {x : Mem} : ∀ (k : Nat) (v2 v3 v4 : Int32) (μ : Mem), fX4_goOn_33 L go o r1 k v2 v3 v4 μ = some x → WV p l e (rmL (4 + 2 * d + 2)) s m args below meth c D cI cR n K L ad 5 x μ 33 [(0, .ref (ad o)), (1, .ref (ad r1)), (2, .int v2), (3, .int v3), (4, .int v4)] [] := by
  have hx := S.1
  have hb := S.2.1
  intro k
  induction k with
  | zero => intro v2 v3 v4 μ hm; exact absurd (show none = some x from hm) (fun h => by cases h)
  | succ k ih =>
    intro v2 v3 v4 μ hm H locs ls hP hS hl
    have hm : fX4_goOn_33_b L go o r1 (fX4_goOn_33 L go o r1 k) v2 v3 v4 μ = some x := hm
    unfold fX4_goOn_33_b at hm
    refine lv_iload hx hb dX4_goOn_33 (lv_at hl 4 rfl) ?_
    refine lv_aload_n hx hb dX4_goOn_35 rfl (lv_at hl 1 rfl) ?_
    refine lv_iload_n hx hb dX4_goOn_36 rfl (lv_at hl 2 rfl) ?_
    refine r_vcalli (As := [.int v2]) (rest := [.int v4]) S hG hP hS mX0_valuesOf kX4_71 clX0 h1 (tX0_valuesOf _ _ _ _ _ _ _ _ h1 v2) ⟨rfl, rfl⟩ (rm_ok (by omega) (by decide)) hm hl.1 rfl (Nat.le_of_ble_eq_true rfl) ⟨Nat.zero_le _, Nat.zero_le _⟩ dX4_goOn_37 (fun b4 μ3 H locs hm hP hS => ?_)
    refine b_icmp_ge (tgt := 75) S dX4_goOn_40 (by decide) hm (fun hm => ?_) (fun hm => ?_)
    · exact r_vret S hr hG hP hS hm dX4_goOn_75
    · refine lv_iload_n hx hb dX4_goOn_43 rfl (lv_at hl 2 rfl) ?_
      refine lv_aload_n hx hb dX4_goOn_44 rfl (lv_at hl 0 rfl) ?_
      refine r_geti S hG hP ho clX4 fX4_2 kX4_23 dX4_goOn_45 ?_
      refine b_icmp_ne (tgt := 60) S dX4_goOn_48 (by decide) hm (fun hm => ?_) (fun hm => ?_)
      · exact wX4_goOn_60 S hr hG hgo ho h1 ih v2 v3 v4 μ3 hm H locs ls hP hS (lv_sub hl [0, 1, 2, 3, 4] rfl)
      · refine lv_iload hx hb dX4_goOn_51 (lv_at hl 4 rfl) ?_
        refine lv_aload_n hx hb dX4_goOn_53 rfl (lv_at hl 0 rfl) ?_
        refine r_geti S hG hP ho clX4 fX4_3 kX4_27 dX4_goOn_54 ?_
        refine b_icmp_ne (tgt := 69) S dX4_goOn_57 (by decide) hm (fun hm => ?_) (fun hm => ?_)
        · exact wX4_goOn_69 S hr hG hgo ho h1 ih v2 v3 v4 μ3 hm H locs ls hP hS (lv_sub hl [0, 1, 2, 3, 4] rfl)
        · exact wX4_goOn_60 S hr hG hgo ho h1 ih v2 v3 v4 μ3 hm H locs ls hP hS (lv_sub hl [0, 1, 2, 3, 4] rfl)
set_option maxHeartbeats 4000000 in
set_option maxRecDepth 100000 in
theorem wX4_goOn_0 {d : Nat} (S : CallFix p m c cX4_goOn 5 s args TB RX4) (hr : meth.sig.returnType = none ∧ meth.locks = false) (hG : gok D cI cR n K L ad s) {go : Int32 → Int32 → Mem → Option Mem} {o : Nat} {r1 : Nat} (hgo : ∀ a b : Int32, Cv l yX4_goOn cX4_goOn 5 none (rmL (4 + 2 * d)) D cI cR n K L ad [.ref (ad o), .ref (ad r1), .int a, .int b] (go a b)) (ho : isk n K o 4) (h1 : isk n K r1 0) {x : Mem} : ∀ (v2 v3 : Int32) (μ : Mem), fX4_goOn_0 L go o r1 v2 v3 μ = some x → WV p l e (rmL (4 + 2 * d + 2)) s m args below meth c D cI cR n K L ad 5 x μ 0 [(0, .ref (ad o)), (1, .ref (ad r1)), (2, .int v2), (3, .int v3)] [] := by
  have hx := S.1
  have hb := S.2.1
  intro v2 v3 μ hm H locs ls hP hS hl
  unfold fX4_goOn_0 at hm
  refine lv_iload_n hx hb dX4_goOn_0 rfl (lv_at hl 3 rfl) ?_
  refine lv_aload_n hx hb dX4_goOn_1 rfl (lv_at hl 0 rfl) ?_
  refine r_geti S hG hP ho clX4 fX4_5 kX4_39 dX4_goOn_2 ?_
  refine b_icmp_ge (tgt := 14) S dX4_goOn_5 (by decide) hm (fun hm => ?_) (fun hm => ?_)
  · exact r_vret S hr hG hP hS hm dX4_goOn_14
  · refine lv_iload_n hx hb dX4_goOn_8 rfl (lv_at hl 2 rfl) ?_
    refine lv_bipush (v := (6 : Int32)) hx hb dX4_goOn_9 (by decide) ?_
    refine b_icmp_le (tgt := 15) S dX4_goOn_11 (by decide) hm (fun hm => ?_) (fun hm => ?_)
    · refine lv_iload_n hx hb dX4_goOn_15 rfl (lv_at hl 2 rfl) ?_
      refine lv_aload_n hx hb dX4_goOn_16 rfl (lv_at hl 1 rfl) ?_
      refine r_vcalli (As := []) (rest := [.int v2]) S hG hP hS mX0_names kX4_64 clX0 h1 (tX0_names _ _ _ _ _ _ _ _ h1) ⟨rfl, rfl⟩ (rm_ok (by omega) (by decide)) hm hl.1 rfl (Nat.le_of_ble_eq_true rfl) ⟨Nat.zero_le _, Nat.zero_le _⟩ dX4_goOn_17 (fun b6 μ5 H locs hm hP hS => ?_)
      refine b_icmp_lt (tgt := 30) S dX4_goOn_20 (by decide) hm (fun hm => ?_) (fun hm => ?_)
      · refine lv_iconst (v := (0 : Int32)) hx hb dX4_goOn_30 (by decide) ?_
        refine lv_istore (lv' := [(4, .int (0 : Int32)), (0, .ref (ad o)), (1, .ref (ad r1)), (2, .int v2), (3, .int v3)]) hx hb dX4_goOn_31 hl (by decide) rfl (fun ls hl => ?_)
        exact wX4_goOn_33 S hr hG hgo ho h1 FU v2 v3 (0 : Int32) μ5 hm H locs ls hP hS (lv_sub hl [1, 2, 3, 4, 0] rfl)
      · refine lv_aload_n hx hb dX4_goOn_23 rfl (lv_at hl 0 rfl) ?_
        refine lv_aload_n hx hb dX4_goOn_24 rfl (lv_at hl 1 rfl) ?_
        refine lv_iload_n hx hb dX4_goOn_25 rfl (lv_at hl 3 rfl) ?_
        refine r_vcallv (As := [.ref (ad r1), .int v3]) (rest := []) S hG hP hS mX4_note kX4_67 clX4 ho (tX4_note _ _ _ _ _ _ _ _ ho h1 v3) ⟨rfl, rfl⟩ (rm_ok (by omega) (by decide)) hm hl.1 rfl (Nat.le_of_ble_eq_true rfl) ⟨Nat.zero_le _, Nat.zero_le _⟩ dX4_goOn_26 (fun μ7 H locs hm hP hS => ?_)
        exact r_vret S hr hG hP hS hm dX4_goOn_29
    · exact r_vret S hr hG hP hS hm dX4_goOn_14
theorem tX4_goOn (d : Nat) (l : Launch) (D : va_G) (cI cR : ClassId) (n : Nat) (K L ad : Nat → Nat) {o : Nat} (ho : isk n K o 4) {r1 : Nat} (h1 : isk n K r1 0) : ∀ (v2 v3 : Int32), Cv l yX4_goOn cX4_goOn 5 none (rmL (4 + 2 * d)) D cI cR n K L ad [.ref (ad o), .ref (ad r1), .int v2, .int v3] (fX4_goOn d L o r1 v2 v3) := by
  induction d with
  | zero => intro v2 v3 μ x hm; exact absurd (show none = some x from hm) (fun h => by cases h)
  | succ d ih =>
    intro v2 v3
    refine Cv.ofW (by decide) (Nat.le_of_ble_eq_true rfl) ?_
    intro μ x hm p e s m args below meth c ls S hr hG hP hS hl
    exact wX4_goOn_0 S hr hG ih ho h1 v2 v3 μ hm _ _ ls hP hS hl
-- X4_goThrough
set_option maxHeartbeats 4000000 in
set_option maxRecDepth 100000 in
theorem wX4_goThrough_0 (S : CallFix p m c cX4_goThrough 5 s args TB RX4) (hr : meth.sig.returnType = none ∧ meth.locks = false) (hG : gok D cI cR n K L ad s) {o : Nat} {r1 : Nat} (ho : isk n K o 4) (h1 : isk n K r1 0) {x : Mem} : ∀ (v2 v3 v4 : Int32) (μ : Mem), fX4_goThrough L o r1 v2 v3 v4 μ = some x → WV p l e (rmL 22) s m args below meth c D cI cR n K L ad 5 x μ 0 [(0, .ref (ad o)), (1, .ref (ad r1)), (2, .int v2), (3, .int v3), (4, .int v4)] [] := by
  have hx := S.1
  have hb := S.2.1
  intro v2 v3 v4 μ hm H locs ls hP hS hl
  unfold fX4_goThrough at hm
  refine lv_aload_n hx hb dX4_goThrough_0 rfl (lv_at hl 0 rfl) ?_
  refine lv_iload_n hx hb dX4_goThrough_1 rfl (lv_at hl 2 rfl) ?_
  refine r_puti S hG hP hS ho clX4 fX4_2 kX4_23 hm dX4_goThrough_2 (fun μ1 H locs hm hP hS => ?_)
  refine lv_aload_n hx hb dX4_goThrough_5 rfl (lv_at hl 0 rfl) ?_
  refine lv_iload_n hx hb dX4_goThrough_6 rfl (lv_at hl 3 rfl) ?_
  refine r_puti S hG hP hS ho clX4 fX4_3 kX4_27 hm dX4_goThrough_7 (fun μ2 H locs hm hP hS => ?_)
  refine lv_aload_n hx hb dX4_goThrough_10 rfl (lv_at hl 0 rfl) ?_
  refine lv_iload hx hb dX4_goThrough_11 (lv_at hl 4 rfl) ?_
  refine r_puti S hG hP hS ho clX4 fX4_4 kX4_30 hm dX4_goThrough_13 (fun μ3 H locs hm hP hS => ?_)
  refine lv_aload_n hx hb dX4_goThrough_16 rfl (lv_at hl 0 rfl) ?_
  refine lv_aload_n hx hb dX4_goThrough_17 rfl (lv_at hl 1 rfl) ?_
  refine r_vcalli (As := []) (rest := [.ref (ad o)]) S hG hP hS mX0_top kX4_33 clX0 h1 (tX0_top _ _ _ _ _ _ _ _ h1) ⟨rfl, rfl⟩ (rm_ok (by decide) (by decide)) hm hl.1 rfl (Nat.le_of_ble_eq_true rfl) ⟨Nat.zero_le _, Nat.zero_le _⟩ dX4_goThrough_18 (fun b5 μ4 H locs hm hP hS => ?_)
  refine r_puti S hG hP hS ho clX4 fX4_5 kX4_39 hm dX4_goThrough_21 (fun μ6 H locs hm hP hS => ?_)
  refine lv_aload_n hx hb dX4_goThrough_24 rfl (lv_at hl 0 rfl) ?_
  refine lv_aload_n hx hb dX4_goThrough_25 rfl (lv_at hl 0 rfl) ?_
  refine r_geti S hG hP ho clX4 fX4_5 kX4_39 dX4_goThrough_26 ?_
  refine r_puti S hG hP hS ho clX4 fX4_6 kX4_42 hm dX4_goThrough_29 (fun μ7 H locs hm hP hS => ?_)
  refine lv_aload_n hx hb dX4_goThrough_32 rfl (lv_at hl 0 rfl) ?_
  refine lv_aload_n hx hb dX4_goThrough_33 rfl (lv_at hl 0 rfl) ?_
  refine r_geti S hG hP ho clX4 fX4_5 kX4_39 dX4_goThrough_34 ?_
  refine r_puti S hG hP hS ho clX4 fX4_7 kX4_45 hm dX4_goThrough_37 (fun μ8 H locs hm hP hS => ?_)
  refine lv_aload_n hx hb dX4_goThrough_40 rfl (lv_at hl 0 rfl) ?_
  refine lv_iconst (v := (0 : Int32)) hx hb dX4_goThrough_41 (by decide) ?_
  refine r_puti S hG hP hS ho clX4 fX4_8 kX4_48 hm dX4_goThrough_42 (fun μ9 H locs hm hP hS => ?_)
  refine lv_aload_n hx hb dX4_goThrough_45 rfl (lv_at hl 0 rfl) ?_
  refine lv_iconst (v := (0 : Int32)) hx hb dX4_goThrough_46 (by decide) ?_
  refine r_puti S hG hP hS ho clX4 fX4_9 kX4_51 hm dX4_goThrough_47 (fun μ10 H locs hm hP hS => ?_)
  refine lv_aload_n hx hb dX4_goThrough_50 rfl (lv_at hl 0 rfl) ?_
  refine lv_iconst (v := (0 : Int32)) hx hb dX4_goThrough_51 (by decide) ?_
  refine r_puti S hG hP hS ho clX4 fX4_10 kX4_54 hm dX4_goThrough_52 (fun μ11 H locs hm hP hS => ?_)
  refine lv_aload_n hx hb dX4_goThrough_55 rfl (lv_at hl 0 rfl) ?_
  refine lv_aload_n hx hb dX4_goThrough_56 rfl (lv_at hl 1 rfl) ?_
  refine lv_iconst (v := (0 : Int32)) hx hb dX4_goThrough_57 (by decide) ?_
  refine lv_aload_n hx hb dX4_goThrough_58 rfl (lv_at hl 1 rfl) ?_
  refine r_vcalli (As := []) (rest := [.int (0 : Int32), .ref (ad r1), .ref (ad o)]) S hG hP hS mX0_constant kX4_57 clX0 h1 (tX0_constant _ _ _ _ _ _ _ _ h1) ⟨rfl, rfl⟩ (rm_ok (by decide) (by decide)) hm hl.1 rfl (Nat.le_of_ble_eq_true rfl) ⟨Nat.zero_le _, Nat.zero_le _⟩ dX4_goThrough_59 (fun b13 μ12 H locs hm hP hS => ?_)
  refine r_vcallv (As := [.ref (ad r1), .int (0 : Int32), .int b13]) (rest := []) S hG hP hS mX4_goOn kX4_60 clX4 ho (tX4_goOn 8 _ _ _ _ _ _ _ _ ho h1 (0 : Int32) b13) ⟨rfl, rfl⟩ (rm_ok (by decide) (by decide)) hm hl.1 rfl (Nat.le_of_ble_eq_true rfl) ⟨Nat.zero_le _, Nat.zero_le _⟩ dX4_goThrough_62 (fun μ14 H locs hm hP hS => ?_)
  exact r_vret S hr hG hP hS hm dX4_goThrough_65
theorem tX4_goThrough (l : Launch) (D : va_G) (cI cR : ClassId) (n : Nat) (K L ad : Nat → Nat) {o : Nat} (ho : isk n K o 4) {r1 : Nat} (h1 : isk n K r1 0) (v2 : Int32) (v3 : Int32) (v4 : Int32) : Cv l yX4_goThrough cX4_goThrough 5 none (rmL 22) D cI cR n K L ad [.ref (ad o), .ref (ad r1), .int v2, .int v3, .int v4] (fX4_goThrough L o r1 v2 v3 v4) := by
  refine Cv.ofW (by decide) (Nat.le_of_ble_eq_true rfl) ?_
  intro μ x hm p e s m args below meth c ls S hr hG hP hS hl
  exact wX4_goThrough_0 S hr hG ho h1 v2 v3 v4 μ hm _ _ ls hP hS hl
-- X4_hasFound
set_option maxHeartbeats 4000000 in
set_option maxRecDepth 100000 in
theorem wX4_hasFound_0 (S : CallFix p m c cX4_hasFound 1 s args TB RX4) (hr : meth.sig.returnType = (some .boolean) ∧ meth.locks = false) (hG : gok D cI cR n K L ad s) {o : Nat} (ho : isk n K o 4) {x : Int32 × Mem} : ∀ (μ : Mem), fX4_hasFound L o μ = some x → WI p l e (rmL 0) s m args below meth c D cI cR n K L ad 1 x μ 0 [(0, .ref (ad o))] [] := by
  have hx := S.1
  have hb := S.2.1
  intro μ hm H locs ls hP hS hl
  unfold fX4_hasFound at hm
  refine lv_aload_n hx hb dX4_hasFound_0 rfl (lv_at hl 0 rfl) ?_
  refine r_geti S hG hP ho clX4 fX4_8 kX4_48 dX4_hasFound_1 ?_
  refine b_if_le (tgt := 11) S dX4_hasFound_4 (by decide) hm (fun hm => ?_) (fun hm => ?_)
  · refine lv_iconst (v := (0 : Int32)) hx hb dX4_hasFound_11 (by decide) ?_
    exact r_zretC S hr hG hP hS rfl hm dX4_hasFound_12
  · refine lv_iconst (v := (1 : Int32)) hx hb dX4_hasFound_7 (by decide) ?_
    refine lv_goto (tgt := 12) hx hb dX4_hasFound_8 (by decide) ?_
    exact r_zretC S hr hG hP hS rfl hm dX4_hasFound_12
theorem tX4_hasFound (l : Launch) (D : va_G) (cI cR : ClassId) (n : Nat) (K L ad : Nat → Nat) {o : Nat} (ho : isk n K o 4) : Ci l yX4_hasFound cX4_hasFound 1 (some .boolean) (rmL 0) D cI cR n K L ad [.ref (ad o)] (fX4_hasFound L o) := by
  refine Ci.ofW (by decide) (Nat.le_of_ble_eq_true rfl) ?_
  intro μ x hm p e s m args below meth c ls S hr hG hP hS hl
  exact wX4_hasFound_0 S hr hG ho μ hm _ _ ls hP hS hl
-- X4_hasSecond
set_option maxHeartbeats 4000000 in
set_option maxRecDepth 100000 in
theorem wX4_hasSecond_0 (S : CallFix p m c cX4_hasSecond 1 s args TB RX4) (hr : meth.sig.returnType = (some .boolean) ∧ meth.locks = false) (hG : gok D cI cR n K L ad s) {o : Nat} (ho : isk n K o 4) {x : Int32 × Mem} : ∀ (μ : Mem), fX4_hasSecond L o μ = some x → WI p l e (rmL 0) s m args below meth c D cI cR n K L ad 1 x μ 0 [(0, .ref (ad o))] [] := by
  have hx := S.1
  have hb := S.2.1
  intro μ hm H locs ls hP hS hl
  unfold fX4_hasSecond at hm
  refine lv_aload_n hx hb dX4_hasSecond_0 rfl (lv_at hl 0 rfl) ?_
  refine r_geti S hG hP ho clX4 fX4_7 kX4_45 dX4_hasSecond_1 ?_
  refine lv_aload_n hx hb dX4_hasSecond_4 rfl (lv_at hl 0 rfl) ?_
  refine r_geti S hG hP ho clX4 fX4_5 kX4_39 dX4_hasSecond_5 ?_
  refine b_icmp_ge (tgt := 15) S dX4_hasSecond_8 (by decide) hm (fun hm => ?_) (fun hm => ?_)
  · refine lv_iconst (v := (0 : Int32)) hx hb dX4_hasSecond_15 (by decide) ?_
    exact r_zretC S hr hG hP hS rfl hm dX4_hasSecond_16
  · refine lv_iconst (v := (1 : Int32)) hx hb dX4_hasSecond_11 (by decide) ?_
    refine lv_goto (tgt := 16) hx hb dX4_hasSecond_12 (by decide) ?_
    exact r_zretC S hr hG hP hS rfl hm dX4_hasSecond_16
theorem tX4_hasSecond (l : Launch) (D : va_G) (cI cR : ClassId) (n : Nat) (K L ad : Nat → Nat) {o : Nat} (ho : isk n K o 4) : Ci l yX4_hasSecond cX4_hasSecond 1 (some .boolean) (rmL 0) D cI cR n K L ad [.ref (ad o)] (fX4_hasSecond L o) := by
  refine Ci.ofW (by decide) (Nat.le_of_ble_eq_true rfl) ?_
  intro μ x hm p e s m args below meth c ls S hr hG hP hS hl
  exact wX4_hasSecond_0 S hr hG ho μ hm _ _ ls hP hS hl
-- X4_leastTotal
set_option maxHeartbeats 4000000 in
set_option maxRecDepth 100000 in
theorem wX4_leastTotal_0 (S : CallFix p m c cX4_leastTotal 1 s args TB RX4) (hr : meth.sig.returnType = (some .int) ∧ meth.locks = false) (hG : gok D cI cR n K L ad s) {o : Nat} (ho : isk n K o 4) {x : Int32 × Mem} : ∀ (μ : Mem), fX4_leastTotal L o μ = some x → WI p l e (rmL 0) s m args below meth c D cI cR n K L ad 1 x μ 0 [(0, .ref (ad o))] [] := by
  have hx := S.1
  have hb := S.2.1
  intro μ hm H locs ls hP hS hl
  unfold fX4_leastTotal at hm
  refine lv_aload_n hx hb dX4_leastTotal_0 rfl (lv_at hl 0 rfl) ?_
  refine r_geti S hG hP ho clX4 fX4_6 kX4_42 dX4_leastTotal_1 ?_
  exact r_iret S hr hG hP hS hm dX4_leastTotal_4
theorem tX4_leastTotal (l : Launch) (D : va_G) (cI cR : ClassId) (n : Nat) (K L ad : Nat → Nat) {o : Nat} (ho : isk n K o 4) : Ci l yX4_leastTotal cX4_leastTotal 1 (some .int) (rmL 0) D cI cR n K L ad [.ref (ad o)] (fX4_leastTotal L o) := by
  refine Ci.ofW (by decide) (Nat.le_of_ble_eq_true rfl) ?_
  intro μ x hm p e s m args below meth c ls S hr hG hP hS hl
  exact wX4_leastTotal_0 S hr hG ho μ hm _ _ ls hP hS hl
-- X4_waysOfLeast
set_option maxHeartbeats 4000000 in
set_option maxRecDepth 100000 in
theorem wX4_waysOfLeast_0 (S : CallFix p m c cX4_waysOfLeast 1 s args TB RX4) (hr : meth.sig.returnType = (some .int) ∧ meth.locks = false) (hG : gok D cI cR n K L ad s) {o : Nat} (ho : isk n K o 4) {x : Int32 × Mem} : ∀ (μ : Mem), fX4_waysOfLeast L o μ = some x → WI p l e (rmL 0) s m args below meth c D cI cR n K L ad 1 x μ 0 [(0, .ref (ad o))] [] := by
  have hx := S.1
  have hb := S.2.1
  intro μ hm H locs ls hP hS hl
  unfold fX4_waysOfLeast at hm
  refine lv_aload_n hx hb dX4_waysOfLeast_0 rfl (lv_at hl 0 rfl) ?_
  refine r_geti S hG hP ho clX4 fX4_8 kX4_48 dX4_waysOfLeast_1 ?_
  exact r_iret S hr hG hP hS hm dX4_waysOfLeast_4
theorem tX4_waysOfLeast (l : Launch) (D : va_G) (cI cR : ClassId) (n : Nat) (K L ad : Nat → Nat) {o : Nat} (ho : isk n K o 4) : Ci l yX4_waysOfLeast cX4_waysOfLeast 1 (some .int) (rmL 0) D cI cR n K L ad [.ref (ad o)] (fX4_waysOfLeast L o) := by
  refine Ci.ofW (by decide) (Nat.le_of_ble_eq_true rfl) ?_
  intro μ x hm p e s m args below meth c ls S hr hG hP hS hl
  exact wX4_waysOfLeast_0 S hr hG ho μ hm _ _ ls hP hS hl
-- X4_secondTotal
set_option maxHeartbeats 4000000 in
set_option maxRecDepth 100000 in
theorem wX4_secondTotal_0 (S : CallFix p m c cX4_secondTotal 1 s args TB RX4) (hr : meth.sig.returnType = (some .int) ∧ meth.locks = false) (hG : gok D cI cR n K L ad s) {o : Nat} (ho : isk n K o 4) {x : Int32 × Mem} : ∀ (μ : Mem), fX4_secondTotal L o μ = some x → WI p l e (rmL 0) s m args below meth c D cI cR n K L ad 1 x μ 0 [(0, .ref (ad o))] [] := by
  have hx := S.1
  have hb := S.2.1
  intro μ hm H locs ls hP hS hl
  unfold fX4_secondTotal at hm
  refine lv_aload_n hx hb dX4_secondTotal_0 rfl (lv_at hl 0 rfl) ?_
  refine r_geti S hG hP ho clX4 fX4_7 kX4_45 dX4_secondTotal_1 ?_
  exact r_iret S hr hG hP hS hm dX4_secondTotal_4
theorem tX4_secondTotal (l : Launch) (D : va_G) (cI cR : ClassId) (n : Nat) (K L ad : Nat → Nat) {o : Nat} (ho : isk n K o 4) : Ci l yX4_secondTotal cX4_secondTotal 1 (some .int) (rmL 0) D cI cR n K L ad [.ref (ad o)] (fX4_secondTotal L o) := by
  refine Ci.ofW (by decide) (Nat.le_of_ble_eq_true rfl) ?_
  intro μ x hm p e s m args below meth c ls S hr hG hP hS hl
  exact wX4_secondTotal_0 S hr hG ho μ hm _ _ ls hP hS hl
-- X4_choicesBelowTop
set_option maxHeartbeats 4000000 in
set_option maxRecDepth 100000 in
theorem wX4_choicesBelowTop_0 (S : CallFix p m c cX4_choicesBelowTop 1 s args TB RX4) (hr : meth.sig.returnType = (some .int) ∧ meth.locks = false) (hG : gok D cI cR n K L ad s) {o : Nat} (ho : isk n K o 4) {x : Int32 × Mem} : ∀ (μ : Mem), fX4_choicesBelowTop L o μ = some x → WI p l e (rmL 0) s m args below meth c D cI cR n K L ad 1 x μ 0 [(0, .ref (ad o))] [] := by
  have hx := S.1
  have hb := S.2.1
  intro μ hm H locs ls hP hS hl
  unfold fX4_choicesBelowTop at hm
  refine lv_aload_n hx hb dX4_choicesBelowTop_0 rfl (lv_at hl 0 rfl) ?_
  refine r_geti S hG hP ho clX4 fX4_9 kX4_51 dX4_choicesBelowTop_1 ?_
  exact r_iret S hr hG hP hS hm dX4_choicesBelowTop_4
theorem tX4_choicesBelowTop (l : Launch) (D : va_G) (cI cR : ClassId) (n : Nat) (K L ad : Nat → Nat) {o : Nat} (ho : isk n K o 4) : Ci l yX4_choicesBelowTop cX4_choicesBelowTop 1 (some .int) (rmL 0) D cI cR n K L ad [.ref (ad o)] (fX4_choicesBelowTop L o) := by
  refine Ci.ofW (by decide) (Nat.le_of_ble_eq_true rfl) ?_
  intro μ x hm p e s m args below meth c ls S hr hG hP hS hl
  exact wX4_choicesBelowTop_0 S hr hG ho μ hm _ _ ls hP hS hl
-- X4_commonValues
set_option maxHeartbeats 4000000 in
set_option maxRecDepth 100000 in
theorem wX4_commonValues_0 (S : CallFix p m c cX4_commonValues 1 s args TB RX4) (hr : meth.sig.returnType = (some .int) ∧ meth.locks = false) (hG : gok D cI cR n K L ad s) {o : Nat} (ho : isk n K o 4) {x : Int32 × Mem} : ∀ (μ : Mem), fX4_commonValues L o μ = some x → WI p l e (rmL 0) s m args below meth c D cI cR n K L ad 1 x μ 0 [(0, .ref (ad o))] [] := by
  have hx := S.1
  have hb := S.2.1
  intro μ hm H locs ls hP hS hl
  unfold fX4_commonValues at hm
  refine lv_aload_n hx hb dX4_commonValues_0 rfl (lv_at hl 0 rfl) ?_
  refine r_geti S hG hP ho clX4 fX4_10 kX4_54 dX4_commonValues_1 ?_
  exact r_iret S hr hG hP hS hm dX4_commonValues_4
theorem tX4_commonValues (l : Launch) (D : va_G) (cI cR : ClassId) (n : Nat) (K L ad : Nat → Nat) {o : Nat} (ho : isk n K o 4) : Ci l yX4_commonValues cX4_commonValues 1 (some .int) (rmL 0) D cI cR n K L ad [.ref (ad o)] (fX4_commonValues L o) := by
  refine Ci.ofW (by decide) (Nat.le_of_ble_eq_true rfl) ?_
  intro μ x hm p e s m args below meth c ls S hr hG hP hS hl
  exact wX4_commonValues_0 S hr hG ho μ hm _ _ ls hP hS hl
-- X4_firstValueOf
set_option maxHeartbeats 4000000 in
set_option maxRecDepth 100000 in
theorem wX4_firstValueOf_0 (S : CallFix p m c cX4_firstValueOf 2 s args TB RX4) (hr : meth.sig.returnType = (some .int) ∧ meth.locks = false) (hG : gok D cI cR n K L ad s) {o : Nat} (ho : isk n K o 4) {x : Int32 × Mem} : ∀ (v1 : Int32) (μ : Mem), fX4_firstValueOf L o v1 μ = some x → WI p l e (rmL 1) s m args below meth c D cI cR n K L ad 2 x μ 0 [(0, .ref (ad o)), (1, .int v1)] [] := by
  have hx := S.1
  have hb := S.2.1
  intro v1 μ hm H locs ls hP hS hl
  unfold fX4_firstValueOf at hm
  refine lv_aload_n hx hb dX4_firstValueOf_0 rfl (lv_at hl 0 rfl) ?_
  refine r_getr S hG hP ho clX4 fX4_1 kX4_20 dX4_firstValueOf_1 ?_
  refine lv_iload_n hx hb dX4_firstValueOf_4 rfl (lv_at hl 1 rfl) ?_
  refine r_vcalli (As := [.int v1]) (rest := []) S hG hP hS mX3_get kX4_103 clX3 (chX4_1 hG ho) (tX3_get _ _ _ _ _ _ _ _ (chX4_1 hG ho) v1) ⟨rfl, rfl⟩ (rm_ok (by decide) (by decide)) hm hl.1 rfl (Nat.le_of_ble_eq_true rfl) ⟨Nat.zero_le _, Nat.zero_le _⟩ dX4_firstValueOf_5 (fun b2 μ1 H locs hm hP hS => ?_)
  exact r_iret S hr hG hP hS hm dX4_firstValueOf_8
theorem tX4_firstValueOf (l : Launch) (D : va_G) (cI cR : ClassId) (n : Nat) (K L ad : Nat → Nat) {o : Nat} (ho : isk n K o 4) (v1 : Int32) : Ci l yX4_firstValueOf cX4_firstValueOf 2 (some .int) (rmL 1) D cI cR n K L ad [.ref (ad o), .int v1] (fX4_firstValueOf L o v1) := by
  refine Ci.ofW (by decide) (Nat.le_of_ble_eq_true rfl) ?_
  intro μ x hm p e s m args below meth c ls S hr hG hP hS hl
  exact wX4_firstValueOf_0 S hr hG ho v1 μ hm _ _ ls hP hS hl
-- X5_projectLeasts
set_option maxHeartbeats 4000000 in
set_option maxRecDepth 100000 in
theorem wX5_projectLeasts_35 (S : CallFix p m c cX5_projectLeasts 5 s args TB RX5) (hr : meth.sig.returnType = none ∧ meth.locks = false) (hG : gok D cI cR n K L ad s) {r0 : Nat} (h0 : isk n K r0 0) {x : Mem} {self2 : Int32 → Int32 → Int32 → Mem → Option Mem} (hs2 : ∀ (v1 v2 v3 : Int32) (μ : Mem), self2 v1 v2 v3 μ = some x → WV p l e (rmL 3) s m args below meth c D cI cR n K L ad 5 x μ 2 [(0, .ref (ad r0)), (1, .int v1), (2, .int v2), (3, .int v3)] []) : ∀ (v1 v2 v3 : Int32) (μ : Mem), fX5_projectLeasts_35 L r0 self2 v1 v2 v3 μ = some x → WV p l e (rmL 3) s m args below meth c D cI cR n K L ad 5 x μ 35 [(0, .ref (ad r0)), (1, .int v1), (2, .int v2), (3, .int v3)] [] := by
  have hx := S.1
  have hb := S.2.1
  intro v1 v2 v3 μ hm H locs ls hP hS hl
  unfold fX5_projectLeasts_35 at hm
  refine r_iinc (b := (1 : Int32)) (k := 3) S hm dX5_projectLeasts_35 hl rfl (by decide) (by decide) (fun a1 ls hm hl => ?_)
  have hl : lv_has ls 5 [(3, .int a1), (0, .ref (ad r0)), (1, .int v1), (2, .int v2)] := hl
  refine lv_goto (tgt := 2) hx hb dX5_projectLeasts_38 (by decide) ?_
  exact hs2 v1 v2 a1 μ hm H locs ls hP hS (lv_sub hl [1, 2, 3, 0] rfl)
set_option maxHeartbeats 4000000 in
set_option maxRecDepth 100000 in
theorem wX5_projectLeasts_2 (S : CallFix p m c cX5_projectLeasts 5 s args TB RX5) (hr : meth.sig.returnType = none ∧ meth.locks = false) (hG : gok D cI cR n K L ad s) {r0 : Nat} (h0 : isk n K r0 0) {x : Mem} : ∀ (k : Nat) (v1 v2 v3 : Int32) (μ : Mem), fX5_projectLeasts_2 L r0 k v1 v2 v3 μ = some x → WV p l e (rmL 3) s m args below meth c D cI cR n K L ad 5 x μ 2 [(0, .ref (ad r0)), (1, .int v1), (2, .int v2), (3, .int v3)] [] := by
  have hx := S.1
  have hb := S.2.1
  intro k
  induction k with
  | zero => intro v1 v2 v3 μ hm; exact absurd (show none = some x from hm) (fun h => by cases h)
  | succ k ih =>
    intro v1 v2 v3 μ hm H locs ls hP hS hl
    have hm : fX5_projectLeasts_2_b L r0 (fX5_projectLeasts_2 L r0 k) v1 v2 v3 μ = some x := hm
    unfold fX5_projectLeasts_2_b at hm
    refine lv_iload_n hx hb dX5_projectLeasts_2 rfl (lv_at hl 3 rfl) ?_
    refine lv_aload_n hx hb dX5_projectLeasts_3 rfl (lv_at hl 0 rfl) ?_
    refine lv_iload_n hx hb dX5_projectLeasts_4 rfl (lv_at hl 1 rfl) ?_
    refine lv_iload_n hx hb dX5_projectLeasts_5 rfl (lv_at hl 2 rfl) ?_
    refine r_vcalli (As := [.int v1, .int v2]) (rest := [.int v3]) S hG hP hS mX0_valuesOn kX5_75 clX0 h0 (tX0_valuesOn _ _ _ _ _ _ _ _ h0 v1 v2) ⟨rfl, rfl⟩ (rm_ok (by decide) (by decide)) hm hl.1 rfl (Nat.le_of_ble_eq_true rfl) ⟨Nat.zero_le _, Nat.zero_le _⟩ dX5_projectLeasts_6 (fun b3 μ2 H locs hm hP hS => ?_)
    refine b_icmp_ge (tgt := 41) S dX5_projectLeasts_9 (by decide) hm (fun hm => ?_) (fun hm => ?_)
    · exact r_vret S hr hG hP hS hm dX5_projectLeasts_41
    · refine lv_aload_n hx hb dX5_projectLeasts_12 rfl (lv_at hl 0 rfl) ?_
      refine lv_iload_n hx hb dX5_projectLeasts_13 rfl (lv_at hl 1 rfl) ?_
      refine lv_iload_n hx hb dX5_projectLeasts_14 rfl (lv_at hl 2 rfl) ?_
      refine lv_iload_n hx hb dX5_projectLeasts_15 rfl (lv_at hl 3 rfl) ?_
      refine r_vcalli (As := [.int v1, .int v2, .int v3]) (rest := []) S hG hP hS mX0_leastPairOf kX5_79 clX0 h0 (tX0_leastPairOf _ _ _ _ _ _ _ _ h0 v1 v2 v3) ⟨rfl, rfl⟩ (rm_ok (by decide) (by decide)) hm hl.1 rfl (Nat.le_of_ble_eq_true rfl) ⟨Nat.zero_le _, Nat.zero_le _⟩ dX5_projectLeasts_16 (fun b5 μ4 H locs hm hP hS => ?_)
      refine lv_istore (lv' := [(4, .int b5), (0, .ref (ad r0)), (1, .int v1), (2, .int v2), (3, .int v3)]) hx hb dX5_projectLeasts_19 hl (by decide) rfl (fun ls hl => ?_)
      refine lv_iload hx hb dX5_projectLeasts_21 (lv_at hl 0 rfl) ?_
      refine b_if_le (tgt := 35) S dX5_projectLeasts_23 (by decide) hm (fun hm => ?_) (fun hm => ?_)
      · exact wX5_projectLeasts_35 S hr hG h0 ih v1 v2 v3 μ4 hm H locs ls hP hS (lv_sub hl [1, 2, 3, 4] rfl)
      · refine lv_aload_n hx hb dX5_projectLeasts_26 rfl (lv_at hl 1 rfl) ?_
        refine lv_iload_n hx hb dX5_projectLeasts_27 rfl (lv_at hl 2 rfl) ?_
        refine lv_iload_n hx hb dX5_projectLeasts_28 rfl (lv_at hl 3 rfl) ?_
        refine lv_iload_n hx hb dX5_projectLeasts_29 rfl (lv_at hl 4 rfl) ?_
        refine lv_iload hx hb dX5_projectLeasts_30 (lv_at hl 0 rfl) ?_
        refine r_vcallv (As := [.int v1, .int v2, .int v3, .int b5]) (rest := []) S hG hP hS mX0_moveToValue kX5_83 clX0 h0 (tX0_moveToValue _ _ _ _ _ _ _ _ h0 v1 v2 v3 b5) ⟨rfl, rfl⟩ (rm_ok (by decide) (by decide)) hm hl.1 rfl (Nat.le_of_ble_eq_true rfl) ⟨Nat.zero_le _, Nat.zero_le _⟩ dX5_projectLeasts_32 (fun μ6 H locs hm hP hS => ?_)
        exact wX5_projectLeasts_35 S hr hG h0 ih v1 v2 v3 μ6 hm H locs ls hP hS (lv_sub hl [1, 2, 3, 4] rfl)
set_option maxHeartbeats 4000000 in
set_option maxRecDepth 100000 in
theorem wX5_projectLeasts_0 (S : CallFix p m c cX5_projectLeasts 5 s args TB RX5) (hr : meth.sig.returnType = none ∧ meth.locks = false) (hG : gok D cI cR n K L ad s) {r0 : Nat} (h0 : isk n K r0 0) {x : Mem} : ∀ (v1 v2 : Int32) (μ : Mem), fX5_projectLeasts L r0 v1 v2 μ = some x → WV p l e (rmL 3) s m args below meth c D cI cR n K L ad 5 x μ 0 [(0, .ref (ad r0)), (1, .int v1), (2, .int v2)] [] := by
  have hx := S.1
  have hb := S.2.1
  intro v1 v2 μ hm H locs ls hP hS hl
  unfold fX5_projectLeasts at hm
  refine lv_iconst (v := (0 : Int32)) hx hb dX5_projectLeasts_0 (by decide) ?_
  refine lv_istore_n (lv' := [(3, .int (0 : Int32)), (0, .ref (ad r0)), (1, .int v1), (2, .int v2)]) hx hb dX5_projectLeasts_1 rfl hl (by decide) rfl (fun ls hl => ?_)
  exact wX5_projectLeasts_2 S hr hG h0 FU v1 v2 (0 : Int32) μ hm H locs ls hP hS (lv_sub hl [1, 2, 3, 0] rfl)
theorem tX5_projectLeasts (l : Launch) (D : va_G) (cI cR : ClassId) (n : Nat) (K L ad : Nat → Nat) {r0 : Nat} (h0 : isk n K r0 0) (v1 : Int32) (v2 : Int32) : Cv l yX5_projectLeasts cX5_projectLeasts 5 none (rmL 3) D cI cR n K L ad [.ref (ad r0), .int v1, .int v2] (fX5_projectLeasts L r0 v1 v2) := by
  refine Cv.ofW (by decide) (Nat.le_of_ble_eq_true rfl) ?_
  intro μ x hm p e s m args below meth c ls S hr hG hP hS hl
  exact wX5_projectLeasts_0 S hr hG h0 v1 v2 μ hm _ _ ls hP hS hl
-- X5_doArcs
set_option maxHeartbeats 4000000 in
set_option maxRecDepth 100000 in
theorem wX5_doArcs_2 (S : CallFix p m c cX5_doArcs 2 s args TB RX5) (hr : meth.sig.returnType = none ∧ meth.locks = false) (hG : gok D cI cR n K L ad s) {r0 : Nat} (h0 : isk n K r0 0) {x : Mem} : ∀ (k : Nat) (v1 : Int32) (μ : Mem), fX5_doArcs_2 L r0 k v1 μ = some x → WV p l e (rmL 4) s m args below meth c D cI cR n K L ad 2 x μ 2 [(0, .ref (ad r0)), (1, .int v1)] [] := by
  have hx := S.1
  have hb := S.2.1
  intro k
  induction k with
  | zero => intro v1 μ hm; exact absurd (show none = some x from hm) (fun h => by cases h)
  | succ k ih =>
    intro v1 μ hm H locs ls hP hS hl
    have hm : fX5_doArcs_2_b L r0 (fX5_doArcs_2 L r0 k) v1 μ = some x := hm
    unfold fX5_doArcs_2_b at hm
    refine lv_iload_n hx hb dX5_doArcs_2 rfl (lv_at hl 1 rfl) ?_
    refine lv_aload_n hx hb dX5_doArcs_3 rfl (lv_at hl 0 rfl) ?_
    refine r_vcalli (As := []) (rest := [.int v1]) S hG hP hS mX0_tables kX5_65 clX0 h0 (tX0_tables _ _ _ _ _ _ _ _ h0) ⟨rfl, rfl⟩ (rm_ok (by decide) (by decide)) hm hl.1 rfl (Nat.le_of_ble_eq_true rfl) ⟨Nat.zero_le _, Nat.zero_le _⟩ dX5_doArcs_4 (fun b2 μ1 H locs hm hP hS => ?_)
    refine b_icmp_ge (tgt := 33) S dX5_doArcs_7 (by decide) hm (fun hm => ?_) (fun hm => ?_)
    · exact r_vret S hr hG hP hS hm dX5_doArcs_33
    · refine lv_aload_n hx hb dX5_doArcs_10 rfl (lv_at hl 0 rfl) ?_
      refine lv_iload_n hx hb dX5_doArcs_11 rfl (lv_at hl 1 rfl) ?_
      refine r_vcallv (As := [.int v1]) (rest := []) S hG hP hS mX0_topPairsOfTopSingles kX5_68 clX0 h0 (tX0_topPairsOfTopSingles _ _ _ _ _ _ _ _ h0 v1) ⟨rfl, rfl⟩ (rm_ok (by decide) (by decide)) hm hl.1 rfl (Nat.le_of_ble_eq_true rfl) ⟨Nat.zero_le _, Nat.zero_le _⟩ dX5_doArcs_12 (fun μ3 H locs hm hP hS => ?_)
      refine lv_aload_n hx hb dX5_doArcs_15 rfl (lv_at hl 0 rfl) ?_
      refine lv_iload_n hx hb dX5_doArcs_16 rfl (lv_at hl 1 rfl) ?_
      refine lv_iconst (v := (0 : Int32)) hx hb dX5_doArcs_17 (by decide) ?_
      refine r_scallv (As := [.ref (ad r0), .int v1, .int (0 : Int32)]) (rest := []) S hG hP hS mX5_projectLeasts kX5_71 (tX5_projectLeasts _ _ _ _ _ _ _ _ h0 v1 (0 : Int32)) ⟨rfl, rfl⟩ (rm_ok (by decide) (by decide)) hm hl.1 rfl (Nat.le_of_ble_eq_true rfl) ⟨Nat.zero_le _, Nat.zero_le _⟩ dX5_doArcs_18 (fun μ4 H locs hm hP hS => ?_)
      refine lv_aload_n hx hb dX5_doArcs_21 rfl (lv_at hl 0 rfl) ?_
      refine lv_iload_n hx hb dX5_doArcs_22 rfl (lv_at hl 1 rfl) ?_
      refine lv_iconst (v := (1 : Int32)) hx hb dX5_doArcs_23 (by decide) ?_
      refine r_scallv (As := [.ref (ad r0), .int v1, .int (1 : Int32)]) (rest := []) S hG hP hS mX5_projectLeasts kX5_71 (tX5_projectLeasts _ _ _ _ _ _ _ _ h0 v1 (1 : Int32)) ⟨rfl, rfl⟩ (rm_ok (by decide) (by decide)) hm hl.1 rfl (Nat.le_of_ble_eq_true rfl) ⟨Nat.zero_le _, Nat.zero_le _⟩ dX5_doArcs_24 (fun μ5 H locs hm hP hS => ?_)
      refine r_iinc (b := (1 : Int32)) (k := 1) S hm dX5_doArcs_27 hl rfl (by decide) (by decide) (fun a6 ls hm hl => ?_)
      have hl : lv_has ls 2 [(1, .int a6), (0, .ref (ad r0))] := hl
      refine lv_goto (tgt := 2) hx hb dX5_doArcs_30 (by decide) ?_
      exact ih a6 μ5 hm H locs ls hP hS (lv_sub hl [1, 0] rfl)
set_option maxHeartbeats 4000000 in
set_option maxRecDepth 100000 in
theorem wX5_doArcs_0 (S : CallFix p m c cX5_doArcs 2 s args TB RX5) (hr : meth.sig.returnType = none ∧ meth.locks = false) (hG : gok D cI cR n K L ad s) {r0 : Nat} (h0 : isk n K r0 0) {x : Mem} : ∀ (μ : Mem), fX5_doArcs L r0 μ = some x → WV p l e (rmL 4) s m args below meth c D cI cR n K L ad 2 x μ 0 [(0, .ref (ad r0))] [] := by
  have hx := S.1
  have hb := S.2.1
  intro μ hm H locs ls hP hS hl
  unfold fX5_doArcs at hm
  refine lv_iconst (v := (0 : Int32)) hx hb dX5_doArcs_0 (by decide) ?_
  refine lv_istore_n (lv' := [(1, .int (0 : Int32)), (0, .ref (ad r0))]) hx hb dX5_doArcs_1 rfl hl (by decide) rfl (fun ls hl => ?_)
  exact wX5_doArcs_2 S hr hG h0 FU (0 : Int32) μ hm H locs ls hP hS (lv_sub hl [1, 0] rfl)
theorem tX5_doArcs (l : Launch) (D : va_G) (cI cR : ClassId) (n : Nat) (K L ad : Nat → Nat) {r0 : Nat} (h0 : isk n K r0 0) : Cv l yX5_doArcs cX5_doArcs 2 none (rmL 4) D cI cR n K L ad [.ref (ad r0)] (fX5_doArcs L r0) := by
  refine Cv.ofW (by decide) (Nat.le_of_ble_eq_true rfl) ?_
  intro μ x hm p e s m args below meth c ls S hr hG hP hS hl
  exact wX5_doArcs_0 S hr hG h0 μ hm _ _ ls hP hS hl
-- X5_reachOf
set_option maxHeartbeats 4000000 in
set_option maxRecDepth 100000 in
theorem wX5_reachOf_16 (S : CallFix p m c cX5_reachOf 6 s args TB RX5) (hr : meth.sig.returnType = (some .int) ∧ meth.locks = false) (hG : gok D cI cR n K L ad s) {r0 : Nat} (h0 : isk n K r0 0) {x : Int32 × Mem} : ∀ (k : Nat) (v1 v2 v3 v4 v5 : Int32) (μ : Mem), fX5_reachOf_16 L r0 k v1 v2 v3 v4 v5 μ = some x → WI p l e (rmL 2) s m args below meth c D cI cR n K L ad 6 x μ 16 [(0, .ref (ad r0)), (1, .int v1), (2, .int v2), (3, .int v3), (4, .int v4), (5, .int v5)] [] := by
  have hx := S.1
  have hb := S.2.1
  intro k
  induction k with
  | zero => intro v1 v2 v3 v4 v5 μ hm; exact absurd (show none = some x from hm) (fun h => by cases h)
  | succ k ih =>
    intro v1 v2 v3 v4 v5 μ hm H locs ls hP hS hl
    have hm : fX5_reachOf_16_b L r0 (fX5_reachOf_16 L r0 k) v1 v2 v3 v4 v5 μ = some x := hm
    unfold fX5_reachOf_16_b at hm
    refine lv_iload hx hb dX5_reachOf_16 (lv_at hl 5 rfl) ?_
    refine lv_aload_n hx hb dX5_reachOf_18 rfl (lv_at hl 0 rfl) ?_
    refine lv_iload_n hx hb dX5_reachOf_19 rfl (lv_at hl 3 rfl) ?_
    refine r_vcalli (As := [.int v3]) (rest := [.int v5]) S hG hP hS mX0_valuesOf kX5_112 clX0 h0 (tX0_valuesOf _ _ _ _ _ _ _ _ h0 v3) ⟨rfl, rfl⟩ (rm_ok (by decide) (by decide)) hm hl.1 rfl (Nat.le_of_ble_eq_true rfl) ⟨Nat.zero_le _, Nat.zero_le _⟩ dX5_reachOf_20 (fun b2 μ1 H locs hm hP hS => ?_)
    refine b_icmp_ge (tgt := 58) S dX5_reachOf_23 (by decide) hm (fun hm => ?_) (fun hm => ?_)
    · refine lv_iload hx hb dX5_reachOf_58 (lv_at hl 4 rfl) ?_
      exact r_iret S hr hG hP hS hm dX5_reachOf_60
    · refine lv_iload hx hb dX5_reachOf_26 (lv_at hl 4 rfl) ?_
      refine lv_aload_n hx hb dX5_reachOf_28 rfl (lv_at hl 0 rfl) ?_
      refine lv_aload_n hx hb dX5_reachOf_29 rfl (lv_at hl 0 rfl) ?_
      refine lv_iload_n hx hb dX5_reachOf_30 rfl (lv_at hl 1 rfl) ?_
      refine lv_iload_n hx hb dX5_reachOf_31 rfl (lv_at hl 2 rfl) ?_
      refine lv_iload hx hb dX5_reachOf_32 (lv_at hl 5 rfl) ?_
      refine r_vcalli (As := [.int v1, .int v2, .int v5]) (rest := [.ref (ad r0), .int v4]) S hG hP hS mX0_pairCost kX5_115 clX0 h0 (tX0_pairCost _ _ _ _ _ _ _ _ h0 v1 v2 v5) ⟨rfl, rfl⟩ (rm_ok (by decide) (by decide)) hm hl.1 rfl (Nat.le_of_ble_eq_true rfl) ⟨Nat.zero_le _, Nat.zero_le _⟩ dX5_reachOf_34 (fun b4 μ3 H locs hm hP hS => ?_)
      refine lv_aload_n hx hb dX5_reachOf_37 rfl (lv_at hl 0 rfl) ?_
      refine lv_iload_n hx hb dX5_reachOf_38 rfl (lv_at hl 3 rfl) ?_
      refine lv_iload hx hb dX5_reachOf_39 (lv_at hl 5 rfl) ?_
      refine r_vcalli (As := [.int v3, .int v5]) (rest := [.int b4, .ref (ad r0), .int v4]) S hG hP hS mX0_singleCost kX5_118 clX0 h0 (tX0_singleCost _ _ _ _ _ _ _ _ h0 v3 v5) ⟨rfl, rfl⟩ (rm_ok (by decide) (by decide)) hm hl.1 rfl (Nat.le_of_ble_eq_true rfl) ⟨Nat.zero_le _, Nat.zero_le _⟩ dX5_reachOf_41 (fun b6 μ5 H locs hm hP hS => ?_)
      refine r_vcalli (As := [.int b4, .int b6]) (rest := [.int v4]) S hG hP hS mX0_sum kX5_121 clX0 h0 (tX0_sum _ _ _ _ _ _ _ _ h0 b4 b6) ⟨rfl, rfl⟩ (rm_ok (by decide) (by decide)) hm hl.1 rfl (Nat.le_of_ble_eq_true rfl) ⟨Nat.zero_le _, Nat.zero_le _⟩ dX5_reachOf_44 (fun b8 μ7 H locs hm hP hS => ?_)
      refine r_min S hl.1 kX5_124 ⟨Nat.le_of_ble_eq_true rfl, Nat.le_of_ble_eq_true rfl⟩ ⟨Nat.zero_le _, Nat.zero_le _⟩ dX5_reachOf_47 ?_
      refine r_top hm (fun a9 hm => ?_)
      refine lv_istore (lv' := [(4, .int a9), (0, .ref (ad r0)), (1, .int v1), (2, .int v2), (3, .int v3), (5, .int v5)]) hx hb dX5_reachOf_50 hl (by decide) rfl (fun ls hl => ?_)
      refine r_iinc (b := (1 : Int32)) (k := 5) S hm dX5_reachOf_52 hl rfl (by decide) (by decide) (fun a10 ls hm hl => ?_)
      have hl : lv_has ls 6 [(5, .int a10), (4, .int a9), (0, .ref (ad r0)), (1, .int v1), (2, .int v2), (3, .int v3)] := hl
      refine lv_goto (tgt := 16) hx hb dX5_reachOf_55 (by decide) ?_
      exact ih v1 v2 v3 a9 a10 μ7 hm H locs ls hP hS (lv_sub hl [2, 3, 4, 5, 1, 0] rfl)
set_option maxHeartbeats 4000000 in
set_option maxRecDepth 100000 in
theorem wX5_reachOf_0 (S : CallFix p m c cX5_reachOf 6 s args TB RX5) (hr : meth.sig.returnType = (some .int) ∧ meth.locks = false) (hG : gok D cI cR n K L ad s) {r0 : Nat} (h0 : isk n K r0 0) {x : Int32 × Mem} : ∀ (v1 v2 : Int32) (μ : Mem), fX5_reachOf L r0 v1 v2 μ = some x → WI p l e (rmL 2) s m args below meth c D cI cR n K L ad 6 x μ 0 [(0, .ref (ad r0)), (1, .int v1), (2, .int v2)] [] := by
  have hx := S.1
  have hb := S.2.1
  intro v1 v2 μ hm H locs ls hP hS hl
  unfold fX5_reachOf at hm
  refine lv_aload_n hx hb dX5_reachOf_0 rfl (lv_at hl 0 rfl) ?_
  refine lv_iload_n hx hb dX5_reachOf_1 rfl (lv_at hl 1 rfl) ?_
  refine lv_iconst (v := (1 : Int32)) hx hb dX5_reachOf_2 (by decide) ?_
  refine r_vcalli (As := [.int v1, .int (1 : Int32)]) (rest := []) S hG hP hS mX0_nameOn kX5_87 clX0 h0 (tX0_nameOn _ _ _ _ _ _ _ _ h0 v1 (1 : Int32)) ⟨rfl, rfl⟩ (rm_ok (by decide) (by decide)) hm hl.1 rfl (Nat.le_of_ble_eq_true rfl) ⟨Nat.zero_le _, Nat.zero_le _⟩ dX5_reachOf_3 (fun b12 μ11 H locs hm hP hS => ?_)
  refine lv_istore_n (lv' := [(3, .int b12), (0, .ref (ad r0)), (1, .int v1), (2, .int v2)]) hx hb dX5_reachOf_6 rfl hl (by decide) rfl (fun ls hl => ?_)
  refine lv_aload_n hx hb dX5_reachOf_7 rfl (lv_at hl 1 rfl) ?_
  refine r_vcalli (As := []) (rest := []) S hG hP hS mX0_top kX5_109 clX0 h0 (tX0_top _ _ _ _ _ _ _ _ h0) ⟨rfl, rfl⟩ (rm_ok (by decide) (by decide)) hm hl.1 rfl (Nat.le_of_ble_eq_true rfl) ⟨Nat.zero_le _, Nat.zero_le _⟩ dX5_reachOf_8 (fun b14 μ13 H locs hm hP hS => ?_)
  refine lv_istore (lv' := [(4, .int b14), (3, .int b12), (0, .ref (ad r0)), (1, .int v1), (2, .int v2)]) hx hb dX5_reachOf_11 hl (by decide) rfl (fun ls hl => ?_)
  refine lv_iconst (v := (0 : Int32)) hx hb dX5_reachOf_13 (by decide) ?_
  refine lv_istore (lv' := [(5, .int (0 : Int32)), (4, .int b14), (3, .int b12), (0, .ref (ad r0)), (1, .int v1), (2, .int v2)]) hx hb dX5_reachOf_14 hl (by decide) rfl (fun ls hl => ?_)
  exact wX5_reachOf_16 S hr hG h0 FU v1 v2 b12 b14 (0 : Int32) μ13 hm H locs ls hP hS (lv_sub hl [3, 4, 5, 2, 1, 0] rfl)
theorem tX5_reachOf (l : Launch) (D : va_G) (cI cR : ClassId) (n : Nat) (K L ad : Nat → Nat) {r0 : Nat} (h0 : isk n K r0 0) (v1 : Int32) (v2 : Int32) : Ci l yX5_reachOf cX5_reachOf 6 (some .int) (rmL 2) D cI cR n K L ad [.ref (ad r0), .int v1, .int v2] (fX5_reachOf L r0 v1 v2) := by
  refine Ci.ofW (by decide) (Nat.le_of_ble_eq_true rfl) ?_
  intro μ x hm p e s m args below meth c ls S hr hG hP hS hl
  exact wX5_reachOf_0 S hr hG h0 v1 v2 μ hm _ _ ls hP hS hl
-- X5_needOf
set_option maxHeartbeats 4000000 in
set_option maxRecDepth 100000 in
theorem wX5_needOf_6 (S : CallFix p m c cX5_needOf 6 s args TB RX5) (hr : meth.sig.returnType = (some .int) ∧ meth.locks = false) (hG : gok D cI cR n K L ad s) {o : Nat} {r1 : Nat} (ho : isk n K o 5) (h1 : isk n K r1 0) {x : Int32 × Mem} : ∀ (k : Nat) (v2 v3 v4 v5 : Int32) (μ : Mem), fX5_needOf_6 L o r1 k v2 v3 v4 v5 μ = some x → WI p l e (rmL 2) s m args below meth c D cI cR n K L ad 6 x μ 6 [(0, .ref (ad o)), (1, .ref (ad r1)), (2, .int v2), (3, .int v3), (4, .int v4), (5, .int v5)] [] := by
  have hx := S.1
  have hb := S.2.1
  intro k
  induction k with
  | zero => intro v2 v3 v4 v5 μ hm; exact absurd (show none = some x from hm) (fun h => by cases h)
  | succ k ih =>
    intro v2 v3 v4 v5 μ hm H locs ls hP hS hl
    have hm : fX5_needOf_6_b L o r1 (fX5_needOf_6 L o r1 k) v2 v3 v4 v5 μ = some x := hm
    unfold fX5_needOf_6_b at hm
    refine lv_iload hx hb dX5_needOf_6 (lv_at hl 5 rfl) ?_
    refine lv_aload_n hx hb dX5_needOf_8 rfl (lv_at hl 1 rfl) ?_
    refine lv_iload_n hx hb dX5_needOf_9 rfl (lv_at hl 2 rfl) ?_
    refine lv_iconst (v := (0 : Int32)) hx hb dX5_needOf_10 (by decide) ?_
    refine r_vcalli (As := [.int v2, .int (0 : Int32)]) (rest := [.int v5]) S hG hP hS mX0_valuesOn kX5_75 clX0 h1 (tX0_valuesOn _ _ _ _ _ _ _ _ h1 v2 (0 : Int32)) ⟨rfl, rfl⟩ (rm_ok (by decide) (by decide)) hm hl.1 rfl (Nat.le_of_ble_eq_true rfl) ⟨Nat.zero_le _, Nat.zero_le _⟩ dX5_needOf_11 (fun b2 μ1 H locs hm hP hS => ?_)
    refine b_icmp_ge (tgt := 48) S dX5_needOf_14 (by decide) hm (fun hm => ?_) (fun hm => ?_)
    · refine lv_iload hx hb dX5_needOf_48 (lv_at hl 4 rfl) ?_
      exact r_iret S hr hG hP hS hm dX5_needOf_50
    · refine lv_iload hx hb dX5_needOf_17 (lv_at hl 4 rfl) ?_
      refine lv_aload_n hx hb dX5_needOf_19 rfl (lv_at hl 0 rfl) ?_
      refine r_getr S hG hP ho clX5 fX5_1 kX5_20 dX5_needOf_20 ?_
      refine lv_iload hx hb dX5_needOf_23 (lv_at hl 5 rfl) ?_
      refine r_vcalli (As := [.int v5]) (rest := [.int v4]) S hG hP hS mX3_get kX5_103 clX3 (chX5_1 hG ho) (tX3_get _ _ _ _ _ _ _ _ (chX5_1 hG ho) v5) ⟨rfl, rfl⟩ (rm_ok (by decide) (by decide)) hm hl.1 rfl (Nat.le_of_ble_eq_true rfl) ⟨Nat.zero_le _, Nat.zero_le _⟩ dX5_needOf_25 (fun b4 μ3 H locs hm hP hS => ?_)
      refine lv_aload_n hx hb dX5_needOf_28 rfl (lv_at hl 1 rfl) ?_
      refine lv_iload_n hx hb dX5_needOf_29 rfl (lv_at hl 2 rfl) ?_
      refine lv_iload hx hb dX5_needOf_30 (lv_at hl 5 rfl) ?_
      refine lv_iload_n hx hb dX5_needOf_32 rfl (lv_at hl 3 rfl) ?_
      refine r_vcalli (As := [.int v2, .int v5, .int v3]) (rest := [.int b4, .int v4]) S hG hP hS mX0_pairCost kX5_115 clX0 h1 (tX0_pairCost _ _ _ _ _ _ _ _ h1 v2 v5 v3) ⟨rfl, rfl⟩ (rm_ok (by decide) (by decide)) hm hl.1 rfl (Nat.le_of_ble_eq_true rfl) ⟨Nat.zero_le _, Nat.zero_le _⟩ dX5_needOf_33 (fun b6 μ5 H locs hm hP hS => ?_)
      refine lv_isub hx hb dX5_needOf_36 ?_
      refine r_max S hl.1 kX5_129 ⟨Nat.le_of_ble_eq_true rfl, Nat.le_of_ble_eq_true rfl⟩ ⟨Nat.zero_le _, Nat.zero_le _⟩ dX5_needOf_37 ?_
      refine r_top hm (fun a7 hm => ?_)
      refine lv_istore (lv' := [(4, .int a7), (0, .ref (ad o)), (1, .ref (ad r1)), (2, .int v2), (3, .int v3), (5, .int v5)]) hx hb dX5_needOf_40 hl (by decide) rfl (fun ls hl => ?_)
      refine r_iinc (b := (1 : Int32)) (k := 5) S hm dX5_needOf_42 hl rfl (by decide) (by decide) (fun a8 ls hm hl => ?_)
      have hl : lv_has ls 6 [(5, .int a8), (4, .int a7), (0, .ref (ad o)), (1, .ref (ad r1)), (2, .int v2), (3, .int v3)] := hl
      refine lv_goto (tgt := 6) hx hb dX5_needOf_45 (by decide) ?_
      exact ih v2 v3 a7 a8 μ5 hm H locs ls hP hS (lv_sub hl [2, 3, 4, 5, 1, 0] rfl)
set_option maxHeartbeats 4000000 in
set_option maxRecDepth 100000 in
theorem wX5_needOf_0 (S : CallFix p m c cX5_needOf 6 s args TB RX5) (hr : meth.sig.returnType = (some .int) ∧ meth.locks = false) (hG : gok D cI cR n K L ad s) {o : Nat} {r1 : Nat} (ho : isk n K o 5) (h1 : isk n K r1 0) {x : Int32 × Mem} : ∀ (v2 v3 : Int32) (μ : Mem), fX5_needOf L o r1 v2 v3 μ = some x → WI p l e (rmL 2) s m args below meth c D cI cR n K L ad 6 x μ 0 [(0, .ref (ad o)), (1, .ref (ad r1)), (2, .int v2), (3, .int v3)] [] := by
  have hx := S.1
  have hb := S.2.1
  intro v2 v3 μ hm H locs ls hP hS hl
  unfold fX5_needOf at hm
  refine lv_iconst (v := (0 : Int32)) hx hb dX5_needOf_0 (by decide) ?_
  refine lv_istore (lv' := [(4, .int (0 : Int32)), (0, .ref (ad o)), (1, .ref (ad r1)), (2, .int v2), (3, .int v3)]) hx hb dX5_needOf_1 hl (by decide) rfl (fun ls hl => ?_)
  refine lv_iconst (v := (0 : Int32)) hx hb dX5_needOf_3 (by decide) ?_
  refine lv_istore (lv' := [(5, .int (0 : Int32)), (4, .int (0 : Int32)), (0, .ref (ad o)), (1, .ref (ad r1)), (2, .int v2), (3, .int v3)]) hx hb dX5_needOf_4 hl (by decide) rfl (fun ls hl => ?_)
  exact wX5_needOf_6 S hr hG ho h1 FU v2 v3 (0 : Int32) (0 : Int32) μ hm H locs ls hP hS (lv_sub hl [2, 3, 4, 5, 1, 0] rfl)
theorem tX5_needOf (l : Launch) (D : va_G) (cI cR : ClassId) (n : Nat) (K L ad : Nat → Nat) {o : Nat} (ho : isk n K o 5) {r1 : Nat} (h1 : isk n K r1 0) (v2 : Int32) (v3 : Int32) : Ci l yX5_needOf cX5_needOf 6 (some .int) (rmL 2) D cI cR n K L ad [.ref (ad o), .ref (ad r1), .int v2, .int v3] (fX5_needOf L o r1 v2 v3) := by
  refine Ci.ofW (by decide) (Nat.le_of_ble_eq_true rfl) ?_
  intro μ x hm p e s m args below meth c ls S hr hG hP hS hl
  exact wX5_needOf_0 S hr hG ho h1 v2 v3 μ hm _ _ ls hP hS hl
-- X5_direct
set_option maxHeartbeats 4000000 in
set_option maxRecDepth 100000 in
theorem wX5_direct_167 (S : CallFix p m c cX5_direct 6 s args TB RX5) (hr : meth.sig.returnType = none ∧ meth.locks = false) (hG : gok D cI cR n K L ad s) {o : Nat} {r1 : Nat} (ho : isk n K o 5) (h1 : isk n K r1 0) {x : Mem} {self132 : Int32 → Int32 → Int32 → Mem → Option Mem} (hs132 : ∀ (v2 v3 v5 : Int32) (μ : Mem), self132 v2 v3 v5 μ = some x → WV p l e (rmL 3) s m args below meth c D cI cR n K L ad 6 x μ 132 [(0, .ref (ad o)), (1, .ref (ad r1)), (2, .int v2), (3, .int v3), (5, .int v5)] []) : ∀ (v2 v3 v5 : Int32) (μ : Mem), fX5_direct_167 L o r1 self132 v2 v3 v5 μ = some x → WV p l e (rmL 3) s m args below meth c D cI cR n K L ad 6 x μ 167 [(0, .ref (ad o)), (1, .ref (ad r1)), (2, .int v2), (3, .int v3), (5, .int v5)] [] := by
  have hx := S.1
  have hb := S.2.1
  intro v2 v3 v5 μ hm H locs ls hP hS hl
  unfold fX5_direct_167 at hm
  refine r_iinc (b := (1 : Int32)) (k := 4) S hm dX5_direct_167 hl rfl (by decide) (by decide) (fun a1 ls hm hl => ?_)
  have hl : lv_has ls 6 [(5, .int a1), (0, .ref (ad o)), (1, .ref (ad r1)), (2, .int v2), (3, .int v3)] := hl
  refine lv_goto (tgt := 132) hx hb dX5_direct_170 (by decide) ?_
  exact hs132 v2 v3 a1 μ hm H locs ls hP hS (lv_sub hl [1, 2, 3, 4, 0] rfl)
set_option maxHeartbeats 4000000 in
set_option maxRecDepth 100000 in
theorem wX5_direct_132 (S : CallFix p m c cX5_direct 6 s args TB RX5) (hr : meth.sig.returnType = none ∧ meth.locks = false) (hG : gok D cI cR n K L ad s) {o : Nat} {r1 : Nat} (ho : isk n K o 5) (h1 : isk n K r1 0) {x : Mem} : ∀ (k : Nat) (v2 v3 v5 : Int32) (μ : Mem), fX5_direct_132 L o r1 k v2 v3 v5 μ = some x → WV p l e (rmL 3) s m args below meth c D cI cR n K L ad 6 x μ 132 [(0, .ref (ad o)), (1, .ref (ad r1)), (2, .int v2), (3, .int v3), (5, .int v5)] [] := by
  have hx := S.1
  have hb := S.2.1
  intro k
  induction k with
  | zero => intro v2 v3 v5 μ hm; exact absurd (show none = some x from hm) (fun h => by cases h)
  | succ k ih =>
    intro v2 v3 v5 μ hm H locs ls hP hS hl
    have hm : fX5_direct_132_b L o r1 (fX5_direct_132 L o r1 k) v2 v3 v5 μ = some x := hm
    unfold fX5_direct_132_b at hm
    refine lv_iload hx hb dX5_direct_132 (lv_at hl 4 rfl) ?_
    refine lv_iload_n hx hb dX5_direct_134 rfl (lv_at hl 3 rfl) ?_
    refine b_icmp_ge (tgt := 173) S dX5_direct_135 (by decide) hm (fun hm => ?_) (fun hm => ?_)
    · exact r_vret S hr hG hP hS hm dX5_direct_173
    · refine lv_aload_n hx hb dX5_direct_138 rfl (lv_at hl 0 rfl) ?_
      refine r_getr S hG hP ho clX5 fX5_1 kX5_20 dX5_direct_139 ?_
      refine lv_iload hx hb dX5_direct_142 (lv_at hl 4 rfl) ?_
      refine r_vcalli (As := [.int v5]) (rest := []) S hG hP hS mX3_get kX5_103 clX3 (chX5_1 hG ho) (tX3_get _ _ _ _ _ _ _ _ (chX5_1 hG ho) v5) ⟨rfl, rfl⟩ (rm_ok (by decide) (by decide)) hm hl.1 rfl (Nat.le_of_ble_eq_true rfl) ⟨Nat.zero_le _, Nat.zero_le _⟩ dX5_direct_144 (fun b3 μ2 H locs hm hP hS => ?_)
      refine b_if_le (tgt := 167) S dX5_direct_147 (by decide) hm (fun hm => ?_) (fun hm => ?_)
      · exact wX5_direct_167 S hr hG ho h1 ih v2 v3 v5 μ2 hm H locs ls hP hS (lv_sub hl [0, 1, 2, 3, 4] rfl)
      · refine lv_aload_n hx hb dX5_direct_150 rfl (lv_at hl 1 rfl) ?_
        refine lv_iload_n hx hb dX5_direct_151 rfl (lv_at hl 2 rfl) ?_
        refine lv_iconst (v := (0 : Int32)) hx hb dX5_direct_152 (by decide) ?_
        refine lv_iload hx hb dX5_direct_153 (lv_at hl 4 rfl) ?_
        refine lv_aload_n hx hb dX5_direct_155 rfl (lv_at hl 0 rfl) ?_
        refine r_getr S hG hP ho clX5 fX5_1 kX5_20 dX5_direct_156 ?_
        refine lv_iload hx hb dX5_direct_159 (lv_at hl 4 rfl) ?_
        refine r_vcalli (As := [.int v5]) (rest := [.int v5, .int (0 : Int32), .int v2, .ref (ad r1)]) S hG hP hS mX3_get kX5_103 clX3 (chX5_1 hG ho) (tX3_get _ _ _ _ _ _ _ _ (chX5_1 hG ho) v5) ⟨rfl, rfl⟩ (rm_ok (by decide) (by decide)) hm hl.1 rfl (Nat.le_of_ble_eq_true rfl) ⟨Nat.zero_le _, Nat.zero_le _⟩ dX5_direct_161 (fun b5 μ4 H locs hm hP hS => ?_)
        refine r_vcallv (As := [.int v2, .int (0 : Int32), .int v5, .int b5]) (rest := []) S hG hP hS mX0_moveToValue kX5_83 clX0 h1 (tX0_moveToValue _ _ _ _ _ _ _ _ h1 v2 (0 : Int32) v5 b5) ⟨rfl, rfl⟩ (rm_ok (by decide) (by decide)) hm hl.1 rfl (Nat.le_of_ble_eq_true rfl) ⟨Nat.zero_le _, Nat.zero_le _⟩ dX5_direct_164 (fun μ6 H locs hm hP hS => ?_)
        exact wX5_direct_167 S hr hG ho h1 ih v2 v3 v5 μ6 hm H locs ls hP hS (lv_sub hl [0, 1, 2, 3, 4] rfl)
set_option maxHeartbeats 4000000 in
set_option maxRecDepth 100000 in
theorem wX5_direct_123 (S : CallFix p m c cX5_direct 6 s args TB RX5) (hr : meth.sig.returnType = none ∧ meth.locks = false) (hG : gok D cI cR n K L ad s) {o : Nat} {r1 : Nat} (ho : isk n K o 5) (h1 : isk n K r1 0) {x : Mem} {self87 : Int32 → Int32 → Int32 → Int32 → Mem → Option Mem} (hs87 : ∀ (v2 v3 v4 v5 : Int32) (μ : Mem), self87 v2 v3 v4 v5 μ = some x → WV p l e (rmL 3) s m args below meth c D cI cR n K L ad 6 x μ 87 [(0, .ref (ad o)), (1, .ref (ad r1)), (2, .int v2), (3, .int v3), (4, .int v4), (5, .int v5)] []) : ∀ (v2 v3 v4 v5 : Int32) (μ : Mem), fX5_direct_123 L o r1 self87 v2 v3 v4 v5 μ = some x → WV p l e (rmL 3) s m args below meth c D cI cR n K L ad 6 x μ 123 [(0, .ref (ad o)), (1, .ref (ad r1)), (2, .int v2), (3, .int v3), (4, .int v4), (5, .int v5)] [] := by
  have hx := S.1
  have hb := S.2.1
  intro v2 v3 v4 v5 μ hm H locs ls hP hS hl
  unfold fX5_direct_123 at hm
  refine r_iinc (b := (1 : Int32)) (k := 5) S hm dX5_direct_123 hl rfl (by decide) (by decide) (fun a7 ls hm hl => ?_)
  have hl : lv_has ls 6 [(5, .int a7), (0, .ref (ad o)), (1, .ref (ad r1)), (2, .int v2), (3, .int v3), (4, .int v4)] := hl
  refine lv_goto (tgt := 87) hx hb dX5_direct_126 (by decide) ?_
  exact hs87 v2 v3 v4 a7 μ hm H locs ls hP hS (lv_sub hl [1, 2, 3, 4, 5, 0] rfl)
set_option maxHeartbeats 4000000 in
set_option maxRecDepth 100000 in
theorem wX5_direct_87 (S : CallFix p m c cX5_direct 6 s args TB RX5) (hr : meth.sig.returnType = none ∧ meth.locks = false) (hG : gok D cI cR n K L ad s) {o : Nat} {r1 : Nat} (ho : isk n K o 5) (h1 : isk n K r1 0) {x : Mem} : ∀ (k : Nat) (v2 v3 v4 v5 : Int32) (μ : Mem), fX5_direct_87 L o r1 k v2 v3 v4 v5 μ = some x → WV p l e (rmL 3) s m args below meth c D cI cR n K L ad 6 x μ 87 [(0, .ref (ad o)), (1, .ref (ad r1)), (2, .int v2), (3, .int v3), (4, .int v4), (5, .int v5)] [] := by
  have hx := S.1
  have hb := S.2.1
  intro k
  induction k with
  | zero => intro v2 v3 v4 v5 μ hm; exact absurd (show none = some x from hm) (fun h => by cases h)
  | succ k ih =>
    intro v2 v3 v4 v5 μ hm H locs ls hP hS hl
    have hm : fX5_direct_87_b L o r1 (fX5_direct_87 L o r1 k) v2 v3 v4 v5 μ = some x := hm
    unfold fX5_direct_87_b at hm
    refine lv_iload hx hb dX5_direct_87 (lv_at hl 5 rfl) ?_
    refine lv_iload hx hb dX5_direct_89 (lv_at hl 4 rfl) ?_
    refine b_icmp_ge (tgt := 129) S dX5_direct_91 (by decide) hm (fun hm => ?_) (fun hm => ?_)
    · refine lv_iconst (v := (0 : Int32)) hx hb dX5_direct_129 (by decide) ?_
      refine lv_istore (lv' := [(5, .int (0 : Int32)), (0, .ref (ad o)), (1, .ref (ad r1)), (2, .int v2), (3, .int v3), (4, .int v4)]) hx hb dX5_direct_130 hl (by decide) rfl (fun ls hl => ?_)
      exact wX5_direct_132 S hr hG ho h1 FU v2 v3 (0 : Int32) μ hm H locs ls hP hS (lv_sub hl [1, 2, 3, 4, 0] rfl)
    · refine lv_aload_n hx hb dX5_direct_94 rfl (lv_at hl 0 rfl) ?_
      refine r_getr S hG hP ho clX5 fX5_2 kX5_23 dX5_direct_95 ?_
      refine lv_iload hx hb dX5_direct_98 (lv_at hl 5 rfl) ?_
      refine r_vcalli (As := [.int v5]) (rest := []) S hG hP hS mX3_get kX5_103 clX3 (chX5_2 hG ho) (tX3_get _ _ _ _ _ _ _ _ (chX5_2 hG ho) v5) ⟨rfl, rfl⟩ (rm_ok (by decide) (by decide)) hm hl.1 rfl (Nat.le_of_ble_eq_true rfl) ⟨Nat.zero_le _, Nat.zero_le _⟩ dX5_direct_100 (fun b9 μ8 H locs hm hP hS => ?_)
      refine b_if_le (tgt := 123) S dX5_direct_103 (by decide) hm (fun hm => ?_) (fun hm => ?_)
      · exact wX5_direct_123 S hr hG ho h1 ih v2 v3 v4 v5 μ8 hm H locs ls hP hS (lv_sub hl [0, 1, 2, 3, 4, 5] rfl)
      · refine lv_aload_n hx hb dX5_direct_106 rfl (lv_at hl 1 rfl) ?_
        refine lv_iload_n hx hb dX5_direct_107 rfl (lv_at hl 2 rfl) ?_
        refine lv_iconst (v := (1 : Int32)) hx hb dX5_direct_108 (by decide) ?_
        refine lv_iload hx hb dX5_direct_109 (lv_at hl 5 rfl) ?_
        refine lv_aload_n hx hb dX5_direct_111 rfl (lv_at hl 0 rfl) ?_
        refine r_getr S hG hP ho clX5 fX5_2 kX5_23 dX5_direct_112 ?_
        refine lv_iload hx hb dX5_direct_115 (lv_at hl 5 rfl) ?_
        refine r_vcalli (As := [.int v5]) (rest := [.int v5, .int (1 : Int32), .int v2, .ref (ad r1)]) S hG hP hS mX3_get kX5_103 clX3 (chX5_2 hG ho) (tX3_get _ _ _ _ _ _ _ _ (chX5_2 hG ho) v5) ⟨rfl, rfl⟩ (rm_ok (by decide) (by decide)) hm hl.1 rfl (Nat.le_of_ble_eq_true rfl) ⟨Nat.zero_le _, Nat.zero_le _⟩ dX5_direct_117 (fun b11 μ10 H locs hm hP hS => ?_)
        refine r_vcallv (As := [.int v2, .int (1 : Int32), .int v5, .int b11]) (rest := []) S hG hP hS mX0_moveToTable kX5_106 clX0 h1 (tX0_moveToTable _ _ _ _ _ _ _ _ h1 v2 (1 : Int32) v5 b11) ⟨rfl, rfl⟩ (rm_ok (by decide) (by decide)) hm hl.1 rfl (Nat.le_of_ble_eq_true rfl) ⟨Nat.zero_le _, Nat.zero_le _⟩ dX5_direct_120 (fun μ12 H locs hm hP hS => ?_)
        exact wX5_direct_123 S hr hG ho h1 ih v2 v3 v4 v5 μ12 hm H locs ls hP hS (lv_sub hl [0, 1, 2, 3, 4, 5] rfl)
set_option maxHeartbeats 4000000 in
set_option maxRecDepth 100000 in
theorem wX5_direct_54 (S : CallFix p m c cX5_direct 6 s args TB RX5) (hr : meth.sig.returnType = none ∧ meth.locks = false) (hG : gok D cI cR n K L ad s) {o : Nat} {r1 : Nat} (ho : isk n K o 5) (h1 : isk n K r1 0) {x : Mem} : ∀ (k : Nat) (v2 v3 v4 v5 : Int32) (μ : Mem), fX5_direct_54 L o r1 k v2 v3 v4 v5 μ = some x → WV p l e (rmL 3) s m args below meth c D cI cR n K L ad 6 x μ 54 [(0, .ref (ad o)), (1, .ref (ad r1)), (2, .int v2), (3, .int v3), (4, .int v4), (5, .int v5)] [] := by
  have hx := S.1
  have hb := S.2.1
  intro k
  induction k with
  | zero => intro v2 v3 v4 v5 μ hm; exact absurd (show none = some x from hm) (fun h => by cases h)
  | succ k ih =>
    intro v2 v3 v4 v5 μ hm H locs ls hP hS hl
    have hm : fX5_direct_54_b L o r1 (fX5_direct_54 L o r1 k) v2 v3 v4 v5 μ = some x := hm
    unfold fX5_direct_54_b at hm
    refine lv_iload hx hb dX5_direct_54 (lv_at hl 5 rfl) ?_
    refine lv_iload hx hb dX5_direct_56 (lv_at hl 4 rfl) ?_
    refine b_icmp_ge (tgt := 84) S dX5_direct_58 (by decide) hm (fun hm => ?_) (fun hm => ?_)
    · refine lv_iconst (v := (0 : Int32)) hx hb dX5_direct_84 (by decide) ?_
      refine lv_istore (lv' := [(5, .int (0 : Int32)), (0, .ref (ad o)), (1, .ref (ad r1)), (2, .int v2), (3, .int v3), (4, .int v4)]) hx hb dX5_direct_85 hl (by decide) rfl (fun ls hl => ?_)
      exact wX5_direct_87 S hr hG ho h1 FU v2 v3 v4 (0 : Int32) μ hm H locs ls hP hS (lv_sub hl [1, 2, 3, 4, 5, 0] rfl)
    · refine lv_aload_n hx hb dX5_direct_61 rfl (lv_at hl 0 rfl) ?_
      refine r_getr S hG hP ho clX5 fX5_2 kX5_23 dX5_direct_62 ?_
      refine lv_iload hx hb dX5_direct_65 (lv_at hl 5 rfl) ?_
      refine lv_aload_n hx hb dX5_direct_67 rfl (lv_at hl 0 rfl) ?_
      refine lv_aload_n hx hb dX5_direct_68 rfl (lv_at hl 1 rfl) ?_
      refine lv_iload_n hx hb dX5_direct_69 rfl (lv_at hl 2 rfl) ?_
      refine lv_iload hx hb dX5_direct_70 (lv_at hl 5 rfl) ?_
      refine r_vcalli (As := [.ref (ad r1), .int v2, .int v5]) (rest := [.int v5, .ref (ad (o + 5))]) S hG hP hS mX5_needOf kX5_100 clX5 ho (tX5_needOf _ _ _ _ _ _ _ _ ho h1 v2 v5) ⟨rfl, rfl⟩ (rm_ok (by decide) (by decide)) hm hl.1 rfl (Nat.le_of_ble_eq_true rfl) ⟨Nat.zero_le _, Nat.zero_le _⟩ dX5_direct_72 (fun b14 μ13 H locs hm hP hS => ?_)
      refine r_vcallv (As := [.int v5, .int b14]) (rest := []) S hG hP hS mX3_set kX5_97 clX3 (chX5_2 hG ho) (tX3_set _ _ _ _ _ _ _ _ (chX5_2 hG ho) v5 b14) ⟨rfl, rfl⟩ (rm_ok (by decide) (by decide)) hm hl.1 rfl (Nat.le_of_ble_eq_true rfl) ⟨Nat.zero_le _, Nat.zero_le _⟩ dX5_direct_75 (fun μ15 H locs hm hP hS => ?_)
      refine r_iinc (b := (1 : Int32)) (k := 5) S hm dX5_direct_78 hl rfl (by decide) (by decide) (fun a16 ls hm hl => ?_)
      have hl : lv_has ls 6 [(5, .int a16), (0, .ref (ad o)), (1, .ref (ad r1)), (2, .int v2), (3, .int v3), (4, .int v4)] := hl
      refine lv_goto (tgt := 54) hx hb dX5_direct_81 (by decide) ?_
      exact ih v2 v3 v4 a16 μ15 hm H locs ls hP hS (lv_sub hl [1, 2, 3, 4, 5, 0] rfl)
set_option maxHeartbeats 4000000 in
set_option maxRecDepth 100000 in
theorem wX5_direct_23 (S : CallFix p m c cX5_direct 6 s args TB RX5) (hr : meth.sig.returnType = none ∧ meth.locks = false) (hG : gok D cI cR n K L ad s) {o : Nat} {r1 : Nat} (ho : isk n K o 5) (h1 : isk n K r1 0) {x : Mem} : ∀ (k : Nat) (v2 v3 v4 v5 : Int32) (μ : Mem), fX5_direct_23 L o r1 k v2 v3 v4 v5 μ = some x → WV p l e (rmL 3) s m args below meth c D cI cR n K L ad 6 x μ 23 [(0, .ref (ad o)), (1, .ref (ad r1)), (2, .int v2), (3, .int v3), (4, .int v4), (5, .int v5)] [] := by
  have hx := S.1
  have hb := S.2.1
  intro k
  induction k with
  | zero => intro v2 v3 v4 v5 μ hm; exact absurd (show none = some x from hm) (fun h => by cases h)
  | succ k ih =>
    intro v2 v3 v4 v5 μ hm H locs ls hP hS hl
    have hm : fX5_direct_23_b L o r1 (fX5_direct_23 L o r1 k) v2 v3 v4 v5 μ = some x := hm
    unfold fX5_direct_23_b at hm
    refine lv_iload hx hb dX5_direct_23 (lv_at hl 5 rfl) ?_
    refine lv_iload_n hx hb dX5_direct_25 rfl (lv_at hl 3 rfl) ?_
    refine b_icmp_ge (tgt := 51) S dX5_direct_26 (by decide) hm (fun hm => ?_) (fun hm => ?_)
    · refine lv_iconst (v := (0 : Int32)) hx hb dX5_direct_51 (by decide) ?_
      refine lv_istore (lv' := [(5, .int (0 : Int32)), (0, .ref (ad o)), (1, .ref (ad r1)), (2, .int v2), (3, .int v3), (4, .int v4)]) hx hb dX5_direct_52 hl (by decide) rfl (fun ls hl => ?_)
      exact wX5_direct_54 S hr hG ho h1 FU v2 v3 v4 (0 : Int32) μ hm H locs ls hP hS (lv_sub hl [1, 2, 3, 4, 5, 0] rfl)
    · refine lv_aload_n hx hb dX5_direct_29 rfl (lv_at hl 0 rfl) ?_
      refine r_getr S hG hP ho clX5 fX5_1 kX5_20 dX5_direct_30 ?_
      refine lv_iload hx hb dX5_direct_33 (lv_at hl 5 rfl) ?_
      refine lv_aload_n hx hb dX5_direct_35 rfl (lv_at hl 1 rfl) ?_
      refine lv_iload_n hx hb dX5_direct_36 rfl (lv_at hl 2 rfl) ?_
      refine lv_iload hx hb dX5_direct_37 (lv_at hl 5 rfl) ?_
      refine r_scalli (As := [.ref (ad r1), .int v2, .int v5]) (rest := [.int v5, .ref (ad (o + 3))]) S hG hP hS mX5_reachOf kX5_93 (tX5_reachOf _ _ _ _ _ _ _ _ h1 v2 v5) ⟨rfl, rfl⟩ (rm_ok (by decide) (by decide)) hm hl.1 rfl (Nat.le_of_ble_eq_true rfl) ⟨Nat.zero_le _, Nat.zero_le _⟩ dX5_direct_39 (fun b18 μ17 H locs hm hP hS => ?_)
      refine r_vcallv (As := [.int v5, .int b18]) (rest := []) S hG hP hS mX3_set kX5_97 clX3 (chX5_1 hG ho) (tX3_set _ _ _ _ _ _ _ _ (chX5_1 hG ho) v5 b18) ⟨rfl, rfl⟩ (rm_ok (by decide) (by decide)) hm hl.1 rfl (Nat.le_of_ble_eq_true rfl) ⟨Nat.zero_le _, Nat.zero_le _⟩ dX5_direct_42 (fun μ19 H locs hm hP hS => ?_)
      refine r_iinc (b := (1 : Int32)) (k := 5) S hm dX5_direct_45 hl rfl (by decide) (by decide) (fun a20 ls hm hl => ?_)
      have hl : lv_has ls 6 [(5, .int a20), (0, .ref (ad o)), (1, .ref (ad r1)), (2, .int v2), (3, .int v3), (4, .int v4)] := hl
      refine lv_goto (tgt := 23) hx hb dX5_direct_48 (by decide) ?_
      exact ih v2 v3 v4 a20 μ19 hm H locs ls hP hS (lv_sub hl [1, 2, 3, 4, 5, 0] rfl)
set_option maxHeartbeats 4000000 in
set_option maxRecDepth 100000 in
theorem wX5_direct_0 (S : CallFix p m c cX5_direct 6 s args TB RX5) (hr : meth.sig.returnType = none ∧ meth.locks = false) (hG : gok D cI cR n K L ad s) {o : Nat} {r1 : Nat} (ho : isk n K o 5) (h1 : isk n K r1 0) {x : Mem} : ∀ (v2 : Int32) (μ : Mem), fX5_direct L o r1 v2 μ = some x → WV p l e (rmL 3) s m args below meth c D cI cR n K L ad 6 x μ 0 [(0, .ref (ad o)), (1, .ref (ad r1)), (2, .int v2)] [] := by
  have hx := S.1
  have hb := S.2.1
  intro v2 μ hm H locs ls hP hS hl
  unfold fX5_direct at hm
  refine lv_aload_n hx hb dX5_direct_0 rfl (lv_at hl 1 rfl) ?_
  refine lv_iload_n hx hb dX5_direct_1 rfl (lv_at hl 2 rfl) ?_
  refine lv_iconst (v := (0 : Int32)) hx hb dX5_direct_2 (by decide) ?_
  refine r_vcalli (As := [.int v2, .int (0 : Int32)]) (rest := []) S hG hP hS mX0_valuesOn kX5_75 clX0 h1 (tX0_valuesOn _ _ _ _ _ _ _ _ h1 v2 (0 : Int32)) ⟨rfl, rfl⟩ (rm_ok (by decide) (by decide)) hm hl.1 rfl (Nat.le_of_ble_eq_true rfl) ⟨Nat.zero_le _, Nat.zero_le _⟩ dX5_direct_3 (fun b22 μ21 H locs hm hP hS => ?_)
  refine lv_istore_n (lv' := [(3, .int b22), (0, .ref (ad o)), (1, .ref (ad r1)), (2, .int v2)]) hx hb dX5_direct_6 rfl hl (by decide) rfl (fun ls hl => ?_)
  refine lv_aload_n hx hb dX5_direct_7 rfl (lv_at hl 2 rfl) ?_
  refine lv_iload_n hx hb dX5_direct_8 rfl (lv_at hl 3 rfl) ?_
  refine lv_iconst (v := (1 : Int32)) hx hb dX5_direct_9 (by decide) ?_
  refine r_vcalli (As := [.int v2, .int (1 : Int32)]) (rest := []) S hG hP hS mX0_valuesOn kX5_75 clX0 h1 (tX0_valuesOn _ _ _ _ _ _ _ _ h1 v2 (1 : Int32)) ⟨rfl, rfl⟩ (rm_ok (by decide) (by decide)) hm hl.1 rfl (Nat.le_of_ble_eq_true rfl) ⟨Nat.zero_le _, Nat.zero_le _⟩ dX5_direct_10 (fun b24 μ23 H locs hm hP hS => ?_)
  refine lv_istore (lv' := [(4, .int b24), (3, .int b22), (0, .ref (ad o)), (1, .ref (ad r1)), (2, .int v2)]) hx hb dX5_direct_13 hl (by decide) rfl (fun ls hl => ?_)
  refine lv_aload_n hx hb dX5_direct_15 rfl (lv_at hl 3 rfl) ?_
  refine lv_iload_n hx hb dX5_direct_16 rfl (lv_at hl 4 rfl) ?_
  refine r_vcallv (As := [.int v2]) (rest := []) S hG hP hS mX0_topPairsOfTopSingles kX5_68 clX0 h1 (tX0_topPairsOfTopSingles _ _ _ _ _ _ _ _ h1 v2) ⟨rfl, rfl⟩ (rm_ok (by decide) (by decide)) hm hl.1 rfl (Nat.le_of_ble_eq_true rfl) ⟨Nat.zero_le _, Nat.zero_le _⟩ dX5_direct_17 (fun μ25 H locs hm hP hS => ?_)
  refine lv_iconst (v := (0 : Int32)) hx hb dX5_direct_20 (by decide) ?_
  refine lv_istore (lv' := [(5, .int (0 : Int32)), (4, .int b24), (3, .int b22), (0, .ref (ad o)), (1, .ref (ad r1)), (2, .int v2)]) hx hb dX5_direct_21 hl (by decide) rfl (fun ls hl => ?_)
  exact wX5_direct_23 S hr hG ho h1 FU v2 b22 b24 (0 : Int32) μ25 hm H locs ls hP hS (lv_sub hl [3, 4, 5, 2, 1, 0] rfl)
theorem tX5_direct (l : Launch) (D : va_G) (cI cR : ClassId) (n : Nat) (K L ad : Nat → Nat) {o : Nat} (ho : isk n K o 5) {r1 : Nat} (h1 : isk n K r1 0) (v2 : Int32) : Cv l yX5_direct cX5_direct 6 none (rmL 3) D cI cR n K L ad [.ref (ad o), .ref (ad r1), .int v2] (fX5_direct L o r1 v2) := by
  refine Cv.ofW (by decide) (Nat.le_of_ble_eq_true rfl) ?_
  intro μ x hm p e s m args below meth c ls S hr hG hP hS hl
  exact wX5_direct_0 S hr hG ho h1 v2 μ hm _ _ ls hP hS hl
-- X5_doDirected
set_option maxHeartbeats 4000000 in
set_option maxRecDepth 100000 in
theorem wX5_doDirected_37 (S : CallFix p m c cX5_doDirected 4 s args TB RX5) (hr : meth.sig.returnType = none ∧ meth.locks = false) (hG : gok D cI cR n K L ad s) {o : Nat} {r1 : Nat} (ho : isk n K o 5) (h1 : isk n K r1 0) {x : Mem} {self13 : Int32 → Int32 → Mem → Option Mem} (hs13 : ∀ (v2 v3 : Int32) (μ : Mem), self13 v2 v3 μ = some x → WV p l e (rmL 4) s m args below meth c D cI cR n K L ad 4 x μ 13 [(0, .ref (ad o)), (1, .ref (ad r1)), (2, .int v2), (3, .int v3)] []) : ∀ (v2 v3 : Int32) (μ : Mem), fX5_doDirected_37 L o r1 self13 v2 v3 μ = some x → WV p l e (rmL 4) s m args below meth c D cI cR n K L ad 4 x μ 37 [(0, .ref (ad o)), (1, .ref (ad r1)), (2, .int v2), (3, .int v3)] [] := by
  have hx := S.1
  have hb := S.2.1
  intro v2 v3 μ hm H locs ls hP hS hl
  unfold fX5_doDirected_37 at hm
  refine r_iinc (b := (1 : Int32)) (k := 3) S hm dX5_doDirected_37 hl rfl (by decide) (by decide) (fun a1 ls hm hl => ?_)
  have hl : lv_has ls 4 [(3, .int a1), (0, .ref (ad o)), (1, .ref (ad r1)), (2, .int v2)] := hl
  refine lv_goto (tgt := 13) hx hb dX5_doDirected_40 (by decide) ?_
  exact hs13 v2 a1 μ hm H locs ls hP hS (lv_sub hl [1, 2, 3, 0] rfl)
set_option maxHeartbeats 4000000 in
set_option maxRecDepth 100000 in
theorem wX5_doDirected_13 (S : CallFix p m c cX5_doDirected 4 s args TB RX5) (hr : meth.sig.returnType = none ∧ meth.locks = false) (hG : gok D cI cR n K L ad s) {o : Nat} {r1 : Nat} (ho : isk n K o 5) (h1 : isk n K r1 0) {x : Mem} {self7 : Int32 → Mem → Option Mem} (hs7 : ∀ (v2 : Int32) (μ : Mem), self7 v2 μ = some x → WV p l e (rmL 4) s m args below meth c D cI cR n K L ad 4 x μ 7 [(0, .ref (ad o)), (1, .ref (ad r1)), (2, .int v2)] []) : ∀ (k : Nat) (v2 v3 : Int32) (μ : Mem), fX5_doDirected_13 L o r1 self7 k v2 v3 μ = some x → WV p l e (rmL 4) s m args below meth c D cI cR n K L ad 4 x μ 13 [(0, .ref (ad o)), (1, .ref (ad r1)), (2, .int v2), (3, .int v3)] [] := by
  have hx := S.1
  have hb := S.2.1
  intro k
  induction k with
  | zero => intro v2 v3 μ hm; exact absurd (show none = some x from hm) (fun h => by cases h)
  | succ k ih =>
    intro v2 v3 μ hm H locs ls hP hS hl
    have hm : fX5_doDirected_13_b L o r1 self7 (fX5_doDirected_13 L o r1 self7 k) v2 v3 μ = some x := hm
    unfold fX5_doDirected_13_b at hm
    refine lv_iload_n hx hb dX5_doDirected_13 rfl (lv_at hl 3 rfl) ?_
    refine lv_aload_n hx hb dX5_doDirected_14 rfl (lv_at hl 1 rfl) ?_
    refine r_vcalli (As := []) (rest := [.int v3]) S hG hP hS mX0_tables kX5_65 clX0 h1 (tX0_tables _ _ _ _ _ _ _ _ h1) ⟨rfl, rfl⟩ (rm_ok (by decide) (by decide)) hm hl.1 rfl (Nat.le_of_ble_eq_true rfl) ⟨Nat.zero_le _, Nat.zero_le _⟩ dX5_doDirected_15 (fun b3 μ2 H locs hm hP hS => ?_)
    refine b_icmp_ge (tgt := 43) S dX5_doDirected_18 (by decide) hm (fun hm => ?_) (fun hm => ?_)
    · refine r_iinc (b := (-1 : Int32)) (k := 2) S hm dX5_doDirected_43 hl rfl (by decide) (by decide) (fun a4 ls hm hl => ?_)
      have hl : lv_has ls 4 [(2, .int a4), (0, .ref (ad o)), (1, .ref (ad r1)), (3, .int v3)] := hl
      refine lv_goto (tgt := 7) hx hb dX5_doDirected_46 (by decide) ?_
      exact hs7 a4 μ2 hm H locs ls hP hS (lv_sub hl [1, 2, 0] rfl)
    · refine lv_aload_n hx hb dX5_doDirected_21 rfl (lv_at hl 1 rfl) ?_
      refine lv_iload_n hx hb dX5_doDirected_22 rfl (lv_at hl 3 rfl) ?_
      refine lv_iconst (v := (1 : Int32)) hx hb dX5_doDirected_23 (by decide) ?_
      refine r_vcalli (As := [.int v3, .int (1 : Int32)]) (rest := []) S hG hP hS mX0_nameOn kX5_87 clX0 h1 (tX0_nameOn _ _ _ _ _ _ _ _ h1 v3 (1 : Int32)) ⟨rfl, rfl⟩ (rm_ok (by decide) (by decide)) hm hl.1 rfl (Nat.le_of_ble_eq_true rfl) ⟨Nat.zero_le _, Nat.zero_le _⟩ dX5_doDirected_24 (fun b6 μ5 H locs hm hP hS => ?_)
      refine lv_iload_n hx hb dX5_doDirected_27 rfl (lv_at hl 2 rfl) ?_
      refine b_icmp_ne (tgt := 37) S dX5_doDirected_28 (by decide) hm (fun hm => ?_) (fun hm => ?_)
      · exact wX5_doDirected_37 S hr hG ho h1 ih v2 v3 μ5 hm H locs ls hP hS (lv_sub hl [0, 1, 2, 3] rfl)
      · refine lv_aload_n hx hb dX5_doDirected_31 rfl (lv_at hl 0 rfl) ?_
        refine lv_aload_n hx hb dX5_doDirected_32 rfl (lv_at hl 1 rfl) ?_
        refine lv_iload_n hx hb dX5_doDirected_33 rfl (lv_at hl 3 rfl) ?_
        refine r_vcallv (As := [.ref (ad r1), .int v3]) (rest := []) S hG hP hS mX5_direct kX5_90 clX5 ho (tX5_direct _ _ _ _ _ _ _ _ ho h1 v3) ⟨rfl, rfl⟩ (rm_ok (by decide) (by decide)) hm hl.1 rfl (Nat.le_of_ble_eq_true rfl) ⟨Nat.zero_le _, Nat.zero_le _⟩ dX5_doDirected_34 (fun μ7 H locs hm hP hS => ?_)
        exact wX5_doDirected_37 S hr hG ho h1 ih v2 v3 μ7 hm H locs ls hP hS (lv_sub hl [0, 1, 2, 3] rfl)
set_option maxHeartbeats 4000000 in
set_option maxRecDepth 100000 in
theorem wX5_doDirected_7 (S : CallFix p m c cX5_doDirected 4 s args TB RX5) (hr : meth.sig.returnType = none ∧ meth.locks = false) (hG : gok D cI cR n K L ad s) {o : Nat} {r1 : Nat} (ho : isk n K o 5) (h1 : isk n K r1 0) {x : Mem} : ∀ (k : Nat) (v2 : Int32) (μ : Mem), fX5_doDirected_7 L o r1 k v2 μ = some x → WV p l e (rmL 4) s m args below meth c D cI cR n K L ad 4 x μ 7 [(0, .ref (ad o)), (1, .ref (ad r1)), (2, .int v2)] [] := by
  have hx := S.1
  have hb := S.2.1
  intro k
  induction k with
  | zero => intro v2 μ hm; exact absurd (show none = some x from hm) (fun h => by cases h)
  | succ k ih =>
    intro v2 μ hm H locs ls hP hS hl
    have hm : fX5_doDirected_7_b L o r1 (fX5_doDirected_7 L o r1 k) v2 μ = some x := hm
    unfold fX5_doDirected_7_b at hm
    refine lv_iload_n hx hb dX5_doDirected_7 rfl (lv_at hl 2 rfl) ?_
    refine b_if_lt (tgt := 49) S dX5_doDirected_8 (by decide) hm (fun hm => ?_) (fun hm => ?_)
    · exact r_vret S hr hG hP hS hm dX5_doDirected_49
    · refine lv_iconst (v := (0 : Int32)) hx hb dX5_doDirected_11 (by decide) ?_
      refine lv_istore_n (lv' := [(3, .int (0 : Int32)), (0, .ref (ad o)), (1, .ref (ad r1)), (2, .int v2)]) hx hb dX5_doDirected_12 rfl hl (by decide) rfl (fun ls hl => ?_)
      exact wX5_doDirected_13 S hr hG ho h1 ih FU v2 (0 : Int32) μ hm H locs ls hP hS (lv_sub hl [1, 2, 3, 0] rfl)
set_option maxHeartbeats 4000000 in
set_option maxRecDepth 100000 in
theorem wX5_doDirected_0 (S : CallFix p m c cX5_doDirected 4 s args TB RX5) (hr : meth.sig.returnType = none ∧ meth.locks = false) (hG : gok D cI cR n K L ad s) {o : Nat} {r1 : Nat} (ho : isk n K o 5) (h1 : isk n K r1 0) {x : Mem} : ∀ (μ : Mem), fX5_doDirected L o r1 μ = some x → WV p l e (rmL 4) s m args below meth c D cI cR n K L ad 4 x μ 0 [(0, .ref (ad o)), (1, .ref (ad r1))] [] := by
  have hx := S.1
  have hb := S.2.1
  intro μ hm H locs ls hP hS hl
  unfold fX5_doDirected at hm
  refine lv_aload_n hx hb dX5_doDirected_0 rfl (lv_at hl 1 rfl) ?_
  refine r_vcalli (As := []) (rest := []) S hG hP hS mX0_names kX5_50 clX0 h1 (tX0_names _ _ _ _ _ _ _ _ h1) ⟨rfl, rfl⟩ (rm_ok (by decide) (by decide)) hm hl.1 rfl (Nat.le_of_ble_eq_true rfl) ⟨Nat.zero_le _, Nat.zero_le _⟩ dX5_doDirected_1 (fun b9 μ8 H locs hm hP hS => ?_)
  refine lv_iconst (v := (1 : Int32)) hx hb dX5_doDirected_4 (by decide) ?_
  refine lv_isub hx hb dX5_doDirected_5 ?_
  refine r_top hm (fun a10 hm => ?_)
  refine lv_istore_n (lv' := [(2, .int a10), (0, .ref (ad o)), (1, .ref (ad r1))]) hx hb dX5_doDirected_6 rfl hl (by decide) rfl (fun ls hl => ?_)
  exact wX5_doDirected_7 S hr hG ho h1 FU a10 μ8 hm H locs ls hP hS (lv_sub hl [1, 2, 0] rfl)
theorem tX5_doDirected (l : Launch) (D : va_G) (cI cR : ClassId) (n : Nat) (K L ad : Nat → Nat) {o : Nat} (ho : isk n K o 5) {r1 : Nat} (h1 : isk n K r1 0) : Cv l yX5_doDirected cX5_doDirected 4 none (rmL 4) D cI cR n K L ad [.ref (ad o), .ref (ad r1)] (fX5_doDirected L o r1) := by
  refine Cv.ofW (by decide) (Nat.le_of_ble_eq_true rfl) ?_
  intro μ x hm p e s m args below meth c ls S hr hG hP hS hl
  exact wX5_doDirected_0 S hr hG ho h1 μ hm _ _ ls hP hS hl
-- X5_doNodes
set_option maxHeartbeats 4000000 in
set_option maxRecDepth 100000 in
theorem wX5_doNodes_26 (S : CallFix p m c cX5_doNodes 3 s args TB RX5) (hr : meth.sig.returnType = none ∧ meth.locks = false) (hG : gok D cI cR n K L ad s) {r0 : Nat} (h0 : isk n K r0 0) {x : Mem} {self2 : Int32 → Mem → Option Mem} (hs2 : ∀ (v1 : Int32) (μ : Mem), self2 v1 μ = some x → WV p l e (rmL 4) s m args below meth c D cI cR n K L ad 3 x μ 2 [(0, .ref (ad r0)), (1, .int v1)] []) : ∀ (v1 : Int32) (μ : Mem), fX5_doNodes_26 L r0 self2 v1 μ = some x → WV p l e (rmL 4) s m args below meth c D cI cR n K L ad 3 x μ 26 [(0, .ref (ad r0)), (1, .int v1)] [] := by
  have hx := S.1
  have hb := S.2.1
  intro v1 μ hm H locs ls hP hS hl
  unfold fX5_doNodes_26 at hm
  refine lv_aload_n hx hb dX5_doNodes_26 rfl (lv_at hl 0 rfl) ?_
  refine lv_iload_n hx hb dX5_doNodes_27 rfl (lv_at hl 1 rfl) ?_
  refine r_vcallv (As := [.int v1]) (rest := []) S hG hP hS mX0_topShutSingles kX5_62 clX0 h0 (tX0_topShutSingles _ _ _ _ _ _ _ _ h0 v1) ⟨rfl, rfl⟩ (rm_ok (by decide) (by decide)) hm hl.1 rfl (Nat.le_of_ble_eq_true rfl) ⟨Nat.zero_le _, Nat.zero_le _⟩ dX5_doNodes_28 (fun μ1 H locs hm hP hS => ?_)
  refine r_iinc (b := (1 : Int32)) (k := 1) S hm dX5_doNodes_31 hl rfl (by decide) (by decide) (fun a2 ls hm hl => ?_)
  have hl : lv_has ls 3 [(1, .int a2), (0, .ref (ad r0))] := hl
  refine lv_goto (tgt := 2) hx hb dX5_doNodes_34 (by decide) ?_
  exact hs2 a2 μ1 hm H locs ls hP hS (lv_sub hl [1, 0] rfl)
set_option maxHeartbeats 4000000 in
set_option maxRecDepth 100000 in
theorem wX5_doNodes_2 (S : CallFix p m c cX5_doNodes 3 s args TB RX5) (hr : meth.sig.returnType = none ∧ meth.locks = false) (hG : gok D cI cR n K L ad s) {r0 : Nat} (h0 : isk n K r0 0) {x : Mem} : ∀ (k : Nat) (v1 : Int32) (μ : Mem), fX5_doNodes_2 L r0 k v1 μ = some x → WV p l e (rmL 4) s m args below meth c D cI cR n K L ad 3 x μ 2 [(0, .ref (ad r0)), (1, .int v1)] [] := by
  have hx := S.1
  have hb := S.2.1
  intro k
  induction k with
  | zero => intro v1 μ hm; exact absurd (show none = some x from hm) (fun h => by cases h)
  | succ k ih =>
    intro v1 μ hm H locs ls hP hS hl
    have hm : fX5_doNodes_2_b L r0 (fX5_doNodes_2 L r0 k) v1 μ = some x := hm
    unfold fX5_doNodes_2_b at hm
    refine lv_iload_n hx hb dX5_doNodes_2 rfl (lv_at hl 1 rfl) ?_
    refine lv_aload_n hx hb dX5_doNodes_3 rfl (lv_at hl 0 rfl) ?_
    refine r_vcalli (As := []) (rest := [.int v1]) S hG hP hS mX0_names kX5_50 clX0 h0 (tX0_names _ _ _ _ _ _ _ _ h0) ⟨rfl, rfl⟩ (rm_ok (by decide) (by decide)) hm hl.1 rfl (Nat.le_of_ble_eq_true rfl) ⟨Nat.zero_le _, Nat.zero_le _⟩ dX5_doNodes_4 (fun b4 μ3 H locs hm hP hS => ?_)
    refine b_icmp_ge (tgt := 37) S dX5_doNodes_7 (by decide) hm (fun hm => ?_) (fun hm => ?_)
    · exact r_vret S hr hG hP hS hm dX5_doNodes_37
    · refine lv_aload_n hx hb dX5_doNodes_10 rfl (lv_at hl 0 rfl) ?_
      refine lv_iload_n hx hb dX5_doNodes_11 rfl (lv_at hl 1 rfl) ?_
      refine r_vcalli (As := [.int v1]) (rest := []) S hG hP hS mX0_leastSingle kX5_54 clX0 h0 (tX0_leastSingle _ _ _ _ _ _ _ _ h0 v1) ⟨rfl, rfl⟩ (rm_ok (by decide) (by decide)) hm hl.1 rfl (Nat.le_of_ble_eq_true rfl) ⟨Nat.zero_le _, Nat.zero_le _⟩ dX5_doNodes_12 (fun b6 μ5 H locs hm hP hS => ?_)
      refine lv_istore_n (lv' := [(2, .int b6), (0, .ref (ad r0)), (1, .int v1)]) hx hb dX5_doNodes_15 rfl hl (by decide) rfl (fun ls hl => ?_)
      refine lv_iload_n hx hb dX5_doNodes_16 rfl (lv_at hl 0 rfl) ?_
      refine b_if_le (tgt := 26) S dX5_doNodes_17 (by decide) hm (fun hm => ?_) (fun hm => ?_)
      · exact wX5_doNodes_26 S hr hG h0 ih v1 μ5 hm H locs ls hP hS (lv_sub hl [1, 2] rfl)
      · refine lv_aload_n hx hb dX5_doNodes_20 rfl (lv_at hl 1 rfl) ?_
        refine lv_iload_n hx hb dX5_doNodes_21 rfl (lv_at hl 2 rfl) ?_
        refine lv_iload_n hx hb dX5_doNodes_22 rfl (lv_at hl 0 rfl) ?_
        refine r_vcallv (As := [.int v1, .int b6]) (rest := []) S hG hP hS mX0_moveToConstant kX5_58 clX0 h0 (tX0_moveToConstant _ _ _ _ _ _ _ _ h0 v1 b6) ⟨rfl, rfl⟩ (rm_ok (by decide) (by decide)) hm hl.1 rfl (Nat.le_of_ble_eq_true rfl) ⟨Nat.zero_le _, Nat.zero_le _⟩ dX5_doNodes_23 (fun μ7 H locs hm hP hS => ?_)
        exact wX5_doNodes_26 S hr hG h0 ih v1 μ7 hm H locs ls hP hS (lv_sub hl [1, 2] rfl)
set_option maxHeartbeats 4000000 in
set_option maxRecDepth 100000 in
theorem wX5_doNodes_0 (S : CallFix p m c cX5_doNodes 3 s args TB RX5) (hr : meth.sig.returnType = none ∧ meth.locks = false) (hG : gok D cI cR n K L ad s) {r0 : Nat} (h0 : isk n K r0 0) {x : Mem} : ∀ (μ : Mem), fX5_doNodes L r0 μ = some x → WV p l e (rmL 4) s m args below meth c D cI cR n K L ad 3 x μ 0 [(0, .ref (ad r0))] [] := by
  have hx := S.1
  have hb := S.2.1
  intro μ hm H locs ls hP hS hl
  unfold fX5_doNodes at hm
  refine lv_iconst (v := (0 : Int32)) hx hb dX5_doNodes_0 (by decide) ?_
  refine lv_istore_n (lv' := [(1, .int (0 : Int32)), (0, .ref (ad r0))]) hx hb dX5_doNodes_1 rfl hl (by decide) rfl (fun ls hl => ?_)
  exact wX5_doNodes_2 S hr hG h0 FU (0 : Int32) μ hm H locs ls hP hS (lv_sub hl [1, 0] rfl)
theorem tX5_doNodes (l : Launch) (D : va_G) (cI cR : ClassId) (n : Nat) (K L ad : Nat → Nat) {r0 : Nat} (h0 : isk n K r0 0) : Cv l yX5_doNodes cX5_doNodes 3 none (rmL 4) D cI cR n K L ad [.ref (ad r0)] (fX5_doNodes L r0) := by
  refine Cv.ofW (by decide) (Nat.le_of_ble_eq_true rfl) ?_
  intro μ x hm p e s m args below meth c ls S hr hG hP hS hl
  exact wX5_doNodes_0 S hr hG h0 μ hm _ _ ls hP hS hl
-- X5_doOne
set_option maxHeartbeats 4000000 in
set_option maxRecDepth 100000 in
theorem wX5_doOne_22 (S : CallFix p m c cX5_doOne 3 s args TB RX5) (hr : meth.sig.returnType = none ∧ meth.locks = false) (hG : gok D cI cR n K L ad s) {o : Nat} {r1 : Nat} (ho : isk n K o 5) (h1 : isk n K r1 0) {x : Mem} : ∀ (μ : Mem), fX5_doOne_22 L o r1 μ = some x → WV p l e (rmL 5) s m args below meth c D cI cR n K L ad 3 x μ 22 [(1, .ref (ad r1))] [] := by
  have hx := S.1
  have hb := S.2.1
  intro μ hm H locs ls hP hS hl
  unfold fX5_doOne_22 at hm
  refine lv_aload_n hx hb dX5_doOne_22 rfl (lv_at hl 0 rfl) ?_
  refine r_scallv (As := [.ref (ad r1)]) (rest := []) S hG hP hS mX5_doNodes kX5_47 (tX5_doNodes _ _ _ _ _ _ _ _ h1) ⟨rfl, rfl⟩ (rm_ok (by decide) (by decide)) hm hl.1 rfl (Nat.le_of_ble_eq_true rfl) ⟨Nat.zero_le _, Nat.zero_le _⟩ dX5_doOne_23 (fun μ1 H locs hm hP hS => ?_)
  exact r_vret S hr hG hP hS hm dX5_doOne_26
set_option maxHeartbeats 4000000 in
set_option maxRecDepth 100000 in
theorem wX5_doOne_0 (S : CallFix p m c cX5_doOne 3 s args TB RX5) (hr : meth.sig.returnType = none ∧ meth.locks = false) (hG : gok D cI cR n K L ad s) {o : Nat} {r1 : Nat} (ho : isk n K o 5) (h1 : isk n K r1 0) {x : Mem} : ∀ (v2 : Int32) (μ : Mem), fX5_doOne L o r1 v2 μ = some x → WV p l e (rmL 5) s m args below meth c D cI cR n K L ad 3 x μ 0 [(0, .ref (ad o)), (1, .ref (ad r1)), (2, .int v2)] [] := by
  have hx := S.1
  have hb := S.2.1
  intro v2 μ hm H locs ls hP hS hl
  unfold fX5_doOne at hm
  refine lv_iload_n hx hb dX5_doOne_0 rfl (lv_at hl 2 rfl) ?_
  refine lv_iconst (v := (1 : Int32)) hx hb dX5_doOne_1 (by decide) ?_
  refine b_icmp_ne (tgt := 12) S dX5_doOne_2 (by decide) hm (fun hm => ?_) (fun hm => ?_)
  · refine lv_iload_n hx hb dX5_doOne_12 rfl (lv_at hl 2 rfl) ?_
    refine lv_iconst (v := (2 : Int32)) hx hb dX5_doOne_13 (by decide) ?_
    refine b_icmp_ne (tgt := 22) S dX5_doOne_14 (by decide) hm (fun hm => ?_) (fun hm => ?_)
    · exact wX5_doOne_22 S hr hG ho h1 μ hm H locs ls hP hS (lv_sub hl [1] rfl)
    · refine lv_aload_n hx hb dX5_doOne_17 rfl (lv_at hl 0 rfl) ?_
      refine lv_aload_n hx hb dX5_doOne_18 rfl (lv_at hl 1 rfl) ?_
      refine r_vcallv (As := [.ref (ad r1)]) (rest := []) S hG hP hS mX5_doDirected kX5_44 clX5 ho (tX5_doDirected _ _ _ _ _ _ _ _ ho h1) ⟨rfl, rfl⟩ (rm_ok (by decide) (by decide)) hm hl.1 rfl (Nat.le_of_ble_eq_true rfl) ⟨Nat.zero_le _, Nat.zero_le _⟩ dX5_doOne_19 (fun μ2 H locs hm hP hS => ?_)
      exact wX5_doOne_22 S hr hG ho h1 μ2 hm H locs ls hP hS (lv_sub hl [1] rfl)
  · refine lv_aload_n hx hb dX5_doOne_5 rfl (lv_at hl 1 rfl) ?_
    refine r_scallv (As := [.ref (ad r1)]) (rest := []) S hG hP hS mX5_doArcs kX5_40 (tX5_doArcs _ _ _ _ _ _ _ _ h1) ⟨rfl, rfl⟩ (rm_ok (by decide) (by decide)) hm hl.1 rfl (Nat.le_of_ble_eq_true rfl) ⟨Nat.zero_le _, Nat.zero_le _⟩ dX5_doOne_6 (fun μ3 H locs hm hP hS => ?_)
    refine lv_goto (tgt := 22) hx hb dX5_doOne_9 (by decide) ?_
    exact wX5_doOne_22 S hr hG ho h1 μ3 hm H locs ls hP hS (lv_sub hl [1] rfl)
theorem tX5_doOne (l : Launch) (D : va_G) (cI cR : ClassId) (n : Nat) (K L ad : Nat → Nat) {o : Nat} (ho : isk n K o 5) {r1 : Nat} (h1 : isk n K r1 0) (v2 : Int32) : Cv l yX5_doOne cX5_doOne 3 none (rmL 5) D cI cR n K L ad [.ref (ad o), .ref (ad r1), .int v2] (fX5_doOne L o r1 v2) := by
  refine Cv.ofW (by decide) (Nat.le_of_ble_eq_true rfl) ?_
  intro μ x hm p e s m args below meth c ls S hr hG hP hS hl
  exact wX5_doOne_0 S hr hG ho h1 v2 μ hm _ _ ls hP hS hl
-- X5_doTillSettled
set_option maxHeartbeats 4000000 in
set_option maxRecDepth 100000 in
theorem wX5_doTillSettled_2 (S : CallFix p m c cX5_doTillSettled 4 s args TB RX5) (hr : meth.sig.returnType = (some .int) ∧ meth.locks = false) (hG : gok D cI cR n K L ad s) {o : Nat} {r1 : Nat} (ho : isk n K o 5) (h1 : isk n K r1 0) {x : Int32 × Mem} : ∀ (k : Nat) (v2 v3 : Int32) (μ : Mem), fX5_doTillSettled_2 L o r1 k v2 v3 μ = some x → WI p l e (rmL 6) s m args below meth c D cI cR n K L ad 4 x μ 2 [(0, .ref (ad o)), (1, .ref (ad r1)), (2, .int v2), (3, .int v3)] [] := by
  have hx := S.1
  have hb := S.2.1
  intro k
  induction k with
  | zero => intro v2 v3 μ hm; exact absurd (show none = some x from hm) (fun h => by cases h)
  | succ k ih =>
    intro v2 v3 μ hm H locs ls hP hS hl
    have hm : fX5_doTillSettled_2_b L o r1 (fX5_doTillSettled_2 L o r1 k) v2 v3 μ = some x := hm
    unfold fX5_doTillSettled_2_b at hm
    refine lv_iload_n hx hb dX5_doTillSettled_2 rfl (lv_at hl 3 rfl) ?_
    refine lv_bipush (v := (20 : Int32)) hx hb dX5_doTillSettled_3 (by decide) ?_
    refine b_icmp_ge (tgt := 41) S dX5_doTillSettled_5 (by decide) hm (fun hm => ?_) (fun hm => ?_)
    · refine lv_bipush (v := (20 : Int32)) hx hb dX5_doTillSettled_41 (by decide) ?_
      exact r_iret S hr hG hP hS hm dX5_doTillSettled_43
    · refine lv_aload_n hx hb dX5_doTillSettled_8 rfl (lv_at hl 1 rfl) ?_
      refine lv_aload_n hx hb dX5_doTillSettled_9 rfl (lv_at hl 0 rfl) ?_
      refine r_getr S hG hP ho clX5 fX5_0 kX5_14 dX5_doTillSettled_10 ?_
      refine r_vcallv (As := [.ref (ad (o + 1))]) (rest := []) S hG hP hS mX0_copyTo kX5_26 clX0 h1 (tX0_copyTo _ _ _ _ _ _ _ _ h1 (chX5_0 hG ho)) ⟨rfl, rfl⟩ (rm_ok (by decide) (by decide)) hm hl.1 rfl (Nat.le_of_ble_eq_true rfl) ⟨Nat.zero_le _, Nat.zero_le _⟩ dX5_doTillSettled_13 (fun μ1 H locs hm hP hS => ?_)
      refine lv_aload_n hx hb dX5_doTillSettled_16 rfl (lv_at hl 0 rfl) ?_
      refine lv_aload_n hx hb dX5_doTillSettled_17 rfl (lv_at hl 1 rfl) ?_
      refine lv_iload_n hx hb dX5_doTillSettled_18 rfl (lv_at hl 2 rfl) ?_
      refine r_vcallv (As := [.ref (ad r1), .int v2]) (rest := []) S hG hP hS mX5_doOne kX5_32 clX5 ho (tX5_doOne _ _ _ _ _ _ _ _ ho h1 v2) ⟨rfl, rfl⟩ (rm_ok (by decide) (by decide)) hm hl.1 rfl (Nat.le_of_ble_eq_true rfl) ⟨Nat.zero_le _, Nat.zero_le _⟩ dX5_doTillSettled_19 (fun μ2 H locs hm hP hS => ?_)
      refine lv_aload_n hx hb dX5_doTillSettled_22 rfl (lv_at hl 1 rfl) ?_
      refine lv_aload_n hx hb dX5_doTillSettled_23 rfl (lv_at hl 0 rfl) ?_
      refine r_getr S hG hP ho clX5 fX5_0 kX5_14 dX5_doTillSettled_24 ?_
      refine r_vcalli (As := [.ref (ad (o + 1))]) (rest := []) S hG hP hS mX0_areAs kX5_36 clX0 h1 (tX0_areAs _ _ _ _ _ _ _ _ h1 (chX5_0 hG ho)) ⟨rfl, rfl⟩ (rm_ok (by decide) (by decide)) hm hl.1 rfl (Nat.le_of_ble_eq_true rfl) ⟨Nat.zero_le _, Nat.zero_le _⟩ dX5_doTillSettled_27 (fun b4 μ3 H locs hm hP hS => ?_)
      refine b_if_eq (tgt := 35) S dX5_doTillSettled_30 (by decide) hm (fun hm => ?_) (fun hm => ?_)
      · refine r_iinc (b := (1 : Int32)) (k := 3) S hm dX5_doTillSettled_35 hl rfl (by decide) (by decide) (fun a5 ls hm hl => ?_)
        have hl : lv_has ls 4 [(3, .int a5), (0, .ref (ad o)), (1, .ref (ad r1)), (2, .int v2)] := hl
        refine lv_goto (tgt := 2) hx hb dX5_doTillSettled_38 (by decide) ?_
        exact ih v2 a5 μ3 hm H locs ls hP hS (lv_sub hl [1, 2, 3, 0] rfl)
      · refine lv_iload_n hx hb dX5_doTillSettled_33 rfl (lv_at hl 3 rfl) ?_
        exact r_iret S hr hG hP hS hm dX5_doTillSettled_34
set_option maxHeartbeats 4000000 in
set_option maxRecDepth 100000 in
theorem wX5_doTillSettled_0 (S : CallFix p m c cX5_doTillSettled 4 s args TB RX5) (hr : meth.sig.returnType = (some .int) ∧ meth.locks = false) (hG : gok D cI cR n K L ad s) {o : Nat} {r1 : Nat} (ho : isk n K o 5) (h1 : isk n K r1 0) {x : Int32 × Mem} : ∀ (v2 : Int32) (μ : Mem), fX5_doTillSettled L o r1 v2 μ = some x → WI p l e (rmL 6) s m args below meth c D cI cR n K L ad 4 x μ 0 [(0, .ref (ad o)), (1, .ref (ad r1)), (2, .int v2)] [] := by
  have hx := S.1
  have hb := S.2.1
  intro v2 μ hm H locs ls hP hS hl
  unfold fX5_doTillSettled at hm
  refine lv_iconst (v := (0 : Int32)) hx hb dX5_doTillSettled_0 (by decide) ?_
  refine lv_istore_n (lv' := [(3, .int (0 : Int32)), (0, .ref (ad o)), (1, .ref (ad r1)), (2, .int v2)]) hx hb dX5_doTillSettled_1 rfl hl (by decide) rfl (fun ls hl => ?_)
  exact wX5_doTillSettled_2 S hr hG ho h1 FU v2 (0 : Int32) μ hm H locs ls hP hS (lv_sub hl [1, 2, 3, 0] rfl)
theorem tX5_doTillSettled (l : Launch) (D : va_G) (cI cR : ClassId) (n : Nat) (K L ad : Nat → Nat) {o : Nat} (ho : isk n K o 5) {r1 : Nat} (h1 : isk n K r1 0) (v2 : Int32) : Ci l yX5_doTillSettled cX5_doTillSettled 4 (some .int) (rmL 6) D cI cR n K L ad [.ref (ad o), .ref (ad r1), .int v2] (fX5_doTillSettled L o r1 v2) := by
  refine Ci.ofW (by decide) (Nat.le_of_ble_eq_true rfl) ?_
  intro μ x hm p e s m args below meth c ls S hr hG hP hS hl
  exact wX5_doTillSettled_0 S hr hG ho h1 v2 μ hm _ _ ls hP hS hl
-- X7_leastBeside
set_option maxHeartbeats 4000000 in
set_option maxRecDepth 100000 in
theorem wX7_leastBeside_9 (S : CallFix p m c cX7_leastBeside 6 s args TB RX7) (hr : meth.sig.returnType = (some .int) ∧ meth.locks = false) (hG : gok D cI cR n K L ad s) {o : Nat} {r1 : Nat} (ho : isk n K o 7) (h1 : isk n K r1 0) {x : Int32 × Mem} : ∀ (k : Nat) (v2 v3 v4 v5 : Int32) (μ : Mem), fX7_leastBeside_9 L o r1 k v2 v3 v4 v5 μ = some x → WI p l e (rmL 2) s m args below meth c D cI cR n K L ad 6 x μ 9 [(0, .ref (ad o)), (1, .ref (ad r1)), (2, .int v2), (3, .int v3), (4, .int v4), (5, .int v5)] [] := by
  have hx := S.1
  have hb := S.2.1
  intro k
  induction k with
  | zero => intro v2 v3 v4 v5 μ hm; exact absurd (show none = some x from hm) (fun h => by cases h)
  | succ k ih =>
    intro v2 v3 v4 v5 μ hm H locs ls hP hS hl
    have hm : fX7_leastBeside_9_b L o r1 (fX7_leastBeside_9 L o r1 k) v2 v3 v4 v5 μ = some x := hm
    unfold fX7_leastBeside_9_b at hm
    refine lv_iload hx hb dX7_leastBeside_9 (lv_at hl 5 rfl) ?_
    refine lv_aload_n hx hb dX7_leastBeside_11 rfl (lv_at hl 1 rfl) ?_
    refine lv_iload_n hx hb dX7_leastBeside_12 rfl (lv_at hl 3 rfl) ?_
    refine r_vcalli (As := [.int v3]) (rest := [.int v5]) S hG hP hS mX0_valuesOf kX7_43 clX0 h1 (tX0_valuesOf _ _ _ _ _ _ _ _ h1 v3) ⟨rfl, rfl⟩ (rm_ok (by decide) (by decide)) hm hl.1 rfl (Nat.le_of_ble_eq_true rfl) ⟨Nat.zero_le _, Nat.zero_le _⟩ dX7_leastBeside_13 (fun b2 μ1 H locs hm hP hS => ?_)
    refine b_icmp_ge (tgt := 47) S dX7_leastBeside_16 (by decide) hm (fun hm => ?_) (fun hm => ?_)
    · refine lv_iload hx hb dX7_leastBeside_47 (lv_at hl 4 rfl) ?_
      exact r_iret S hr hG hP hS hm dX7_leastBeside_49
    · refine lv_iload hx hb dX7_leastBeside_19 (lv_at hl 4 rfl) ?_
      refine lv_aload_n hx hb dX7_leastBeside_21 rfl (lv_at hl 1 rfl) ?_
      refine lv_aload_n hx hb dX7_leastBeside_22 rfl (lv_at hl 0 rfl) ?_
      refine r_getr S hG hP ho clX7 fX7_0 kX7_14 dX7_leastBeside_23 ?_
      refine lv_iload_n hx hb dX7_leastBeside_26 rfl (lv_at hl 2 rfl) ?_
      refine lv_iconst (v := (1 : Int32)) hx hb dX7_leastBeside_27 (by decide) ?_
      refine lv_iadd hx hb dX7_leastBeside_28 ?_
      refine lv_iload_n hx hb dX7_leastBeside_29 rfl (lv_at hl 3 rfl) ?_
      refine lv_iload hx hb dX7_leastBeside_30 (lv_at hl 5 rfl) ?_
      refine lv_iconst (v := (-1 : Int32)) hx hb dX7_leastBeside_32 (by decide) ?_
      refine r_vcalli (As := [.ref (ad (o + 1)), .int (v2 + (1 : Int32)), .int v3, .int v5, .int (-1 : Int32)]) (rest := [.int v4]) S hG hP hS mX0_costBeside kX7_55 clX0 h1 (tX0_costBeside _ _ _ _ _ _ _ _ h1 (chX7_0 hG ho) (v2 + (1 : Int32)) v3 v5 (-1 : Int32)) ⟨rfl, rfl⟩ (rm_ok (by decide) (by decide)) hm hl.1 rfl (Nat.le_of_ble_eq_true rfl) ⟨Nat.zero_le _, Nat.zero_le _⟩ dX7_leastBeside_33 (fun b4 μ3 H locs hm hP hS => ?_)
      refine r_min S hl.1 kX7_70 ⟨Nat.le_of_ble_eq_true rfl, Nat.le_of_ble_eq_true rfl⟩ ⟨Nat.zero_le _, Nat.zero_le _⟩ dX7_leastBeside_36 ?_
      refine r_top hm (fun a5 hm => ?_)
      refine lv_istore (lv' := [(4, .int a5), (0, .ref (ad o)), (1, .ref (ad r1)), (2, .int v2), (3, .int v3), (5, .int v5)]) hx hb dX7_leastBeside_39 hl (by decide) rfl (fun ls hl => ?_)
      refine r_iinc (b := (1 : Int32)) (k := 5) S hm dX7_leastBeside_41 hl rfl (by decide) (by decide) (fun a6 ls hm hl => ?_)
      have hl : lv_has ls 6 [(5, .int a6), (4, .int a5), (0, .ref (ad o)), (1, .ref (ad r1)), (2, .int v2), (3, .int v3)] := hl
      refine lv_goto (tgt := 9) hx hb dX7_leastBeside_44 (by decide) ?_
      exact ih v2 v3 a5 a6 μ3 hm H locs ls hP hS (lv_sub hl [2, 3, 4, 5, 1, 0] rfl)
set_option maxHeartbeats 4000000 in
set_option maxRecDepth 100000 in
theorem wX7_leastBeside_0 (S : CallFix p m c cX7_leastBeside 6 s args TB RX7) (hr : meth.sig.returnType = (some .int) ∧ meth.locks = false) (hG : gok D cI cR n K L ad s) {o : Nat} {r1 : Nat} (ho : isk n K o 7) (h1 : isk n K r1 0) {x : Int32 × Mem} : ∀ (v2 v3 : Int32) (μ : Mem), fX7_leastBeside L o r1 v2 v3 μ = some x → WI p l e (rmL 2) s m args below meth c D cI cR n K L ad 6 x μ 0 [(0, .ref (ad o)), (1, .ref (ad r1)), (2, .int v2), (3, .int v3)] [] := by
  have hx := S.1
  have hb := S.2.1
  intro v2 v3 μ hm H locs ls hP hS hl
  unfold fX7_leastBeside at hm
  refine lv_aload_n hx hb dX7_leastBeside_0 rfl (lv_at hl 1 rfl) ?_
  refine r_vcalli (As := []) (rest := []) S hG hP hS mX0_top kX7_20 clX0 h1 (tX0_top _ _ _ _ _ _ _ _ h1) ⟨rfl, rfl⟩ (rm_ok (by decide) (by decide)) hm hl.1 rfl (Nat.le_of_ble_eq_true rfl) ⟨Nat.zero_le _, Nat.zero_le _⟩ dX7_leastBeside_1 (fun b8 μ7 H locs hm hP hS => ?_)
  refine lv_istore (lv' := [(4, .int b8), (0, .ref (ad o)), (1, .ref (ad r1)), (2, .int v2), (3, .int v3)]) hx hb dX7_leastBeside_4 hl (by decide) rfl (fun ls hl => ?_)
  refine lv_iconst (v := (0 : Int32)) hx hb dX7_leastBeside_6 (by decide) ?_
  refine lv_istore (lv' := [(5, .int (0 : Int32)), (4, .int b8), (0, .ref (ad o)), (1, .ref (ad r1)), (2, .int v2), (3, .int v3)]) hx hb dX7_leastBeside_7 hl (by decide) rfl (fun ls hl => ?_)
  exact wX7_leastBeside_9 S hr hG ho h1 FU v2 v3 b8 (0 : Int32) μ7 hm H locs ls hP hS (lv_sub hl [2, 3, 4, 5, 1, 0] rfl)
theorem tX7_leastBeside (l : Launch) (D : va_G) (cI cR : ClassId) (n : Nat) (K L ad : Nat → Nat) {o : Nat} (ho : isk n K o 7) {r1 : Nat} (h1 : isk n K r1 0) (v2 : Int32) (v3 : Int32) : Ci l yX7_leastBeside cX7_leastBeside 6 (some .int) (rmL 2) D cI cR n K L ad [.ref (ad o), .ref (ad r1), .int v2, .int v3] (fX7_leastBeside L o r1 v2 v3) := by
  refine Ci.ofW (by decide) (Nat.le_of_ble_eq_true rfl) ?_
  intro μ x hm p e s m args below meth c ls S hr hG hP hS hl
  exact wX7_leastBeside_0 S hr hG ho h1 v2 v3 μ hm _ _ ls hP hS hl
-- X7_lowOf
set_option maxHeartbeats 4000000 in
set_option maxRecDepth 100000 in
theorem wX7_lowOf_8 (S : CallFix p m c cX7_lowOf 6 s args TB RX7) (hr : meth.sig.returnType = (some .int) ∧ meth.locks = false) (hG : gok D cI cR n K L ad s) {o : Nat} {r1 : Nat} (ho : isk n K o 7) (h1 : isk n K r1 0) {x : Int32 × Mem} : ∀ (k : Nat) (v2 v4 v5 : Int32) (μ : Mem), fX7_lowOf_8 L o r1 k v2 v4 v5 μ = some x → WI p l e (rmL 3) s m args below meth c D cI cR n K L ad 6 x μ 8 [(0, .ref (ad o)), (1, .ref (ad r1)), (2, .int v2), (4, .int v4), (5, .int v5)] [] := by
  have hx := S.1
  have hb := S.2.1
  intro k
  induction k with
  | zero => intro v2 v4 v5 μ hm; exact absurd (show none = some x from hm) (fun h => by cases h)
  | succ k ih =>
    intro v2 v4 v5 μ hm H locs ls hP hS hl
    have hm : fX7_lowOf_8_b L o r1 (fX7_lowOf_8 L o r1 k) v2 v4 v5 μ = some x := hm
    unfold fX7_lowOf_8_b at hm
    refine lv_iload hx hb dX7_lowOf_8 (lv_at hl 4 rfl) ?_
    refine lv_aload_n hx hb dX7_lowOf_10 rfl (lv_at hl 1 rfl) ?_
    refine r_vcalli (As := []) (rest := [.int v5]) S hG hP hS mX0_names kX7_40 clX0 h1 (tX0_names _ _ _ _ _ _ _ _ h1) ⟨rfl, rfl⟩ (rm_ok (by decide) (by decide)) hm hl.1 rfl (Nat.le_of_ble_eq_true rfl) ⟨Nat.zero_le _, Nat.zero_le _⟩ dX7_lowOf_11 (fun b2 μ1 H locs hm hP hS => ?_)
    refine b_icmp_ge (tgt := 39) S dX7_lowOf_14 (by decide) hm (fun hm => ?_) (fun hm => ?_)
    · refine lv_iload hx hb dX7_lowOf_39 (lv_at hl 3 rfl) ?_
      exact r_iret S hr hG hP hS hm dX7_lowOf_41
    · refine lv_aload_n hx hb dX7_lowOf_17 rfl (lv_at hl 1 rfl) ?_
      refine lv_iload hx hb dX7_lowOf_18 (lv_at hl 3 rfl) ?_
      refine lv_aload_n hx hb dX7_lowOf_20 rfl (lv_at hl 0 rfl) ?_
      refine lv_aload_n hx hb dX7_lowOf_21 rfl (lv_at hl 1 rfl) ?_
      refine lv_iload_n hx hb dX7_lowOf_22 rfl (lv_at hl 2 rfl) ?_
      refine lv_iload hx hb dX7_lowOf_23 (lv_at hl 4 rfl) ?_
      refine r_vcalli (As := [.ref (ad r1), .int v2, .int v5]) (rest := [.int v4, .ref (ad r1)]) S hG hP hS mX7_leastBeside kX7_67 clX7 ho (tX7_leastBeside _ _ _ _ _ _ _ _ ho h1 v2 v5) ⟨rfl, rfl⟩ (rm_ok (by decide) (by decide)) hm hl.1 rfl (Nat.le_of_ble_eq_true rfl) ⟨Nat.zero_le _, Nat.zero_le _⟩ dX7_lowOf_25 (fun b4 μ3 H locs hm hP hS => ?_)
      refine r_vcalli (As := [.int v4, .int b4]) (rest := []) S hG hP hS mX0_sum kX7_59 clX0 h1 (tX0_sum _ _ _ _ _ _ _ _ h1 v4 b4) ⟨rfl, rfl⟩ (rm_ok (by decide) (by decide)) hm hl.1 rfl (Nat.le_of_ble_eq_true rfl) ⟨Nat.zero_le _, Nat.zero_le _⟩ dX7_lowOf_28 (fun b6 μ5 H locs hm hP hS => ?_)
      refine lv_istore (lv' := [(4, .int b6), (0, .ref (ad o)), (1, .ref (ad r1)), (2, .int v2), (5, .int v5)]) hx hb dX7_lowOf_31 hl (by decide) rfl (fun ls hl => ?_)
      refine r_iinc (b := (1 : Int32)) (k := 4) S hm dX7_lowOf_33 hl rfl (by decide) (by decide) (fun a7 ls hm hl => ?_)
      have hl : lv_has ls 6 [(5, .int a7), (4, .int b6), (0, .ref (ad o)), (1, .ref (ad r1)), (2, .int v2)] := hl
      refine lv_goto (tgt := 8) hx hb dX7_lowOf_36 (by decide) ?_
      exact ih v2 b6 a7 μ5 hm H locs ls hP hS (lv_sub hl [2, 3, 4, 1, 0] rfl)
set_option maxHeartbeats 4000000 in
set_option maxRecDepth 100000 in
theorem wX7_lowOf_0 (S : CallFix p m c cX7_lowOf 6 s args TB RX7) (hr : meth.sig.returnType = (some .int) ∧ meth.locks = false) (hG : gok D cI cR n K L ad s) {o : Nat} {r1 : Nat} (ho : isk n K o 7) (h1 : isk n K r1 0) {x : Int32 × Mem} : ∀ (v2 v3 : Int32) (μ : Mem), fX7_lowOf L o r1 v2 v3 μ = some x → WI p l e (rmL 3) s m args below meth c D cI cR n K L ad 6 x μ 0 [(0, .ref (ad o)), (1, .ref (ad r1)), (2, .int v2), (3, .int v3)] [] := by
  have hx := S.1
  have hb := S.2.1
  intro v2 v3 μ hm H locs ls hP hS hl
  unfold fX7_lowOf at hm
  refine lv_iload_n hx hb dX7_lowOf_0 rfl (lv_at hl 3 rfl) ?_
  refine lv_istore (lv' := [(4, .int v3), (0, .ref (ad o)), (1, .ref (ad r1)), (2, .int v2), (3, .int v3)]) hx hb dX7_lowOf_1 hl (by decide) rfl (fun ls hl => ?_)
  refine lv_iload_n hx hb dX7_lowOf_3 rfl (lv_at hl 3 rfl) ?_
  refine lv_iconst (v := (1 : Int32)) hx hb dX7_lowOf_4 (by decide) ?_
  refine lv_iadd hx hb dX7_lowOf_5 ?_
  refine r_top hm (fun a8 hm => ?_)
  refine lv_istore (lv' := [(5, .int a8), (4, .int v3), (0, .ref (ad o)), (1, .ref (ad r1)), (2, .int v2), (3, .int v3)]) hx hb dX7_lowOf_6 hl (by decide) rfl (fun ls hl => ?_)
  exact wX7_lowOf_8 S hr hG ho h1 FU v2 v3 a8 μ hm H locs ls hP hS (lv_sub hl [2, 3, 4, 1, 0] rfl)
theorem tX7_lowOf (l : Launch) (D : va_G) (cI cR : ClassId) (n : Nat) (K L ad : Nat → Nat) {o : Nat} (ho : isk n K o 7) {r1 : Nat} (h1 : isk n K r1 0) (v2 : Int32) (v3 : Int32) : Ci l yX7_lowOf cX7_lowOf 6 (some .int) (rmL 3) D cI cR n K L ad [.ref (ad o), .ref (ad r1), .int v2, .int v3] (fX7_lowOf L o r1 v2 v3) := by
  refine Ci.ofW (by decide) (Nat.le_of_ble_eq_true rfl) ?_
  intro μ x hm p e s m args below meth c ls S hr hG hP hS hl
  exact wX7_lowOf_0 S hr hG ho h1 v2 v3 μ hm _ _ ls hP hS hl
-- X7_tryValue
set_option maxHeartbeats 4000000 in
set_option maxRecDepth 100000 in
theorem wX7_tryValue_0 {d : Nat} (S : CallFix p m c cX7_tryValue 7 s args TB RX7) (hr : meth.sig.returnType = none ∧ meth.locks = false) (hG : gok D cI cR n K L ad s) {go : Int32 → Int32 → Mem → Option Mem} {o : Nat} {r1 : Nat} (hgo : ∀ a b : Int32, Cv l yX7_goOn cX7_goOn 5 none (rmL (5 + 2 * d)) D cI cR n K L ad [.ref (ad o), .ref (ad r1), .int a, .int b] (go a b)) (ho : isk n K o 7) (h1 : isk n K r1 0) {x : Mem} : ∀ (v2 v3 v4 : Int32) (μ : Mem), fX7_tryValue_0 L go o r1 v2 v3 v4 μ = some x → WV p l e (rmL (5 + 2 * d + 1)) s m args below meth c D cI cR n K L ad 7 x μ 0 [(0, .ref (ad o)), (1, .ref (ad r1)), (2, .int v2), (3, .int v3), (4, .int v4)] [] := by
  have hx := S.1
  have hb := S.2.1
  intro v2 v3 v4 μ hm H locs ls hP hS hl
  unfold fX7_tryValue_0 at hm
  refine lv_aload_n hx hb dX7_tryValue_0 rfl (lv_at hl 0 rfl) ?_
  refine r_getr S hG hP ho clX7 fX7_0 kX7_14 dX7_tryValue_1 ?_
  refine lv_iload_n hx hb dX7_tryValue_4 rfl (lv_at hl 2 rfl) ?_
  refine lv_iload_n hx hb dX7_tryValue_5 rfl (lv_at hl 3 rfl) ?_
  refine r_vcallv (As := [.int v2, .int v3]) (rest := []) S hG hP hS mX3_set kX7_51 clX3 (chX7_0 hG ho) (tX3_set _ _ _ _ _ _ _ _ (chX7_0 hG ho) v2 v3) ⟨rfl, rfl⟩ (rm_ok (by omega) (by decide)) hm hl.1 rfl (Nat.le_of_ble_eq_true rfl) ⟨Nat.zero_le _, Nat.zero_le _⟩ dX7_tryValue_6 (fun μ1 H locs hm hP hS => ?_)
  refine lv_aload_n hx hb dX7_tryValue_9 rfl (lv_at hl 0 rfl) ?_
  refine lv_dup hx hb dX7_tryValue_10 rfl ?_
  refine r_geti S hG hP ho clX7 fX7_2 kX7_30 dX7_tryValue_11 ?_
  refine lv_iconst (v := (1 : Int32)) hx hb dX7_tryValue_14 (by decide) ?_
  refine lv_iadd hx hb dX7_tryValue_15 ?_
  refine r_puti S hG hP hS ho clX7 fX7_2 kX7_30 hm dX7_tryValue_16 (fun μ2 H locs hm hP hS => ?_)
  refine lv_aload_n hx hb dX7_tryValue_19 rfl (lv_at hl 1 rfl) ?_
  refine lv_iload hx hb dX7_tryValue_20 (lv_at hl 4 rfl) ?_
  refine lv_aload_n hx hb dX7_tryValue_22 rfl (lv_at hl 1 rfl) ?_
  refine lv_aload_n hx hb dX7_tryValue_23 rfl (lv_at hl 0 rfl) ?_
  refine r_getr S hG hP ho clX7 fX7_0 kX7_14 dX7_tryValue_24 ?_
  refine lv_iload_n hx hb dX7_tryValue_27 rfl (lv_at hl 2 rfl) ?_
  refine lv_iload_n hx hb dX7_tryValue_28 rfl (lv_at hl 2 rfl) ?_
  refine lv_iload_n hx hb dX7_tryValue_29 rfl (lv_at hl 3 rfl) ?_
  refine lv_iconst (v := (-1 : Int32)) hx hb dX7_tryValue_30 (by decide) ?_
  refine r_vcalli (As := [.ref (ad (o + 1)), .int v2, .int v2, .int v3, .int (-1 : Int32)]) (rest := [.int v4, .ref (ad r1)]) S hG hP hS mX0_costBeside kX7_55 clX0 h1 (tX0_costBeside _ _ _ _ _ _ _ _ h1 (chX7_0 hG ho) v2 v2 v3 (-1 : Int32)) ⟨rfl, rfl⟩ (rm_ok (by omega) (by decide)) hm hl.1 rfl (Nat.le_of_ble_eq_true rfl) ⟨Nat.zero_le _, Nat.zero_le _⟩ dX7_tryValue_31 (fun b4 μ3 H locs hm hP hS => ?_)
  refine r_vcalli (As := [.int v4, .int b4]) (rest := []) S hG hP hS mX0_sum kX7_59 clX0 h1 (tX0_sum _ _ _ _ _ _ _ _ h1 v4 b4) ⟨rfl, rfl⟩ (rm_ok (by omega) (by decide)) hm hl.1 rfl (Nat.le_of_ble_eq_true rfl) ⟨Nat.zero_le _, Nat.zero_le _⟩ dX7_tryValue_34 (fun b6 μ5 H locs hm hP hS => ?_)
  refine lv_istore (lv' := [(5, .int b6), (0, .ref (ad o)), (1, .ref (ad r1)), (2, .int v2), (3, .int v3), (4, .int v4)]) hx hb dX7_tryValue_37 hl (by decide) rfl (fun ls hl => ?_)
  refine lv_aload_n hx hb dX7_tryValue_39 rfl (lv_at hl 1 rfl) ?_
  refine lv_aload_n hx hb dX7_tryValue_40 rfl (lv_at hl 2 rfl) ?_
  refine lv_iload_n hx hb dX7_tryValue_41 rfl (lv_at hl 3 rfl) ?_
  refine lv_iload hx hb dX7_tryValue_42 (lv_at hl 0 rfl) ?_
  refine r_vcalli (As := [.ref (ad r1), .int v2, .int b6]) (rest := []) S hG hP hS mX7_lowOf kX7_63 clX7 ho (tX7_lowOf _ _ _ _ _ _ _ _ ho h1 v2 b6) ⟨rfl, rfl⟩ (rm_ok (by omega) (by decide)) hm hl.1 rfl (Nat.le_of_ble_eq_true rfl) ⟨Nat.zero_le _, Nat.zero_le _⟩ dX7_tryValue_44 (fun b8 μ7 H locs hm hP hS => ?_)
  refine lv_istore (lv' := [(6, .int b8), (5, .int b6), (0, .ref (ad o)), (1, .ref (ad r1)), (2, .int v2), (3, .int v3), (4, .int v4)]) hx hb dX7_tryValue_47 hl (by decide) rfl (fun ls hl => ?_)
  refine lv_iload hx hb dX7_tryValue_49 (lv_at hl 0 rfl) ?_
  refine lv_aload_n hx hb dX7_tryValue_51 rfl (lv_at hl 2 rfl) ?_
  refine r_geti S hG hP ho clX7 fX7_1 kX7_26 dX7_tryValue_52 ?_
  refine b_icmp_lt (tgt := 59) S dX7_tryValue_55 (by decide) hm (fun hm => ?_) (fun hm => ?_)
  · refine lv_iload_n hx hb dX7_tryValue_59 rfl (lv_at hl 4 rfl) ?_
    refine lv_iconst (v := (1 : Int32)) hx hb dX7_tryValue_60 (by decide) ?_
    refine lv_iadd hx hb dX7_tryValue_61 ?_
    refine lv_aload_n hx hb dX7_tryValue_62 rfl (lv_at hl 3 rfl) ?_
    refine r_vcalli (As := []) (rest := [.int (v2 + (1 : Int32))]) S hG hP hS mX0_names kX7_40 clX0 h1 (tX0_names _ _ _ _ _ _ _ _ h1) ⟨rfl, rfl⟩ (rm_ok (by omega) (by decide)) hm hl.1 rfl (Nat.le_of_ble_eq_true rfl) ⟨Nat.zero_le _, Nat.zero_le _⟩ dX7_tryValue_63 (fun b10 μ9 H locs hm hP hS => ?_)
    refine b_icmp_ne (tgt := 78) S dX7_tryValue_66 (by decide) hm (fun hm => ?_) (fun hm => ?_)
    · refine lv_aload_n hx hb dX7_tryValue_78 rfl (lv_at hl 2 rfl) ?_
      refine lv_aload_n hx hb dX7_tryValue_79 rfl (lv_at hl 3 rfl) ?_
      refine lv_iload_n hx hb dX7_tryValue_80 rfl (lv_at hl 4 rfl) ?_
      refine lv_iconst (v := (1 : Int32)) hx hb dX7_tryValue_81 (by decide) ?_
      refine lv_iadd hx hb dX7_tryValue_82 ?_
      refine lv_iload hx hb dX7_tryValue_83 (lv_at hl 1 rfl) ?_
      refine r_vcallv (As := [.ref (ad r1), .int (v2 + (1 : Int32)), .int b6]) (rest := []) S hG hP hS mX7_goOn kX7_36 clX7 ho (hgo (v2 + (1 : Int32)) b6) ⟨rfl, rfl⟩ (rm_ok (by omega) (by decide)) hm hl.1 rfl (Nat.le_of_ble_eq_true rfl) ⟨Nat.zero_le _, Nat.zero_le _⟩ dX7_tryValue_85 (fun μ11 H locs hm hP hS => ?_)
      exact r_vret S hr hG hP hS hm dX7_tryValue_88
    · refine lv_aload_n hx hb dX7_tryValue_69 rfl (lv_at hl 2 rfl) ?_
      refine lv_iload hx hb dX7_tryValue_70 (lv_at hl 0 rfl) ?_
      refine r_puti S hG hP hS ho clX7 fX7_1 kX7_26 hm dX7_tryValue_72 (fun μ12 H locs hm hP hS => ?_)
      refine lv_goto (tgt := 88) hx hb dX7_tryValue_75 (by decide) ?_
      exact r_vret S hr hG hP hS hm dX7_tryValue_88
  · exact r_vret S hr hG hP hS hm dX7_tryValue_58
theorem tX7_tryValue {l : Launch} {D : va_G} {cI cR : ClassId} {n : Nat} {K L ad : Nat → Nat} (d : Nat) {go : Int32 → Int32 → Mem → Option Mem} {o : Nat} {r1 : Nat} (hgo : ∀ a b : Int32, Cv l yX7_goOn cX7_goOn 5 none (rmL (5 + 2 * d)) D cI cR n K L ad [.ref (ad o), .ref (ad r1), .int a, .int b] (go a b)) (ho : isk n K o 7) (h1 : isk n K r1 0) (v2 v3 v4 : Int32) : Cv l yX7_tryValue cX7_tryValue 7 none (rmL (5 + 2 * d + 1)) D cI cR n K L ad [.ref (ad o), .ref (ad r1), .int v2, .int v3, .int v4] (fX7_tryValue L go o r1 v2 v3 v4) := by
  refine Cv.ofW (by decide) (Nat.le_of_ble_eq_true rfl) ?_
  intro μ x hm p e s m args below meth c ls S hr hG hP hS hl
  exact wX7_tryValue_0 S hr hG hgo ho h1 v2 v3 v4 μ hm _ _ ls hP hS hl
-- X7_goOn
set_option maxHeartbeats 4000000 in
set_option maxRecDepth 100000 in
theorem wX7_goOn_18 {d : Nat} (S : CallFix p m c cX7_goOn 5 s args TB RX7) (hr : meth.sig.returnType = none ∧ meth.locks = false) (hG : gok D cI cR n K L ad s) {go : Int32 → Int32 → Mem → Option Mem} {o : Nat} {r1 : Nat} (hgo : ∀ a b : Int32, Cv l yX7_goOn cX7_goOn 5 none (rmL (5 + 2 * d)) D cI cR n K L ad [.ref (ad o), .ref (ad r1), .int a, .int b] (go a b)) (ho : isk n K o 7) (h1 : isk n K r1 0) {x : Mem} : ∀ (k : Nat) (v2 v3 v4 : Int32) (μ : Mem), fX7_goOn_18 L go o r1 k v2 v3 v4 μ = some x → WV p l e (rmL (5 + 2 * d + 2)) s m args below meth c D cI cR n K L ad 5 x μ 18 [(0, .ref (ad o)), (1, .ref (ad r1)), (2, .int v2), (3, .int v3), (4, .int v4)] [] := by
  have hx := S.1
  have hb := S.2.1
  intro k
  induction k with
  | zero => intro v2 v3 v4 μ hm; exact absurd (show none = some x from hm) (fun h => by cases h)
  | succ k ih =>
    intro v2 v3 v4 μ hm H locs ls hP hS hl
    have hm : fX7_goOn_18_b L go o r1 (fX7_goOn_18 L go o r1 k) v2 v3 v4 μ = some x := hm
    unfold fX7_goOn_18_b at hm
    refine lv_iload hx hb dX7_goOn_18 (lv_at hl 4 rfl) ?_
    refine lv_aload_n hx hb dX7_goOn_20 rfl (lv_at hl 1 rfl) ?_
    refine lv_iload_n hx hb dX7_goOn_21 rfl (lv_at hl 2 rfl) ?_
    refine r_vcalli (As := [.int v2]) (rest := [.int v4]) S hG hP hS mX0_valuesOf kX7_43 clX0 h1 (tX0_valuesOf _ _ _ _ _ _ _ _ h1 v2) ⟨rfl, rfl⟩ (rm_ok (by omega) (by decide)) hm hl.1 rfl (Nat.le_of_ble_eq_true rfl) ⟨Nat.zero_le _, Nat.zero_le _⟩ dX7_goOn_22 (fun b2 μ1 H locs hm hP hS => ?_)
    refine b_icmp_ge (tgt := 43) S dX7_goOn_25 (by decide) hm (fun hm => ?_) (fun hm => ?_)
    · exact r_vret S hr hG hP hS hm dX7_goOn_43
    · refine lv_aload_n hx hb dX7_goOn_28 rfl (lv_at hl 0 rfl) ?_
      refine lv_aload_n hx hb dX7_goOn_29 rfl (lv_at hl 1 rfl) ?_
      refine lv_iload_n hx hb dX7_goOn_30 rfl (lv_at hl 2 rfl) ?_
      refine lv_iload hx hb dX7_goOn_31 (lv_at hl 4 rfl) ?_
      refine lv_iload_n hx hb dX7_goOn_33 rfl (lv_at hl 3 rfl) ?_
      refine r_vcallv (As := [.ref (ad r1), .int v2, .int v4, .int v3]) (rest := []) S hG hP hS mX7_tryValue kX7_47 clX7 ho (tX7_tryValue d hgo ho h1 v2 v4 v3) ⟨rfl, rfl⟩ (rm_ok (by omega) (by decide)) hm hl.1 rfl (Nat.le_of_ble_eq_true rfl) ⟨Nat.zero_le _, Nat.zero_le _⟩ dX7_goOn_34 (fun μ3 H locs hm hP hS => ?_)
      refine r_iinc (b := (1 : Int32)) (k := 4) S hm dX7_goOn_37 hl rfl (by decide) (by decide) (fun a4 ls hm hl => ?_)
      have hl : lv_has ls 5 [(4, .int a4), (0, .ref (ad o)), (1, .ref (ad r1)), (2, .int v2), (3, .int v3)] := hl
      refine lv_goto (tgt := 18) hx hb dX7_goOn_40 (by decide) ?_
      exact ih v2 v3 a4 μ3 hm H locs ls hP hS (lv_sub hl [1, 2, 3, 4, 0] rfl)
set_option maxHeartbeats 4000000 in
set_option maxRecDepth 100000 in
theorem wX7_goOn_0 {d : Nat} (S : CallFix p m c cX7_goOn 5 s args TB RX7) (hr : meth.sig.returnType = none ∧ meth.locks = false) (hG : gok D cI cR n K L ad s) {go : Int32 → Int32 → Mem → Option Mem} {o : Nat} {r1 : Nat} (hgo : ∀ a b : Int32, Cv l yX7_goOn cX7_goOn 5 none (rmL (5 + 2 * d)) D cI cR n K L ad [.ref (ad o), .ref (ad r1), .int a, .int b] (go a b)) (ho : isk n K o 7) (h1 : isk n K r1 0) {x : Mem} : ∀ (v2 v3 : Int32) (μ : Mem), fX7_goOn_0 L go o r1 v2 v3 μ = some x → WV p l e (rmL (5 + 2 * d + 2)) s m args below meth c D cI cR n K L ad 5 x μ 0 [(0, .ref (ad o)), (1, .ref (ad r1)), (2, .int v2), (3, .int v3)] [] := by
  have hx := S.1
  have hb := S.2.1
  intro v2 v3 μ hm H locs ls hP hS hl
  unfold fX7_goOn_0 at hm
  refine lv_iload_n hx hb dX7_goOn_0 rfl (lv_at hl 2 rfl) ?_
  refine lv_aload_n hx hb dX7_goOn_1 rfl (lv_at hl 1 rfl) ?_
  refine r_vcalli (As := []) (rest := [.int v2]) S hG hP hS mX0_names kX7_40 clX0 h1 (tX0_names _ _ _ _ _ _ _ _ h1) ⟨rfl, rfl⟩ (rm_ok (by omega) (by decide)) hm hl.1 rfl (Nat.le_of_ble_eq_true rfl) ⟨Nat.zero_le _, Nat.zero_le _⟩ dX7_goOn_2 (fun b6 μ5 H locs hm hP hS => ?_)
  refine b_icmp_ge (tgt := 14) S dX7_goOn_5 (by decide) hm (fun hm => ?_) (fun hm => ?_)
  · exact r_vret S hr hG hP hS hm dX7_goOn_14
  · refine lv_iload_n hx hb dX7_goOn_8 rfl (lv_at hl 2 rfl) ?_
    refine lv_bipush (v := (6 : Int32)) hx hb dX7_goOn_9 (by decide) ?_
    refine b_icmp_lt (tgt := 15) S dX7_goOn_11 (by decide) hm (fun hm => ?_) (fun hm => ?_)
    · refine lv_iconst (v := (0 : Int32)) hx hb dX7_goOn_15 (by decide) ?_
      refine lv_istore (lv' := [(4, .int (0 : Int32)), (0, .ref (ad o)), (1, .ref (ad r1)), (2, .int v2), (3, .int v3)]) hx hb dX7_goOn_16 hl (by decide) rfl (fun ls hl => ?_)
      exact wX7_goOn_18 S hr hG hgo ho h1 FU v2 v3 (0 : Int32) μ5 hm H locs ls hP hS (lv_sub hl [1, 2, 3, 4, 0] rfl)
    · exact r_vret S hr hG hP hS hm dX7_goOn_14
theorem tX7_goOn (d : Nat) (l : Launch) (D : va_G) (cI cR : ClassId) (n : Nat) (K L ad : Nat → Nat) {o : Nat} (ho : isk n K o 7) {r1 : Nat} (h1 : isk n K r1 0) : ∀ (v2 v3 : Int32), Cv l yX7_goOn cX7_goOn 5 none (rmL (5 + 2 * d)) D cI cR n K L ad [.ref (ad o), .ref (ad r1), .int v2, .int v3] (fX7_goOn d L o r1 v2 v3) := by
  induction d with
  | zero => intro v2 v3 μ x hm; exact absurd (show none = some x from hm) (fun h => by cases h)
  | succ d ih =>
    intro v2 v3
    refine Cv.ofW (by decide) (Nat.le_of_ble_eq_true rfl) ?_
    intro μ x hm p e s m args below meth c ls S hr hG hP hS hl
    exact wX7_goOn_0 S hr hG ih ho h1 v2 v3 μ hm _ _ ls hP hS hl
-- X7_countTries
set_option maxHeartbeats 4000000 in
set_option maxRecDepth 100000 in
theorem wX7_countTries_0 (S : CallFix p m c cX7_countTries 2 s args TB RX7) (hr : meth.sig.returnType = (some .int) ∧ meth.locks = false) (hG : gok D cI cR n K L ad s) {o : Nat} {r1 : Nat} (ho : isk n K o 7) (h1 : isk n K r1 0) {x : Int32 × Mem} : ∀ (μ : Mem), fX7_countTries L o r1 μ = some x → WI p l e (rmL 23) s m args below meth c D cI cR n K L ad 2 x μ 0 [(0, .ref (ad o)), (1, .ref (ad r1))] [] := by
  have hx := S.1
  have hb := S.2.1
  intro μ hm H locs ls hP hS hl
  unfold fX7_countTries at hm
  refine lv_aload_n hx hb dX7_countTries_0 rfl (lv_at hl 0 rfl) ?_
  refine lv_aload_n hx hb dX7_countTries_1 rfl (lv_at hl 1 rfl) ?_
  refine r_vcalli (As := []) (rest := [.ref (ad o)]) S hG hP hS mX0_top kX7_20 clX0 h1 (tX0_top _ _ _ _ _ _ _ _ h1) ⟨rfl, rfl⟩ (rm_ok (by decide) (by decide)) hm hl.1 rfl (Nat.le_of_ble_eq_true rfl) ⟨Nat.zero_le _, Nat.zero_le _⟩ dX7_countTries_2 (fun b2 μ1 H locs hm hP hS => ?_)
  refine r_puti S hG hP hS ho clX7 fX7_1 kX7_26 hm dX7_countTries_5 (fun μ3 H locs hm hP hS => ?_)
  refine lv_aload_n hx hb dX7_countTries_8 rfl (lv_at hl 0 rfl) ?_
  refine lv_iconst (v := (0 : Int32)) hx hb dX7_countTries_9 (by decide) ?_
  refine r_puti S hG hP hS ho clX7 fX7_2 kX7_30 hm dX7_countTries_10 (fun μ4 H locs hm hP hS => ?_)
  refine lv_aload_n hx hb dX7_countTries_13 rfl (lv_at hl 0 rfl) ?_
  refine lv_aload_n hx hb dX7_countTries_14 rfl (lv_at hl 1 rfl) ?_
  refine lv_iconst (v := (0 : Int32)) hx hb dX7_countTries_15 (by decide) ?_
  refine lv_aload_n hx hb dX7_countTries_16 rfl (lv_at hl 1 rfl) ?_
  refine r_vcalli (As := []) (rest := [.int (0 : Int32), .ref (ad r1), .ref (ad o)]) S hG hP hS mX0_constant kX7_33 clX0 h1 (tX0_constant _ _ _ _ _ _ _ _ h1) ⟨rfl, rfl⟩ (rm_ok (by decide) (by decide)) hm hl.1 rfl (Nat.le_of_ble_eq_true rfl) ⟨Nat.zero_le _, Nat.zero_le _⟩ dX7_countTries_17 (fun b6 μ5 H locs hm hP hS => ?_)
  refine r_vcallv (As := [.ref (ad r1), .int (0 : Int32), .int b6]) (rest := []) S hG hP hS mX7_goOn kX7_36 clX7 ho (tX7_goOn 8 _ _ _ _ _ _ _ _ ho h1 (0 : Int32) b6) ⟨rfl, rfl⟩ (rm_ok (by decide) (by decide)) hm hl.1 rfl (Nat.le_of_ble_eq_true rfl) ⟨Nat.zero_le _, Nat.zero_le _⟩ dX7_countTries_20 (fun μ7 H locs hm hP hS => ?_)
  refine lv_aload_n hx hb dX7_countTries_23 rfl (lv_at hl 0 rfl) ?_
  refine r_geti S hG hP ho clX7 fX7_2 kX7_30 dX7_countTries_24 ?_
  exact r_iret S hr hG hP hS hm dX7_countTries_27
theorem tX7_countTries (l : Launch) (D : va_G) (cI cR : ClassId) (n : Nat) (K L ad : Nat → Nat) {o : Nat} (ho : isk n K o 7) {r1 : Nat} (h1 : isk n K r1 0) : Ci l yX7_countTries cX7_countTries 2 (some .int) (rmL 23) D cI cR n K L ad [.ref (ad o), .ref (ad r1)] (fX7_countTries L o r1) := by
  refine Ci.ofW (by decide) (Nat.le_of_ble_eq_true rfl) ?_
  intro μ x hm p e s m args below meth c ls S hr hG hP hS hl
  exact wX7_countTries_0 S hr hG ho h1 μ hm _ _ ls hP hS hl
end WALKD
